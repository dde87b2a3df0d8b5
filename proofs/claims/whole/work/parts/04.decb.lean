theorem dX7_comesOne_8 : decode cX7_comesOne 8 = .ok (.iload_n 1, 1) := by decide +kernel
theorem dX7_comesOne_9 : decode cX7_comesOne 9 = .ok (.bipush 117, 2) := by decide +kernel
theorem dX7_comesOne_11 : decode cX7_comesOne 11 = .ok (.if_icmp .ne 11, 3) := by decide +kernel
theorem dX7_comesOne_14 : decode cX7_comesOne 14 = .ok (.iload_n 3, 1) := by decide +kernel
theorem dX7_comesOne_15 : decode cX7_comesOne 15 = .ok (.bipush 20, 2) := by decide +kernel
theorem dX7_comesOne_17 : decode cX7_comesOne 17 = .ok (.if_icmp .le 5, 3) := by decide +kernel
theorem dX7_comesOne_20 : decode cX7_comesOne 20 = .ok (.iconst 0, 1) := by decide +kernel
theorem dX7_comesOne_21 : decode cX7_comesOne 21 = .ok (.ireturn, 1) := by decide +kernel
theorem dX7_comesOne_22 : decode cX7_comesOne 22 = .ok (.iload_n 1, 1) := by decide +kernel
theorem dX7_comesOne_23 : decode cX7_comesOne 23 = .ok (.bipush 117, 2) := by decide +kernel
theorem dX7_comesOne_25 : decode cX7_comesOne 25 = .ok (.if_icmp .ne 13, 3) := by decide +kernel
theorem dX7_comesOne_28 : decode cX7_comesOne 28 = .ok (.aload_n 0, 1) := by decide +kernel
theorem dX7_comesOne_29 : decode cX7_comesOne 29 = .ok (.getfield 25, 3) := by decide +kernel
theorem dX7_comesOne_32 : decode cX7_comesOne 32 = .ok (.iload_n 2, 1) := by decide +kernel
theorem dX7_comesOne_33 : decode cX7_comesOne 33 = .ok (.iload_n 3, 1) := by decide +kernel
theorem dX7_comesOne_34 : decode cX7_comesOne 34 = .ok (.iastore, 1) := by decide +kernel
theorem dX7_comesOne_35 : decode cX7_comesOne 35 = .ok (.goto 10, 3) := by decide +kernel
theorem dX7_comesOne_38 : decode cX7_comesOne 38 = .ok (.aload_n 0, 1) := by decide +kernel
theorem dX7_comesOne_39 : decode cX7_comesOne 39 = .ok (.getfield 22, 3) := by decide +kernel
theorem dX7_comesOne_42 : decode cX7_comesOne 42 = .ok (.iload_n 2, 1) := by decide +kernel
theorem dX7_comesOne_43 : decode cX7_comesOne 43 = .ok (.iload_n 3, 1) := by decide +kernel
theorem dX7_comesOne_44 : decode cX7_comesOne 44 = .ok (.iastore, 1) := by decide +kernel
theorem dX7_comesOne_45 : decode cX7_comesOne 45 = .ok (.iconst 1, 1) := by decide +kernel
theorem dX7_comesOne_46 : decode cX7_comesOne 46 = .ok (.ireturn, 1) := by decide +kernel
theorem dX7_comes_0 : decode cX7_comes 0 = .ok (.iconst 3, 1) := by decide +kernel
theorem dX7_comes_1 : decode cX7_comes 1 = .ok (.iload_n 1, 1) := by decide +kernel
theorem dX7_comes_2 : decode cX7_comes 2 = .ok (.imul, 1) := by decide +kernel
theorem dX7_comes_3 : decode cX7_comes 3 = .ok (.istore_n 2, 1) := by decide +kernel
theorem dX7_comes_4 : decode cX7_comes 4 = .ok (.aload_n 0, 1) := by decide +kernel
theorem dX7_comes_5 : decode cX7_comes 5 = .ok (.getfield 41, 3) := by decide +kernel
theorem dX7_comes_8 : decode cX7_comes 8 = .ok (.iload_n 1, 1) := by decide +kernel
theorem dX7_comes_9 : decode cX7_comes 9 = .ok (.iaload, 1) := by decide +kernel
theorem dX7_comes_10 : decode cX7_comes 10 = .ok (.lookupswitch 105 #[(99, 67), (104, 94), (114, 48), (116, 42)], 42) := by decide +kernel
theorem dX7_comes_52 : decode cX7_comes 52 = .ok (.aload_n 0, 1) := by decide +kernel
theorem dX7_comes_53 : decode cX7_comes 53 = .ok (.iload_n 2, 1) := by decide +kernel
theorem dX7_comes_54 : decode cX7_comes 54 = .ok (.invokevirtual 126, 3) := by decide +kernel
theorem dX7_comes_57 : decode cX7_comes 57 = .ok (.ireturn, 1) := by decide +kernel
theorem dX7_comes_58 : decode cX7_comes 58 = .ok (.aload_n 0, 1) := by decide +kernel
theorem dX7_comes_59 : decode cX7_comes 59 = .ok (.aload_n 0, 1) := by decide +kernel
theorem dX7_comes_60 : decode cX7_comes 60 = .ok (.getfield 47, 3) := by decide +kernel
theorem dX7_comes_63 : decode cX7_comes 63 = .ok (.iload_n 2, 1) := by decide +kernel
theorem dX7_comes_64 : decode cX7_comes 64 = .ok (.iaload, 1) := by decide +kernel
theorem dX7_comes_65 : decode cX7_comes 65 = .ok (.aload_n 0, 1) := by decide +kernel
theorem dX7_comes_66 : decode cX7_comes 66 = .ok (.getfield 47, 3) := by decide +kernel
theorem dX7_comes_69 : decode cX7_comes 69 = .ok (.iload_n 2, 1) := by decide +kernel
theorem dX7_comes_70 : decode cX7_comes 70 = .ok (.iconst 1, 1) := by decide +kernel
theorem dX7_comes_71 : decode cX7_comes 71 = .ok (.iadd, 1) := by decide +kernel
theorem dX7_comes_72 : decode cX7_comes 72 = .ok (.iaload, 1) := by decide +kernel
theorem dX7_comes_73 : decode cX7_comes 73 = .ok (.invokevirtual 129, 3) := by decide +kernel
theorem dX7_comes_76 : decode cX7_comes 76 = .ok (.ireturn, 1) := by decide +kernel
theorem dX7_comes_77 : decode cX7_comes 77 = .ok (.aload_n 0, 1) := by decide +kernel
theorem dX7_comes_78 : decode cX7_comes 78 = .ok (.aload_n 0, 1) := by decide +kernel
theorem dX7_comes_79 : decode cX7_comes 79 = .ok (.getfield 47, 3) := by decide +kernel
theorem dX7_comes_82 : decode cX7_comes 82 = .ok (.iload_n 2, 1) := by decide +kernel
theorem dX7_comes_83 : decode cX7_comes 83 = .ok (.iaload, 1) := by decide +kernel
theorem dX7_comes_84 : decode cX7_comes 84 = .ok (.invokevirtual 132, 3) := by decide +kernel
theorem dX7_comes_87 : decode cX7_comes 87 = .ok (.ifCond .ne 5, 3) := by decide +kernel
theorem dX7_comes_90 : decode cX7_comes 90 = .ok (.iconst 0, 1) := by decide +kernel
theorem dX7_comes_91 : decode cX7_comes 91 = .ok (.ireturn, 1) := by decide +kernel
theorem dX7_comes_92 : decode cX7_comes 92 = .ok (.aload_n 0, 1) := by decide +kernel
theorem dX7_comes_93 : decode cX7_comes 93 = .ok (.aload_n 0, 1) := by decide +kernel
theorem dX7_comes_94 : decode cX7_comes 94 = .ok (.getfield 47, 3) := by decide +kernel
theorem dX7_comes_97 : decode cX7_comes 97 = .ok (.iload_n 2, 1) := by decide +kernel
theorem dX7_comes_98 : decode cX7_comes 98 = .ok (.iaload, 1) := by decide +kernel
theorem dX7_comes_99 : decode cX7_comes 99 = .ok (.invokevirtual 135, 3) := by decide +kernel
theorem dX7_comes_102 : decode cX7_comes 102 = .ok (.iconst 1, 1) := by decide +kernel
theorem dX7_comes_103 : decode cX7_comes 103 = .ok (.ireturn, 1) := by decide +kernel
theorem dX7_comes_104 : decode cX7_comes 104 = .ok (.aload_n 0, 1) := by decide +kernel
theorem dX7_comes_105 : decode cX7_comes 105 = .ok (.aload_n 0, 1) := by decide +kernel
theorem dX7_comes_106 : decode cX7_comes 106 = .ok (.getfield 47, 3) := by decide +kernel
theorem dX7_comes_109 : decode cX7_comes 109 = .ok (.iload_n 2, 1) := by decide +kernel
theorem dX7_comes_110 : decode cX7_comes 110 = .ok (.iaload, 1) := by decide +kernel
theorem dX7_comes_111 : decode cX7_comes 111 = .ok (.invokevirtual 138, 3) := by decide +kernel
theorem dX7_comes_114 : decode cX7_comes 114 = .ok (.ireturn, 1) := by decide +kernel
theorem dX7_comes_115 : decode cX7_comes 115 = .ok (.aload_n 0, 1) := by decide +kernel
theorem dX7_comes_116 : decode cX7_comes 116 = .ok (.aload_n 0, 1) := by decide +kernel
theorem dX7_comes_117 : decode cX7_comes 117 = .ok (.getfield 41, 3) := by decide +kernel
theorem dX7_comes_120 : decode cX7_comes 120 = .ok (.iload_n 1, 1) := by decide +kernel
theorem dX7_comes_121 : decode cX7_comes 121 = .ok (.iaload, 1) := by decide +kernel
theorem dX7_comes_122 : decode cX7_comes 122 = .ok (.aload_n 0, 1) := by decide +kernel
theorem dX7_comes_123 : decode cX7_comes 123 = .ok (.getfield 47, 3) := by decide +kernel
theorem dX7_comes_126 : decode cX7_comes 126 = .ok (.iload_n 2, 1) := by decide +kernel
theorem dX7_comes_127 : decode cX7_comes 127 = .ok (.iaload, 1) := by decide +kernel
theorem dX7_comes_128 : decode cX7_comes 128 = .ok (.aload_n 0, 1) := by decide +kernel
theorem dX7_comes_129 : decode cX7_comes 129 = .ok (.getfield 47, 3) := by decide +kernel
theorem dX7_comes_132 : decode cX7_comes 132 = .ok (.iload_n 2, 1) := by decide +kernel
theorem dX7_comes_133 : decode cX7_comes 133 = .ok (.iconst 1, 1) := by decide +kernel
theorem dX7_comes_134 : decode cX7_comes 134 = .ok (.iadd, 1) := by decide +kernel
theorem dX7_comes_135 : decode cX7_comes 135 = .ok (.iaload, 1) := by decide +kernel
theorem dX7_comes_136 : decode cX7_comes 136 = .ok (.invokevirtual 141, 3) := by decide +kernel
theorem dX7_comes_139 : decode cX7_comes 139 = .ok (.ireturn, 1) := by decide +kernel
theorem dX7_port_0 : decode cX7_port 0 = .ok (.aload_n 0, 1) := by decide +kernel
theorem dX7_port_1 : decode cX7_port 1 = .ok (.iconst 0, 1) := by decide +kernel
theorem dX7_port_2 : decode cX7_port 2 = .ok (.putfield 85, 3) := by decide +kernel
theorem dX7_port_5 : decode cX7_port 5 = .ok (.aload_n 0, 1) := by decide +kernel
theorem dX7_port_6 : decode cX7_port 6 = .ok (.iconst 0, 1) := by decide +kernel
theorem dX7_port_7 : decode cX7_port 7 = .ok (.putfield 106, 3) := by decide +kernel
theorem dX7_port_10 : decode cX7_port 10 = .ok (.iconst 1, 1) := by decide +kernel
theorem dX7_port_11 : decode cX7_port 11 = .ok (.istore_n 1, 1) := by decide +kernel
theorem dX7_port_12 : decode cX7_port 12 = .ok (.iload_n 1, 1) := by decide +kernel
theorem dX7_port_13 : decode cX7_port 13 = .ok (.ifCond .eq 47, 3) := by decide +kernel
theorem dX7_port_16 : decode cX7_port 16 = .ok (.aload_n 0, 1) := by decide +kernel
theorem dX7_port_17 : decode cX7_port 17 = .ok (.getfield 85, 3) := by decide +kernel
theorem dX7_port_20 : decode cX7_port 20 = .ok (.aload_n 0, 1) := by decide +kernel
theorem dX7_port_21 : decode cX7_port 21 = .ok (.getfield 78, 3) := by decide +kernel
theorem dX7_port_24 : decode cX7_port 24 = .ok (.if_icmp .lt 10, 3) := by decide +kernel
theorem dX7_port_27 : decode cX7_port 27 = .ok (.aload_n 0, 1) := by decide +kernel
theorem dX7_port_28 : decode cX7_port 28 = .ok (.getfield 106, 3) := by decide +kernel
theorem dX7_port_31 : decode cX7_port 31 = .ok (.ifCond .ne 29, 3) := by decide +kernel
theorem dX7_port_34 : decode cX7_port 34 = .ok (.aload_n 0, 1) := by decide +kernel
theorem dX7_port_35 : decode cX7_port 35 = .ok (.invokevirtual 144, 3) := by decide +kernel
theorem dX7_port_38 : decode cX7_port 38 = .ok (.istore_n 1, 1) := by decide +kernel
theorem dX7_port_39 : decode cX7_port 39 = .ok (.aload_n 0, 1) := by decide +kernel
theorem dX7_port_40 : decode cX7_port 40 = .ok (.dup, 1) := by decide +kernel
theorem dX7_port_41 : decode cX7_port 41 = .ok (.getfield 106, 3) := by decide +kernel
theorem dX7_port_44 : decode cX7_port 44 = .ok (.iload_n 1, 1) := by decide +kernel
theorem dX7_port_45 : decode cX7_port 45 = .ok (.ifCond .eq 7, 3) := by decide +kernel
theorem dX7_port_48 : decode cX7_port 48 = .ok (.iconst 1, 1) := by decide +kernel
theorem dX7_port_49 : decode cX7_port 49 = .ok (.goto 4, 3) := by decide +kernel
theorem dX7_port_52 : decode cX7_port 52 = .ok (.iconst 0, 1) := by decide +kernel
theorem dX7_port_53 : decode cX7_port 53 = .ok (.iadd, 1) := by decide +kernel
theorem dX7_port_54 : decode cX7_port 54 = .ok (.putfield 106, 3) := by decide +kernel
theorem dX7_port_57 : decode cX7_port 57 = .ok (.goto (-45), 3) := by decide +kernel
theorem dX7_port_60 : decode cX7_port 60 = .ok (.aload_n 0, 1) := by decide +kernel
theorem dX7_port_61 : decode cX7_port 61 = .ok (.iconst 0, 1) := by decide +kernel
theorem dX7_port_62 : decode cX7_port 62 = .ok (.putfield 78, 3) := by decide +kernel
theorem dX7_port_65 : decode cX7_port 65 = .ok (.iload_n 1, 1) := by decide +kernel
theorem dX7_port_66 : decode cX7_port 66 = .ok (.ifCond .ne 12, 3) := by decide +kernel
theorem dX7_port_69 : decode cX7_port 69 = .ok (.sipush (-1000), 3) := by decide +kernel
theorem dX7_port_72 : decode cX7_port 72 = .ok (.aload_n 0, 1) := by decide +kernel
theorem dX7_port_73 : decode cX7_port 73 = .ok (.getfield 85, 3) := by decide +kernel
theorem dX7_port_76 : decode cX7_port 76 = .ok (.isub, 1) := by decide +kernel
theorem dX7_port_77 : decode cX7_port 77 = .ok (.ireturn, 1) := by decide +kernel
theorem dX7_port_78 : decode cX7_port 78 = .ok (.aload_n 0, 1) := by decide +kernel
theorem dX7_port_79 : decode cX7_port 79 = .ok (.iconst 1, 1) := by decide +kernel
theorem dX7_port_80 : decode cX7_port 80 = .ok (.iconst 1, 1) := by decide +kernel
theorem dX7_port_81 : decode cX7_port 81 = .ok (.invokevirtual 148, 3) := by decide +kernel
theorem dX7_port_84 : decode cX7_port 84 = .ok (.iconst 0, 1) := by decide +kernel
theorem dX7_port_85 : decode cX7_port 85 = .ok (.istore_n 2, 1) := by decide +kernel
theorem dX7_port_86 : decode cX7_port 86 = .ok (.iload_n 2, 1) := by decide +kernel
theorem dX7_port_87 : decode cX7_port 87 = .ok (.aload_n 0, 1) := by decide +kernel
theorem dX7_port_88 : decode cX7_port 88 = .ok (.getfield 106, 3) := by decide +kernel
theorem dX7_port_91 : decode cX7_port 91 = .ok (.if_icmp .ge 37, 3) := by decide +kernel
theorem dX7_port_94 : decode cX7_port 94 = .ok (.aload_n 0, 1) := by decide +kernel
theorem dX7_port_95 : decode cX7_port 95 = .ok (.iload_n 2, 1) := by decide +kernel
theorem dX7_port_96 : decode cX7_port 96 = .ok (.invokevirtual 152, 3) := by decide +kernel
theorem dX7_port_99 : decode cX7_port 99 = .ok (.ifCond .eq 6, 3) := by decide +kernel
theorem dX7_port_102 : decode cX7_port 102 = .ok (.goto 20, 3) := by decide +kernel
theorem dX7_port_105 : decode cX7_port 105 = .ok (.aload_n 0, 1) := by decide +kernel
theorem dX7_port_106 : decode cX7_port 106 = .ok (.iconst 1, 1) := by decide +kernel
theorem dX7_port_107 : decode cX7_port 107 = .ok (.iconst 0, 1) := by decide +kernel
theorem dX7_port_108 : decode cX7_port 108 = .ok (.invokevirtual 148, 3) := by decide +kernel
theorem dX7_port_111 : decode cX7_port 111 = .ok (.sipush (-2000), 3) := by decide +kernel
theorem dX7_port_114 : decode cX7_port 114 = .ok (.aload_n 0, 1) := by decide +kernel
theorem dX7_port_115 : decode cX7_port 115 = .ok (.getfield 44, 3) := by decide +kernel
theorem dX7_port_118 : decode cX7_port 118 = .ok (.iload_n 2, 1) := by decide +kernel
theorem dX7_port_119 : decode cX7_port 119 = .ok (.iaload, 1) := by decide +kernel
theorem dX7_port_120 : decode cX7_port 120 = .ok (.isub, 1) := by decide +kernel
theorem dX7_port_121 : decode cX7_port 121 = .ok (.ireturn, 1) := by decide +kernel
theorem dX7_port_122 : decode cX7_port 122 = .ok (.iinc 2 1, 3) := by decide +kernel
theorem dX7_port_125 : decode cX7_port 125 = .ok (.goto (-39), 3) := by decide +kernel
theorem dX7_port_128 : decode cX7_port 128 = .ok (.aload_n 0, 1) := by decide +kernel
theorem dX7_port_129 : decode cX7_port 129 = .ok (.getfield 106, 3) := by decide +kernel
theorem dX7_port_132 : decode cX7_port 132 = .ok (.ireturn, 1) := by decide +kernel
theorem dX7_passes_0 : decode cX7_passes 0 = .ok (.iconst 0, 1) := by decide +kernel
theorem dX7_passes_1 : decode cX7_passes 1 = .ok (.istore_n 2, 1) := by decide +kernel
theorem dX7_passes_2 : decode cX7_passes 2 = .ok (.iload_n 2, 1) := by decide +kernel
theorem dX7_passes_3 : decode cX7_passes 3 = .ok (.aload_n 1, 1) := by decide +kernel
theorem dX7_passes_4 : decode cX7_passes 4 = .ok (.arraylength, 1) := by decide +kernel
theorem dX7_passes_5 : decode cX7_passes 5 = .ok (.if_icmp .ge 53, 3) := by decide +kernel
theorem dX7_passes_8 : decode cX7_passes 8 = .ok (.aload_n 0, 1) := by decide +kernel
theorem dX7_passes_9 : decode cX7_passes 9 = .ok (.getfield 155, 3) := by decide +kernel
theorem dX7_passes_12 : decode cX7_passes 12 = .ok (.ifCond .eq 18, 3) := by decide +kernel
theorem dX7_passes_15 : decode cX7_passes 15 = .ok (.aload_n 0, 1) := by decide +kernel
theorem dX7_passes_16 : decode cX7_passes 16 = .ok (.getfield 50, 3) := by decide +kernel
theorem dX7_passes_19 : decode cX7_passes 19 = .ok (.aload_n 0, 1) := by decide +kernel
theorem dX7_passes_20 : decode cX7_passes 20 = .ok (.getfield 159, 3) := by decide +kernel
theorem dX7_passes_23 : decode cX7_passes 23 = .ok (.aload_n 1, 1) := by decide +kernel
theorem dX7_passes_24 : decode cX7_passes 24 = .ok (.iload_n 2, 1) := by decide +kernel
theorem dX7_passes_25 : decode cX7_passes 25 = .ok (.iaload, 1) := by decide +kernel
theorem dX7_passes_26 : decode cX7_passes 26 = .ok (.iastore, 1) := by decide +kernel
theorem dX7_passes_27 : decode cX7_passes 27 = .ok (.goto 15, 3) := by decide +kernel
theorem dX7_passes_30 : decode cX7_passes 30 = .ok (.aload_n 1, 1) := by decide +kernel
theorem dX7_passes_31 : decode cX7_passes 31 = .ok (.iload_n 2, 1) := by decide +kernel
theorem dX7_passes_32 : decode cX7_passes 32 = .ok (.aload_n 0, 1) := by decide +kernel
theorem dX7_passes_33 : decode cX7_passes 33 = .ok (.getfield 50, 3) := by decide +kernel
theorem dX7_passes_36 : decode cX7_passes 36 = .ok (.aload_n 0, 1) := by decide +kernel
theorem dX7_passes_37 : decode cX7_passes 37 = .ok (.getfield 159, 3) := by decide +kernel
theorem dX7_passes_40 : decode cX7_passes 40 = .ok (.iaload, 1) := by decide +kernel
theorem dX7_passes_41 : decode cX7_passes 41 = .ok (.iastore, 1) := by decide +kernel
theorem dX7_passes_42 : decode cX7_passes 42 = .ok (.aload_n 0, 1) := by decide +kernel
theorem dX7_passes_43 : decode cX7_passes 43 = .ok (.dup, 1) := by decide +kernel
theorem dX7_passes_44 : decode cX7_passes 44 = .ok (.getfield 159, 3) := by decide +kernel
theorem dX7_passes_47 : decode cX7_passes 47 = .ok (.iconst 1, 1) := by decide +kernel
theorem dX7_passes_48 : decode cX7_passes 48 = .ok (.iadd, 1) := by decide +kernel
theorem dX7_passes_49 : decode cX7_passes 49 = .ok (.putfield 159, 3) := by decide +kernel
theorem dX7_passes_52 : decode cX7_passes 52 = .ok (.iinc 2 1, 3) := by decide +kernel
theorem dX7_passes_55 : decode cX7_passes 55 = .ok (.goto (-53), 3) := by decide +kernel
theorem dX7_passes_58 : decode cX7_passes 58 = .ok (.return_, 1) := by decide +kernel
theorem dX7_passOne_0 : decode cX7_passOne 0 = .ok (.aload_n 0, 1) := by decide +kernel
theorem dX7_passOne_1 : decode cX7_passOne 1 = .ok (.getfield 155, 3) := by decide +kernel
theorem dX7_passOne_4 : decode cX7_passOne 4 = .ok (.ifCond .eq 7, 3) := by decide +kernel
theorem dX7_passOne_7 : decode cX7_passOne 7 = .ok (.iload_n 1, 1) := by decide +kernel
theorem dX7_passOne_8 : decode cX7_passOne 8 = .ok (.goto 12, 3) := by decide +kernel
theorem dX7_passOne_11 : decode cX7_passOne 11 = .ok (.aload_n 0, 1) := by decide +kernel
theorem dX7_passOne_12 : decode cX7_passOne 12 = .ok (.getfield 50, 3) := by decide +kernel
theorem dX7_passOne_15 : decode cX7_passOne 15 = .ok (.aload_n 0, 1) := by decide +kernel
theorem dX7_passOne_16 : decode cX7_passOne 16 = .ok (.getfield 159, 3) := by decide +kernel
theorem dX7_passOne_19 : decode cX7_passOne 19 = .ok (.iaload, 1) := by decide +kernel
theorem dX7_passOne_20 : decode cX7_passOne 20 = .ok (.istore_n 2, 1) := by decide +kernel
theorem dX7_passOne_21 : decode cX7_passOne 21 = .ok (.aload_n 0, 1) := by decide +kernel
theorem dX7_passOne_22 : decode cX7_passOne 22 = .ok (.getfield 155, 3) := by decide +kernel
theorem dX7_passOne_25 : decode cX7_passOne 25 = .ok (.ifCond .eq 13, 3) := by decide +kernel
theorem dX7_passOne_28 : decode cX7_passOne 28 = .ok (.aload_n 0, 1) := by decide +kernel
theorem dX7_passOne_29 : decode cX7_passOne 29 = .ok (.getfield 50, 3) := by decide +kernel
theorem dX7_passOne_32 : decode cX7_passOne 32 = .ok (.aload_n 0, 1) := by decide +kernel
theorem dX7_passOne_33 : decode cX7_passOne 33 = .ok (.getfield 159, 3) := by decide +kernel
theorem dX7_passOne_36 : decode cX7_passOne 36 = .ok (.iload_n 1, 1) := by decide +kernel
theorem dX7_passOne_37 : decode cX7_passOne 37 = .ok (.iastore, 1) := by decide +kernel
theorem dX7_passOne_38 : decode cX7_passOne 38 = .ok (.aload_n 0, 1) := by decide +kernel
theorem dX7_passOne_39 : decode cX7_passOne 39 = .ok (.dup, 1) := by decide +kernel
theorem dX7_passOne_40 : decode cX7_passOne 40 = .ok (.getfield 159, 3) := by decide +kernel
theorem dX7_passOne_43 : decode cX7_passOne 43 = .ok (.iconst 1, 1) := by decide +kernel
theorem dX7_passOne_44 : decode cX7_passOne 44 = .ok (.iadd, 1) := by decide +kernel
theorem dX7_passOne_45 : decode cX7_passOne 45 = .ok (.putfield 159, 3) := by decide +kernel
theorem dX7_passOne_48 : decode cX7_passOne 48 = .ok (.iload_n 2, 1) := by decide +kernel
theorem dX7_passOne_49 : decode cX7_passOne 49 = .ok (.ireturn, 1) := by decide +kernel
theorem dX7_passesAll_0 : decode cX7_passesAll 0 = .ok (.aload_n 0, 1) := by decide +kernel
theorem dX7_passesAll_1 : decode cX7_passesAll 1 = .ok (.bipush 55, 2) := by decide +kernel
theorem dX7_passesAll_3 : decode cX7_passesAll 3 = .ok (.iload_n 1, 1) := by decide +kernel
theorem dX7_passesAll_4 : decode cX7_passesAll 4 = .ok (.imul, 1) := by decide +kernel
theorem dX7_passesAll_5 : decode cX7_passesAll 5 = .ok (.putfield 159, 3) := by decide +kernel
theorem dX7_passesAll_8 : decode cX7_passesAll 8 = .ok (.aload_n 0, 1) := by decide +kernel
theorem dX7_passesAll_9 : decode cX7_passesAll 9 = .ok (.iload_n 2, 1) := by decide +kernel
theorem dX7_passesAll_10 : decode cX7_passesAll 10 = .ok (.putfield 155, 3) := by decide +kernel
theorem dX7_passesAll_13 : decode cX7_passesAll 13 = .ok (.aload_n 0, 1) := by decide +kernel
theorem dX7_passesAll_14 : decode cX7_passesAll 14 = .ok (.aload_n 0, 1) := by decide +kernel
theorem dX7_passesAll_15 : decode cX7_passesAll 15 = .ok (.getfield 13, 3) := by decide +kernel
theorem dX7_passesAll_18 : decode cX7_passesAll 18 = .ok (.invokevirtual 162, 3) := by decide +kernel
theorem dX7_passesAll_21 : decode cX7_passesAll 21 = .ok (.aload_n 0, 1) := by decide +kernel
theorem dX7_passesAll_22 : decode cX7_passesAll 22 = .ok (.aload_n 0, 1) := by decide +kernel
theorem dX7_passesAll_23 : decode cX7_passesAll 23 = .ok (.getfield 16, 3) := by decide +kernel
theorem dX7_passesAll_26 : decode cX7_passesAll 26 = .ok (.invokevirtual 162, 3) := by decide +kernel
theorem dX7_passesAll_29 : decode cX7_passesAll 29 = .ok (.aload_n 0, 1) := by decide +kernel
theorem dX7_passesAll_30 : decode cX7_passesAll 30 = .ok (.aload_n 0, 1) := by decide +kernel
theorem dX7_passesAll_31 : decode cX7_passesAll 31 = .ok (.getfield 19, 3) := by decide +kernel
theorem dX7_passesAll_34 : decode cX7_passesAll 34 = .ok (.invokevirtual 162, 3) := by decide +kernel
theorem dX7_passesAll_37 : decode cX7_passesAll 37 = .ok (.aload_n 0, 1) := by decide +kernel
theorem dX7_passesAll_38 : decode cX7_passesAll 38 = .ok (.aload_n 0, 1) := by decide +kernel
theorem dX7_passesAll_39 : decode cX7_passesAll 39 = .ok (.getfield 22, 3) := by decide +kernel
theorem dX7_passesAll_42 : decode cX7_passesAll 42 = .ok (.invokevirtual 162, 3) := by decide +kernel
theorem dX7_passesAll_45 : decode cX7_passesAll 45 = .ok (.aload_n 0, 1) := by decide +kernel
theorem dX7_passesAll_46 : decode cX7_passesAll 46 = .ok (.aload_n 0, 1) := by decide +kernel
theorem dX7_passesAll_47 : decode cX7_passesAll 47 = .ok (.getfield 25, 3) := by decide +kernel
theorem dX7_passesAll_50 : decode cX7_passesAll 50 = .ok (.invokevirtual 162, 3) := by decide +kernel
theorem dX7_passesAll_53 : decode cX7_passesAll 53 = .ok (.aload_n 0, 1) := by decide +kernel
theorem dX7_passesAll_54 : decode cX7_passesAll 54 = .ok (.aload_n 0, 1) := by decide +kernel
theorem dX7_passesAll_55 : decode cX7_passesAll 55 = .ok (.getfield 28, 3) := by decide +kernel
theorem dX7_passesAll_58 : decode cX7_passesAll 58 = .ok (.invokevirtual 162, 3) := by decide +kernel
theorem dX7_passesAll_61 : decode cX7_passesAll 61 = .ok (.aload_n 0, 1) := by decide +kernel
theorem dX7_passesAll_62 : decode cX7_passesAll 62 = .ok (.aload_n 0, 1) := by decide +kernel
theorem dX7_passesAll_63 : decode cX7_passesAll 63 = .ok (.getfield 31, 3) := by decide +kernel
theorem dX7_passesAll_66 : decode cX7_passesAll 66 = .ok (.invokevirtual 162, 3) := by decide +kernel
theorem dX7_passesAll_69 : decode cX7_passesAll 69 = .ok (.aload_n 0, 1) := by decide +kernel
theorem dX7_passesAll_70 : decode cX7_passesAll 70 = .ok (.aload_n 0, 1) := by decide +kernel
theorem dX7_passesAll_71 : decode cX7_passesAll 71 = .ok (.aload_n 0, 1) := by decide +kernel
theorem dX7_passesAll_72 : decode cX7_passesAll 72 = .ok (.getfield 62, 3) := by decide +kernel
theorem dX7_passesAll_75 : decode cX7_passesAll 75 = .ok (.invokevirtual 166, 3) := by decide +kernel
theorem dX7_passesAll_78 : decode cX7_passesAll 78 = .ok (.putfield 62, 3) := by decide +kernel
theorem dX7_passesAll_81 : decode cX7_passesAll 81 = .ok (.aload_n 0, 1) := by decide +kernel
theorem dX7_passesAll_82 : decode cX7_passesAll 82 = .ok (.aload_n 0, 1) := by decide +kernel
theorem dX7_passesAll_83 : decode cX7_passesAll 83 = .ok (.aload_n 0, 1) := by decide +kernel
theorem dX7_passesAll_84 : decode cX7_passesAll 84 = .ok (.getfield 67, 3) := by decide +kernel
theorem dX7_passesAll_87 : decode cX7_passesAll 87 = .ok (.invokevirtual 166, 3) := by decide +kernel
theorem dX7_passesAll_90 : decode cX7_passesAll 90 = .ok (.putfield 67, 3) := by decide +kernel
theorem dX7_passesAll_93 : decode cX7_passesAll 93 = .ok (.aload_n 0, 1) := by decide +kernel
theorem dX7_passesAll_94 : decode cX7_passesAll 94 = .ok (.aload_n 0, 1) := by decide +kernel
theorem dX7_passesAll_95 : decode cX7_passesAll 95 = .ok (.aload_n 0, 1) := by decide +kernel
theorem dX7_passesAll_96 : decode cX7_passesAll 96 = .ok (.getfield 119, 3) := by decide +kernel
theorem dX7_passesAll_99 : decode cX7_passesAll 99 = .ok (.invokevirtual 166, 3) := by decide +kernel
theorem dX7_passesAll_102 : decode cX7_passesAll 102 = .ok (.putfield 119, 3) := by decide +kernel
theorem dX7_passesAll_105 : decode cX7_passesAll 105 = .ok (.return_, 1) := by decide +kernel
theorem dX7_thinks_0 : decode cX7_thinks 0 = .ok (.aload_n 0, 1) := by decide +kernel
theorem dX7_thinks_1 : decode cX7_thinks 1 = .ok (.iconst 2, 1) := by decide +kernel
theorem dX7_thinks_2 : decode cX7_thinks 2 = .ok (.iconst 1, 1) := by decide +kernel
theorem dX7_thinks_3 : decode cX7_thinks 3 = .ok (.invokevirtual 148, 3) := by decide +kernel
theorem dX7_thinks_6 : decode cX7_thinks 6 = .ok (.return_, 1) := by decide +kernel
theorem dX7_forgets_0 : decode cX7_forgets 0 = .ok (.aload_n 0, 1) := by decide +kernel
theorem dX7_forgets_1 : decode cX7_forgets 1 = .ok (.iconst 2, 1) := by decide +kernel
theorem dX7_forgets_2 : decode cX7_forgets 2 = .ok (.iconst 0, 1) := by decide +kernel
theorem dX7_forgets_3 : decode cX7_forgets 3 = .ok (.invokevirtual 148, 3) := by decide +kernel
theorem dX7_forgets_6 : decode cX7_forgets 6 = .ok (.return_, 1) := by decide +kernel
theorem dX7_changesOn_0 : decode cX7_changesOn 0 = .ok (.aload_n 0, 1) := by decide +kernel
theorem dX7_changesOn_1 : decode cX7_changesOn 1 = .ok (.iconst 1, 1) := by decide +kernel
theorem dX7_changesOn_2 : decode cX7_changesOn 2 = .ok (.iconst 1, 1) := by decide +kernel
theorem dX7_changesOn_3 : decode cX7_changesOn 3 = .ok (.invokevirtual 148, 3) := by decide +kernel
theorem dX7_changesOn_6 : decode cX7_changesOn 6 = .ok (.return_, 1) := by decide +kernel
theorem dX7_changesBack_0 : decode cX7_changesBack 0 = .ok (.aload_n 0, 1) := by decide +kernel
theorem dX7_changesBack_1 : decode cX7_changesBack 1 = .ok (.iconst 1, 1) := by decide +kernel
theorem dX7_changesBack_2 : decode cX7_changesBack 2 = .ok (.iconst 0, 1) := by decide +kernel
theorem dX7_changesBack_3 : decode cX7_changesBack 3 = .ok (.invokevirtual 148, 3) := by decide +kernel
theorem dX7_changesBack_6 : decode cX7_changesBack 6 = .ok (.return_, 1) := by decide +kernel
theorem dX7_image_0 : decode cX7_image 0 = .ok (.aload_n 0, 1) := by decide +kernel
theorem dX7_image_1 : decode cX7_image 1 = .ok (.iconst 1, 1) := by decide +kernel
theorem dX7_image_2 : decode cX7_image 2 = .ok (.putfield 169, 3) := by decide +kernel
theorem dX7_image_5 : decode cX7_image 5 = .ok (.aload_n 0, 1) := by decide +kernel
theorem dX7_image_6 : decode cX7_image 6 = .ok (.iconst 0, 1) := by decide +kernel
theorem dX7_image_7 : decode cX7_image 7 = .ok (.iconst 1, 1) := by decide +kernel
theorem dX7_image_8 : decode cX7_image 8 = .ok (.invokevirtual 148, 3) := by decide +kernel
theorem dX7_image_11 : decode cX7_image 11 = .ok (.aload_n 0, 1) := by decide +kernel
theorem dX7_image_12 : decode cX7_image 12 = .ok (.getfield 119, 3) := by decide +kernel
theorem dX7_image_15 : decode cX7_image 15 = .ok (.ireturn, 1) := by decide +kernel
theorem dX7_on_0 : decode cX7_on 0 = .ok (.aload_n 0, 1) := by decide +kernel
theorem dX7_on_1 : decode cX7_on 1 = .ok (.getfield 169, 3) := by decide +kernel
theorem dX7_on_4 : decode cX7_on 4 = .ok (.ifCond .ne 10, 3) := by decide +kernel
theorem dX7_on_7 : decode cX7_on 7 = .ok (.aload_n 0, 1) := by decide +kernel
theorem dX7_on_8 : decode cX7_on 8 = .ok (.bipush (-3), 2) := by decide +kernel
theorem dX7_on_10 : decode cX7_on 10 = .ok (.invokevirtual 81, 3) := by decide +kernel
theorem dX7_on_13 : decode cX7_on 13 = .ok (.ireturn, 1) := by decide +kernel
theorem dX7_on_14 : decode cX7_on 14 = .ok (.aload_n 0, 1) := by decide +kernel
theorem dX7_on_15 : decode cX7_on 15 = .ok (.iconst 0, 1) := by decide +kernel
theorem dX7_on_16 : decode cX7_on 16 = .ok (.iconst 0, 1) := by decide +kernel
theorem dX7_on_17 : decode cX7_on 17 = .ok (.invokevirtual 148, 3) := by decide +kernel
theorem dX7_on_20 : decode cX7_on 20 = .ok (.aload_n 0, 1) := by decide +kernel
theorem dX7_on_21 : decode cX7_on 21 = .ok (.getfield 119, 3) := by decide +kernel
theorem dX7_on_24 : decode cX7_on 24 = .ok (.ireturn, 1) := by decide +kernel
theorem dX7_adds_0 : decode cX7_adds 0 = .ok (.aload_n 0, 1) := by decide +kernel
theorem dX7_adds_1 : decode cX7_adds 1 = .ok (.getfield 28, 3) := by decide +kernel
theorem dX7_adds_4 : decode cX7_adds 4 = .ok (.aload_n 0, 1) := by decide +kernel
theorem dX7_adds_5 : decode cX7_adds 5 = .ok (.getfield 67, 3) := by decide +kernel
theorem dX7_adds_8 : decode cX7_adds 8 = .ok (.iload_n 1, 1) := by decide +kernel
theorem dX7_adds_9 : decode cX7_adds 9 = .ok (.iastore, 1) := by decide +kernel
theorem dX7_adds_10 : decode cX7_adds 10 = .ok (.aload_n 0, 1) := by decide +kernel
theorem dX7_adds_11 : decode cX7_adds 11 = .ok (.getfield 31, 3) := by decide +kernel
theorem dX7_adds_14 : decode cX7_adds 14 = .ok (.aload_n 0, 1) := by decide +kernel
theorem dX7_adds_15 : decode cX7_adds 15 = .ok (.getfield 67, 3) := by decide +kernel
theorem dX7_adds_18 : decode cX7_adds 18 = .ok (.iload_n 2, 1) := by decide +kernel
theorem dX7_adds_19 : decode cX7_adds 19 = .ok (.iastore, 1) := by decide +kernel
theorem dX7_adds_20 : decode cX7_adds 20 = .ok (.aload_n 0, 1) := by decide +kernel
theorem dX7_adds_21 : decode cX7_adds 21 = .ok (.dup, 1) := by decide +kernel
theorem dX7_adds_22 : decode cX7_adds 22 = .ok (.getfield 67, 3) := by decide +kernel
theorem dX7_adds_25 : decode cX7_adds 25 = .ok (.iconst 1, 1) := by decide +kernel
theorem dX7_adds_26 : decode cX7_adds 26 = .ok (.iadd, 1) := by decide +kernel
theorem dX7_adds_27 : decode cX7_adds 27 = .ok (.putfield 67, 3) := by decide +kernel
theorem dX7_adds_30 : decode cX7_adds 30 = .ok (.return_, 1) := by decide +kernel
theorem dX7_drops_0 : decode cX7_drops 0 = .ok (.aload_n 0, 1) := by decide +kernel
theorem dX7_drops_1 : decode cX7_drops 1 = .ok (.dup, 1) := by decide +kernel
theorem dX7_drops_2 : decode cX7_drops 2 = .ok (.getfield 67, 3) := by decide +kernel
theorem dX7_drops_5 : decode cX7_drops 5 = .ok (.iconst 1, 1) := by decide +kernel
theorem dX7_drops_6 : decode cX7_drops 6 = .ok (.isub, 1) := by decide +kernel
theorem dX7_drops_7 : decode cX7_drops 7 = .ok (.putfield 67, 3) := by decide +kernel
theorem dX7_drops_10 : decode cX7_drops 10 = .ok (.iload_n 1, 1) := by decide +kernel
theorem dX7_drops_11 : decode cX7_drops 11 = .ok (.istore_n 2, 1) := by decide +kernel
theorem dX7_drops_12 : decode cX7_drops 12 = .ok (.iload_n 2, 1) := by decide +kernel
theorem dX7_drops_13 : decode cX7_drops 13 = .ok (.aload_n 0, 1) := by decide +kernel
theorem dX7_drops_14 : decode cX7_drops 14 = .ok (.getfield 67, 3) := by decide +kernel
theorem dX7_drops_17 : decode cX7_drops 17 = .ok (.if_icmp .ge 37, 3) := by decide +kernel
theorem dX7_drops_20 : decode cX7_drops 20 = .ok (.aload_n 0, 1) := by decide +kernel
theorem dX7_drops_21 : decode cX7_drops 21 = .ok (.getfield 28, 3) := by decide +kernel
theorem dX7_drops_24 : decode cX7_drops 24 = .ok (.iload_n 2, 1) := by decide +kernel
theorem dX7_drops_25 : decode cX7_drops 25 = .ok (.aload_n 0, 1) := by decide +kernel
theorem dX7_drops_26 : decode cX7_drops 26 = .ok (.getfield 28, 3) := by decide +kernel
theorem dX7_drops_29 : decode cX7_drops 29 = .ok (.iload_n 2, 1) := by decide +kernel
theorem dX7_drops_30 : decode cX7_drops 30 = .ok (.iconst 1, 1) := by decide +kernel
theorem dX7_drops_31 : decode cX7_drops 31 = .ok (.iadd, 1) := by decide +kernel
theorem dX7_drops_32 : decode cX7_drops 32 = .ok (.iaload, 1) := by decide +kernel
theorem dX7_drops_33 : decode cX7_drops 33 = .ok (.iastore, 1) := by decide +kernel
theorem dX7_drops_34 : decode cX7_drops 34 = .ok (.aload_n 0, 1) := by decide +kernel
theorem dX7_drops_35 : decode cX7_drops 35 = .ok (.getfield 31, 3) := by decide +kernel
theorem dX7_drops_38 : decode cX7_drops 38 = .ok (.iload_n 2, 1) := by decide +kernel
theorem dX7_drops_39 : decode cX7_drops 39 = .ok (.aload_n 0, 1) := by decide +kernel
theorem dX7_drops_40 : decode cX7_drops 40 = .ok (.getfield 31, 3) := by decide +kernel
theorem dX7_drops_43 : decode cX7_drops 43 = .ok (.iload_n 2, 1) := by decide +kernel
theorem dX7_drops_44 : decode cX7_drops 44 = .ok (.iconst 1, 1) := by decide +kernel
theorem dX7_drops_45 : decode cX7_drops 45 = .ok (.iadd, 1) := by decide +kernel
theorem dX7_drops_46 : decode cX7_drops 46 = .ok (.iaload, 1) := by decide +kernel
theorem dX7_drops_47 : decode cX7_drops 47 = .ok (.iastore, 1) := by decide +kernel
theorem dX7_drops_48 : decode cX7_drops 48 = .ok (.iinc 2 1, 3) := by decide +kernel
theorem dX7_drops_51 : decode cX7_drops 51 = .ok (.goto (-39), 3) := by decide +kernel
theorem dX7_drops_54 : decode cX7_drops 54 = .ok (.return_, 1) := by decide +kernel
theorem dX7_heftAt_0 : decode cX7_heftAt 0 = .ok (.aload_n 0, 1) := by decide +kernel
theorem dX7_heftAt_1 : decode cX7_heftAt 1 = .ok (.getfield 19, 3) := by decide +kernel
theorem dX7_heftAt_4 : decode cX7_heftAt 4 = .ok (.iload_n 1, 1) := by decide +kernel
theorem dX7_heftAt_5 : decode cX7_heftAt 5 = .ok (.iaload, 1) := by decide +kernel
theorem dX7_heftAt_6 : decode cX7_heftAt 6 = .ok (.iconst 2, 1) := by decide +kernel
theorem dX7_heftAt_7 : decode cX7_heftAt 7 = .ok (.aload_n 0, 1) := by decide +kernel
theorem dX7_heftAt_8 : decode cX7_heftAt 8 = .ok (.getfield 22, 3) := by decide +kernel
theorem dX7_heftAt_11 : decode cX7_heftAt 11 = .ok (.iload_n 1, 1) := by decide +kernel
theorem dX7_heftAt_12 : decode cX7_heftAt 12 = .ok (.iaload, 1) := by decide +kernel
theorem dX7_heftAt_13 : decode cX7_heftAt 13 = .ok (.imul, 1) := by decide +kernel
theorem dX7_heftAt_14 : decode cX7_heftAt 14 = .ok (.iadd, 1) := by decide +kernel
theorem dX7_heftAt_15 : decode cX7_heftAt 15 = .ok (.istore_n 3, 1) := by decide +kernel
theorem dX7_heftAt_16 : decode cX7_heftAt 16 = .ok (.iload_n 3, 1) := by decide +kernel
theorem dX7_heftAt_17 : decode cX7_heftAt 17 = .ok (.iload_n 2, 1) := by decide +kernel
theorem dX7_heftAt_18 : decode cX7_heftAt 18 = .ok (.bipush 24, 2) := by decide +kernel
theorem dX7_heftAt_20 : decode cX7_heftAt 20 = .ok (.irem, 1) := by decide +kernel
theorem dX7_heftAt_21 : decode cX7_heftAt 21 = .ok (.bipush 12, 2) := by decide +kernel
theorem dX7_heftAt_23 : decode cX7_heftAt 23 = .ok (.bipush 17, 2) := by decide +kernel
theorem dX7_heftAt_25 : decode cX7_heftAt 25 = .ok (.invokestatic 92, 3) := by decide +kernel
theorem dX7_heftAt_28 : decode cX7_heftAt 28 = .ok (.ifCond .eq 12, 3) := by decide +kernel
theorem dX7_heftAt_31 : decode cX7_heftAt 31 = .ok (.aload_n 0, 1) := by decide +kernel
theorem dX7_heftAt_32 : decode cX7_heftAt 32 = .ok (.getfield 16, 3) := by decide +kernel
theorem dX7_heftAt_35 : decode cX7_heftAt 35 = .ok (.iload_n 1, 1) := by decide +kernel
theorem dX7_heftAt_36 : decode cX7_heftAt 36 = .ok (.iaload, 1) := by decide +kernel
theorem dX7_heftAt_37 : decode cX7_heftAt 37 = .ok (.goto 4, 3) := by decide +kernel
theorem dX7_heftAt_40 : decode cX7_heftAt 40 = .ok (.iconst 0, 1) := by decide +kernel
theorem dX7_heftAt_41 : decode cX7_heftAt 41 = .ok (.iadd, 1) := by decide +kernel
theorem dX7_heftAt_42 : decode cX7_heftAt 42 = .ok (.istore 4, 2) := by decide +kernel
theorem dX7_heftAt_44 : decode cX7_heftAt 44 = .ok (.iload_n 2, 1) := by decide +kernel
theorem dX7_heftAt_45 : decode cX7_heftAt 45 = .ok (.bipush 24, 2) := by decide +kernel
theorem dX7_heftAt_47 : decode cX7_heftAt 47 = .ok (.irem, 1) := by decide +kernel
theorem dX7_heftAt_48 : decode cX7_heftAt 48 = .ok (.bipush 6, 2) := by decide +kernel
theorem dX7_heftAt_50 : decode cX7_heftAt 50 = .ok (.if_icmp .ge 15, 3) := by decide +kernel
theorem dX7_heftAt_53 : decode cX7_heftAt 53 = .ok (.iload 4, 2) := by decide +kernel
theorem dX7_heftAt_55 : decode cX7_heftAt 55 = .ok (.ifCond .le 10, 3) := by decide +kernel
theorem dX7_heftAt_58 : decode cX7_heftAt 58 = .ok (.iload 4, 2) := by decide +kernel
theorem dX7_heftAt_60 : decode cX7_heftAt 60 = .ok (.iconst 1, 1) := by decide +kernel
theorem dX7_heftAt_61 : decode cX7_heftAt 61 = .ok (.isub, 1) := by decide +kernel
theorem dX7_heftAt_62 : decode cX7_heftAt 62 = .ok (.goto 5, 3) := by decide +kernel
theorem dX7_heftAt_65 : decode cX7_heftAt 65 = .ok (.iload 4, 2) := by decide +kernel
theorem dX7_heftAt_67 : decode cX7_heftAt 67 = .ok (.istore 5, 2) := by decide +kernel
theorem dX7_heftAt_69 : decode cX7_heftAt 69 = .ok (.aload_n 0, 1) := by decide +kernel
theorem dX7_heftAt_70 : decode cX7_heftAt 70 = .ok (.getfield 13, 3) := by decide +kernel
theorem dX7_heftAt_73 : decode cX7_heftAt 73 = .ok (.iload_n 1, 1) := by decide +kernel
theorem dX7_heftAt_74 : decode cX7_heftAt 74 = .ok (.iaload, 1) := by decide +kernel
theorem dX7_heftAt_75 : decode cX7_heftAt 75 = .ok (.tableswitch 71 1 5 #[33, 36, 39, 55, 59], 33) := by decide +kernel
theorem dX7_heftAt_108 : decode cX7_heftAt 108 = .ok (.iload 4, 2) := by decide +kernel
theorem dX7_heftAt_110 : decode cX7_heftAt 110 = .ok (.ireturn, 1) := by decide +kernel
theorem dX7_heftAt_111 : decode cX7_heftAt 111 = .ok (.iload 5, 2) := by decide +kernel
theorem dX7_heftAt_113 : decode cX7_heftAt 113 = .ok (.ireturn, 1) := by decide +kernel
theorem dX7_heftAt_114 : decode cX7_heftAt 114 = .ok (.iload 5, 2) := by decide +kernel
theorem dX7_heftAt_116 : decode cX7_heftAt 116 = .ok (.iload_n 2, 1) := by decide +kernel
theorem dX7_heftAt_117 : decode cX7_heftAt 117 = .ok (.iconst 2, 1) := by decide +kernel
theorem dX7_heftAt_118 : decode cX7_heftAt 118 = .ok (.irem, 1) := by decide +kernel
theorem dX7_heftAt_119 : decode cX7_heftAt 119 = .ok (.iconst 1, 1) := by decide +kernel
theorem dX7_heftAt_120 : decode cX7_heftAt 120 = .ok (.if_icmp .ne 7, 3) := by decide +kernel
theorem dX7_heftAt_123 : decode cX7_heftAt 123 = .ok (.iconst 5, 1) := by decide +kernel
theorem dX7_heftAt_124 : decode cX7_heftAt 124 = .ok (.goto 4, 3) := by decide +kernel
theorem dX7_heftAt_127 : decode cX7_heftAt 127 = .ok (.iconst 0, 1) := by decide +kernel
theorem dX7_heftAt_128 : decode cX7_heftAt 128 = .ok (.iadd, 1) := by decide +kernel
theorem dX7_heftAt_129 : decode cX7_heftAt 129 = .ok (.ireturn, 1) := by decide +kernel
theorem dX7_heftAt_130 : decode cX7_heftAt 130 = .ok (.iload_n 3, 1) := by decide +kernel
theorem dX7_heftAt_131 : decode cX7_heftAt 131 = .ok (.iconst 2, 1) := by decide +kernel
theorem dX7_heftAt_132 : decode cX7_heftAt 132 = .ok (.idiv, 1) := by decide +kernel
theorem dX7_heftAt_133 : decode cX7_heftAt 133 = .ok (.ireturn, 1) := by decide +kernel
theorem dX7_heftAt_134 : decode cX7_heftAt 134 = .ok (.iload_n 3, 1) := by decide +kernel
theorem dX7_heftAt_135 : decode cX7_heftAt 135 = .ok (.bipush 20, 2) := by decide +kernel
theorem dX7_heftAt_137 : decode cX7_heftAt 137 = .ok (.iadd, 1) := by decide +kernel
theorem dX7_heftAt_138 : decode cX7_heftAt 138 = .ok (.aload_n 0, 1) := by decide +kernel
theorem dX7_heftAt_139 : decode cX7_heftAt 139 = .ok (.getfield 16, 3) := by decide +kernel
theorem dX7_heftAt_142 : decode cX7_heftAt 142 = .ok (.iload_n 1, 1) := by decide +kernel
theorem dX7_heftAt_143 : decode cX7_heftAt 143 = .ok (.iaload, 1) := by decide +kernel
theorem dX7_heftAt_144 : decode cX7_heftAt 144 = .ok (.iadd, 1) := by decide +kernel
theorem dX7_heftAt_145 : decode cX7_heftAt 145 = .ok (.ireturn, 1) := by decide +kernel
theorem dX7_heftAt_146 : decode cX7_heftAt 146 = .ok (.iload_n 3, 1) := by decide +kernel
theorem dX7_heftAt_147 : decode cX7_heftAt 147 = .ok (.ireturn, 1) := by decide +kernel
theorem dX7_heft_0 : decode cX7_heft 0 = .ok (.aload_n 0, 1) := by decide +kernel
theorem dX7_heft_1 : decode cX7_heft 1 = .ok (.iload_n 1, 1) := by decide +kernel
theorem dX7_heft_2 : decode cX7_heft 2 = .ok (.aload_n 0, 1) := by decide +kernel
theorem dX7_heft_3 : decode cX7_heft 3 = .ok (.getfield 119, 3) := by decide +kernel
theorem dX7_heft_6 : decode cX7_heft 6 = .ok (.invokevirtual 172, 3) := by decide +kernel
theorem dX7_heft_9 : decode cX7_heft 9 = .ok (.ireturn, 1) := by decide +kernel
theorem dX7_holdsTo_0 : decode cX7_holdsTo 0 = .ok (.aload_n 0, 1) := by decide +kernel
theorem dX7_holdsTo_1 : decode cX7_holdsTo 1 = .ok (.aload_n 0, 1) := by decide +kernel
theorem dX7_holdsTo_2 : decode cX7_holdsTo 2 = .ok (.getfield 28, 3) := by decide +kernel
theorem dX7_holdsTo_5 : decode cX7_holdsTo 5 = .ok (.iload_n 1, 1) := by decide +kernel
theorem dX7_holdsTo_6 : decode cX7_holdsTo 6 = .ok (.iaload, 1) := by decide +kernel
theorem dX7_holdsTo_7 : decode cX7_holdsTo 7 = .ok (.invokevirtual 176, 3) := by decide +kernel
theorem dX7_holdsTo_10 : decode cX7_holdsTo 10 = .ok (.aload_n 0, 1) := by decide +kernel
theorem dX7_holdsTo_11 : decode cX7_holdsTo 11 = .ok (.aload_n 0, 1) := by decide +kernel
theorem dX7_holdsTo_12 : decode cX7_holdsTo 12 = .ok (.getfield 31, 3) := by decide +kernel
theorem dX7_holdsTo_15 : decode cX7_holdsTo 15 = .ok (.iload_n 1, 1) := by decide +kernel
theorem dX7_holdsTo_16 : decode cX7_holdsTo 16 = .ok (.iaload, 1) := by decide +kernel
theorem dX7_holdsTo_17 : decode cX7_holdsTo 17 = .ok (.invokevirtual 176, 3) := by decide +kernel
theorem dX7_holdsTo_20 : decode cX7_holdsTo 20 = .ok (.isub, 1) := by decide +kernel
theorem dX7_holdsTo_21 : decode cX7_holdsTo 21 = .ok (.istore_n 2, 1) := by decide +kernel
theorem dX7_holdsTo_22 : decode cX7_holdsTo 22 = .ok (.iload_n 2, 1) := by decide +kernel
theorem dX7_holdsTo_23 : decode cX7_holdsTo 23 = .ok (.ifCond .le 12, 3) := by decide +kernel
theorem dX7_holdsTo_26 : decode cX7_holdsTo 26 = .ok (.aload_n 0, 1) := by decide +kernel
theorem dX7_holdsTo_27 : decode cX7_holdsTo 27 = .ok (.getfield 28, 3) := by decide +kernel
theorem dX7_holdsTo_30 : decode cX7_holdsTo 30 = .ok (.iload_n 1, 1) := by decide +kernel
theorem dX7_holdsTo_31 : decode cX7_holdsTo 31 = .ok (.iaload, 1) := by decide +kernel
theorem dX7_holdsTo_32 : decode cX7_holdsTo 32 = .ok (.goto 18, 3) := by decide +kernel
theorem dX7_holdsTo_35 : decode cX7_holdsTo 35 = .ok (.iload_n 2, 1) := by decide +kernel
theorem dX7_holdsTo_36 : decode cX7_holdsTo 36 = .ok (.ifCond .ge 12, 3) := by decide +kernel
theorem dX7_holdsTo_39 : decode cX7_holdsTo 39 = .ok (.aload_n 0, 1) := by decide +kernel
theorem dX7_holdsTo_40 : decode cX7_holdsTo 40 = .ok (.getfield 31, 3) := by decide +kernel
theorem dX7_holdsTo_43 : decode cX7_holdsTo 43 = .ok (.iload_n 1, 1) := by decide +kernel
theorem dX7_holdsTo_44 : decode cX7_holdsTo 44 = .ok (.iaload, 1) := by decide +kernel
theorem dX7_holdsTo_45 : decode cX7_holdsTo 45 = .ok (.goto 5, 3) := by decide +kernel
theorem dX7_holdsTo_48 : decode cX7_holdsTo 48 = .ok (.bipush (-9), 2) := by decide +kernel
theorem dX7_holdsTo_50 : decode cX7_holdsTo 50 = .ok (.ireturn, 1) := by decide +kernel
theorem dX7_pulls_0 : decode cX7_pulls 0 = .ok (.aload_n 0, 1) := by decide +kernel
theorem dX7_pulls_1 : decode cX7_pulls 1 = .ok (.iload_n 1, 1) := by decide +kernel
theorem dX7_pulls_2 : decode cX7_pulls 2 = .ok (.invokevirtual 179, 3) := by decide +kernel
theorem dX7_pulls_5 : decode cX7_pulls 5 = .ok (.istore_n 2, 1) := by decide +kernel
theorem dX7_pulls_6 : decode cX7_pulls 6 = .ok (.iload_n 2, 1) := by decide +kernel
theorem dX7_pulls_7 : decode cX7_pulls 7 = .ok (.ifCond .ge 4, 3) := by decide +kernel
theorem dX7_pulls_10 : decode cX7_pulls 10 = .ok (.return_, 1) := by decide +kernel
theorem dX7_pulls_11 : decode cX7_pulls 11 = .ok (.aload_n 0, 1) := by decide +kernel
theorem dX7_pulls_12 : decode cX7_pulls 12 = .ok (.getfield 28, 3) := by decide +kernel
theorem dX7_pulls_15 : decode cX7_pulls 15 = .ok (.iload_n 1, 1) := by decide +kernel
theorem dX7_pulls_16 : decode cX7_pulls 16 = .ok (.iaload, 1) := by decide +kernel
theorem dX7_pulls_17 : decode cX7_pulls 17 = .ok (.aload_n 0, 1) := by decide +kernel
theorem dX7_pulls_18 : decode cX7_pulls 18 = .ok (.getfield 31, 3) := by decide +kernel
theorem dX7_pulls_21 : decode cX7_pulls 21 = .ok (.iload_n 1, 1) := by decide +kernel
theorem dX7_pulls_22 : decode cX7_pulls 22 = .ok (.iaload, 1) := by decide +kernel
theorem dX7_pulls_23 : decode cX7_pulls 23 = .ok (.iadd, 1) := by decide +kernel
theorem dX7_pulls_24 : decode cX7_pulls 24 = .ok (.iload_n 2, 1) := by decide +kernel
theorem dX7_pulls_25 : decode cX7_pulls 25 = .ok (.isub, 1) := by decide +kernel
theorem dX7_pulls_26 : decode cX7_pulls 26 = .ok (.istore_n 3, 1) := by decide +kernel
theorem dX7_pulls_27 : decode cX7_pulls 27 = .ok (.iload_n 1, 1) := by decide +kernel
theorem dX7_pulls_28 : decode cX7_pulls 28 = .ok (.aload_n 0, 1) := by decide +kernel
theorem dX7_pulls_29 : decode cX7_pulls 29 = .ok (.getfield 34, 3) := by decide +kernel
theorem dX7_pulls_32 : decode cX7_pulls 32 = .ok (.if_icmp .ne 11, 3) := by decide +kernel
theorem dX7_pulls_35 : decode cX7_pulls 35 = .ok (.iload_n 2, 1) := by decide +kernel
theorem dX7_pulls_36 : decode cX7_pulls 36 = .ok (.istore 4, 2) := by decide +kernel
theorem dX7_pulls_38 : decode cX7_pulls 38 = .ok (.iload_n 3, 1) := by decide +kernel
theorem dX7_pulls_39 : decode cX7_pulls 39 = .ok (.istore_n 2, 1) := by decide +kernel
theorem dX7_pulls_40 : decode cX7_pulls 40 = .ok (.iload 4, 2) := by decide +kernel
theorem dX7_pulls_42 : decode cX7_pulls 42 = .ok (.istore_n 3, 1) := by decide +kernel
theorem dX7_pulls_43 : decode cX7_pulls 43 = .ok (.aload_n 0, 1) := by decide +kernel
theorem dX7_pulls_44 : decode cX7_pulls 44 = .ok (.getfield 25, 3) := by decide +kernel
theorem dX7_pulls_47 : decode cX7_pulls 47 = .ok (.iload_n 2, 1) := by decide +kernel
theorem dX7_pulls_48 : decode cX7_pulls 48 = .ok (.iaload, 1) := by decide +kernel
theorem dX7_pulls_49 : decode cX7_pulls 49 = .ok (.ifCond .ne 15, 3) := by decide +kernel
theorem dX7_pulls_52 : decode cX7_pulls 52 = .ok (.aload_n 0, 1) := by decide +kernel
theorem dX7_pulls_53 : decode cX7_pulls 53 = .ok (.getfield 25, 3) := by decide +kernel
theorem dX7_pulls_56 : decode cX7_pulls 56 = .ok (.iload_n 3, 1) := by decide +kernel
theorem dX7_pulls_57 : decode cX7_pulls 57 = .ok (.iaload, 1) := by decide +kernel
theorem dX7_pulls_58 : decode cX7_pulls 58 = .ok (.bipush 20, 2) := by decide +kernel
theorem dX7_pulls_60 : decode cX7_pulls 60 = .ok (.if_icmp .ne 4, 3) := by decide +kernel
theorem dX7_pulls_63 : decode cX7_pulls 63 = .ok (.return_, 1) := by decide +kernel
theorem dX7_pulls_64 : decode cX7_pulls 64 = .ok (.aload_n 0, 1) := by decide +kernel
theorem dX7_pulls_65 : decode cX7_pulls 65 = .ok (.getfield 25, 3) := by decide +kernel
theorem dX7_pulls_68 : decode cX7_pulls 68 = .ok (.iload_n 2, 1) := by decide +kernel
theorem dX7_pulls_69 : decode cX7_pulls 69 = .ok (.aload_n 0, 1) := by decide +kernel
theorem dX7_pulls_70 : decode cX7_pulls 70 = .ok (.getfield 25, 3) := by decide +kernel
theorem dX7_pulls_73 : decode cX7_pulls 73 = .ok (.iload_n 2, 1) := by decide +kernel
theorem dX7_pulls_74 : decode cX7_pulls 74 = .ok (.iaload, 1) := by decide +kernel
theorem dX7_pulls_75 : decode cX7_pulls 75 = .ok (.iconst 1, 1) := by decide +kernel
theorem dX7_pulls_76 : decode cX7_pulls 76 = .ok (.isub, 1) := by decide +kernel
theorem dX7_pulls_77 : decode cX7_pulls 77 = .ok (.iconst 0, 1) := by decide +kernel
theorem dX7_pulls_78 : decode cX7_pulls 78 = .ok (.bipush 20, 2) := by decide +kernel
theorem dX7_pulls_80 : decode cX7_pulls 80 = .ok (.invokestatic 182, 3) := by decide +kernel
theorem dX7_pulls_83 : decode cX7_pulls 83 = .ok (.iastore, 1) := by decide +kernel
theorem dX7_pulls_84 : decode cX7_pulls 84 = .ok (.aload_n 0, 1) := by decide +kernel
theorem dX7_pulls_85 : decode cX7_pulls 85 = .ok (.getfield 25, 3) := by decide +kernel
theorem dX7_pulls_88 : decode cX7_pulls 88 = .ok (.iload_n 3, 1) := by decide +kernel
theorem dX7_pulls_89 : decode cX7_pulls 89 = .ok (.aload_n 0, 1) := by decide +kernel
theorem dX7_pulls_90 : decode cX7_pulls 90 = .ok (.getfield 25, 3) := by decide +kernel
theorem dX7_pulls_93 : decode cX7_pulls 93 = .ok (.iload_n 3, 1) := by decide +kernel
theorem dX7_pulls_94 : decode cX7_pulls 94 = .ok (.iaload, 1) := by decide +kernel
theorem dX7_pulls_95 : decode cX7_pulls 95 = .ok (.iconst 1, 1) := by decide +kernel
theorem dX7_pulls_96 : decode cX7_pulls 96 = .ok (.iadd, 1) := by decide +kernel
theorem dX7_pulls_97 : decode cX7_pulls 97 = .ok (.iconst 0, 1) := by decide +kernel
theorem dX7_pulls_98 : decode cX7_pulls 98 = .ok (.bipush 20, 2) := by decide +kernel
theorem dX7_pulls_100 : decode cX7_pulls 100 = .ok (.invokestatic 182, 3) := by decide +kernel
theorem dX7_pulls_103 : decode cX7_pulls 103 = .ok (.iastore, 1) := by decide +kernel
theorem dX7_pulls_104 : decode cX7_pulls 104 = .ok (.return_, 1) := by decide +kernel
theorem dX7_goesHour_0 : decode cX7_goesHour 0 = .ok (.aload_n 0, 1) := by decide +kernel
theorem dX7_goesHour_1 : decode cX7_goesHour 1 = .ok (.dup, 1) := by decide +kernel
theorem dX7_goesHour_2 : decode cX7_goesHour 2 = .ok (.getfield 119, 3) := by decide +kernel
theorem dX7_goesHour_5 : decode cX7_goesHour 5 = .ok (.iconst 1, 1) := by decide +kernel
theorem dX7_goesHour_6 : decode cX7_goesHour 6 = .ok (.iadd, 1) := by decide +kernel
theorem dX7_goesHour_7 : decode cX7_goesHour 7 = .ok (.putfield 119, 3) := by decide +kernel
theorem dX7_goesHour_10 : decode cX7_goesHour 10 = .ok (.iconst 0, 1) := by decide +kernel
theorem dX7_goesHour_11 : decode cX7_goesHour 11 = .ok (.istore_n 1, 1) := by decide +kernel
theorem dX7_goesHour_12 : decode cX7_goesHour 12 = .ok (.iload_n 1, 1) := by decide +kernel
theorem dX7_goesHour_13 : decode cX7_goesHour 13 = .ok (.aload_n 0, 1) := by decide +kernel
theorem dX7_goesHour_14 : decode cX7_goesHour 14 = .ok (.getfield 67, 3) := by decide +kernel
theorem dX7_goesHour_17 : decode cX7_goesHour 17 = .ok (.if_icmp .ge 14, 3) := by decide +kernel
theorem dX7_goesHour_20 : decode cX7_goesHour 20 = .ok (.aload_n 0, 1) := by decide +kernel
theorem dX7_goesHour_21 : decode cX7_goesHour 21 = .ok (.iload_n 1, 1) := by decide +kernel
theorem dX7_goesHour_22 : decode cX7_goesHour 22 = .ok (.invokevirtual 185, 3) := by decide +kernel
theorem dX7_goesHour_25 : decode cX7_goesHour 25 = .ok (.iinc 1 1, 3) := by decide +kernel
theorem dX7_goesHour_28 : decode cX7_goesHour 28 = .ok (.goto (-16), 3) := by decide +kernel
theorem dX7_goesHour_31 : decode cX7_goesHour 31 = .ok (.return_, 1) := by decide +kernel
theorem dX7_goes_0 : decode cX7_goes 0 = .ok (.iconst 0, 1) := by decide +kernel
theorem dX7_goes_1 : decode cX7_goes 1 = .ok (.istore_n 2, 1) := by decide +kernel
theorem dX7_goes_2 : decode cX7_goes 2 = .ok (.iload_n 2, 1) := by decide +kernel
theorem dX7_goes_3 : decode cX7_goes 3 = .ok (.iload_n 1, 1) := by decide +kernel
theorem dX7_goes_4 : decode cX7_goes 4 = .ok (.if_icmp .ge 13, 3) := by decide +kernel
theorem dX7_goes_7 : decode cX7_goes 7 = .ok (.aload_n 0, 1) := by decide +kernel
theorem dX7_goes_8 : decode cX7_goes 8 = .ok (.invokevirtual 188, 3) := by decide +kernel
theorem dX7_goes_11 : decode cX7_goes 11 = .ok (.iinc 2 1, 3) := by decide +kernel
theorem dX7_goes_14 : decode cX7_goes 14 = .ok (.goto (-12), 3) := by decide +kernel
theorem dX7_goes_17 : decode cX7_goes 17 = .ok (.return_, 1) := by decide +kernel
theorem dX7_allHigh_0 : decode cX7_allHigh 0 = .ok (.iconst 0, 1) := by decide +kernel
theorem dX7_allHigh_1 : decode cX7_allHigh 1 = .ok (.istore_n 1, 1) := by decide +kernel
theorem dX7_allHigh_2 : decode cX7_allHigh 2 = .ok (.iconst 0, 1) := by decide +kernel
theorem dX7_allHigh_3 : decode cX7_allHigh 3 = .ok (.istore_n 2, 1) := by decide +kernel
theorem dX7_allHigh_4 : decode cX7_allHigh 4 = .ok (.iload_n 2, 1) := by decide +kernel
theorem dX7_allHigh_5 : decode cX7_allHigh 5 = .ok (.aload_n 0, 1) := by decide +kernel
theorem dX7_allHigh_6 : decode cX7_allHigh 6 = .ok (.getfield 62, 3) := by decide +kernel
theorem dX7_allHigh_9 : decode cX7_allHigh 9 = .ok (.if_icmp .ge 18, 3) := by decide +kernel
theorem dX7_allHigh_12 : decode cX7_allHigh 12 = .ok (.iload_n 1, 1) := by decide +kernel
theorem dX7_allHigh_13 : decode cX7_allHigh 13 = .ok (.aload_n 0, 1) := by decide +kernel
theorem dX7_allHigh_14 : decode cX7_allHigh 14 = .ok (.getfield 25, 3) := by decide +kernel
theorem dX7_allHigh_17 : decode cX7_allHigh 17 = .ok (.iload_n 2, 1) := by decide +kernel
theorem dX7_allHigh_18 : decode cX7_allHigh 18 = .ok (.iaload, 1) := by decide +kernel
theorem dX7_allHigh_19 : decode cX7_allHigh 19 = .ok (.iadd, 1) := by decide +kernel
theorem dX7_allHigh_20 : decode cX7_allHigh 20 = .ok (.istore_n 1, 1) := by decide +kernel
theorem dX7_allHigh_21 : decode cX7_allHigh 21 = .ok (.iinc 2 1, 3) := by decide +kernel
theorem dX7_allHigh_24 : decode cX7_allHigh 24 = .ok (.goto (-20), 3) := by decide +kernel
theorem dX7_allHigh_27 : decode cX7_allHigh 27 = .ok (.iload_n 1, 1) := by decide +kernel
theorem dX7_allHigh_28 : decode cX7_allHigh 28 = .ok (.ireturn, 1) := by decide +kernel
theorem dX7_thing_0 : decode cX7_thing 0 = .ok (.aload_n 0, 1) := by decide +kernel
theorem dX7_thing_1 : decode cX7_thing 1 = .ok (.iload_n 1, 1) := by decide +kernel
theorem dX7_thing_2 : decode cX7_thing 2 = .ok (.invokevirtual 70, 3) := by decide +kernel
theorem dX7_thing_5 : decode cX7_thing 5 = .ok (.ifCond .ne 9, 3) := by decide +kernel
theorem dX7_thing_8 : decode cX7_thing 8 = .ok (.aload_n 0, 1) := by decide +kernel
theorem dX7_thing_9 : decode cX7_thing 9 = .ok (.iconst (-1), 1) := by decide +kernel
theorem dX7_thing_10 : decode cX7_thing 10 = .ok (.invokevirtual 81, 3) := by decide +kernel
theorem dX7_thing_13 : decode cX7_thing 13 = .ok (.ireturn, 1) := by decide +kernel
theorem dX7_thing_14 : decode cX7_thing 14 = .ok (.iload_n 2, 1) := by decide +kernel
theorem dX7_thing_15 : decode cX7_thing 15 = .ok (.tableswitch 78 0 5 #[37, 44, 51, 58, 65, 72], 37) := by decide +kernel
theorem dX7_thing_52 : decode cX7_thing 52 = .ok (.aload_n 0, 1) := by decide +kernel
theorem dX7_thing_53 : decode cX7_thing 53 = .ok (.getfield 13, 3) := by decide +kernel
theorem dX7_thing_56 : decode cX7_thing 56 = .ok (.iload_n 1, 1) := by decide +kernel
theorem dX7_thing_57 : decode cX7_thing 57 = .ok (.iaload, 1) := by decide +kernel
theorem dX7_thing_58 : decode cX7_thing 58 = .ok (.ireturn, 1) := by decide +kernel
theorem dX7_thing_59 : decode cX7_thing 59 = .ok (.aload_n 0, 1) := by decide +kernel
theorem dX7_thing_60 : decode cX7_thing 60 = .ok (.getfield 16, 3) := by decide +kernel
theorem dX7_thing_63 : decode cX7_thing 63 = .ok (.iload_n 1, 1) := by decide +kernel
theorem dX7_thing_64 : decode cX7_thing 64 = .ok (.iaload, 1) := by decide +kernel
theorem dX7_thing_65 : decode cX7_thing 65 = .ok (.ireturn, 1) := by decide +kernel
theorem dX7_thing_66 : decode cX7_thing 66 = .ok (.aload_n 0, 1) := by decide +kernel
theorem dX7_thing_67 : decode cX7_thing 67 = .ok (.getfield 19, 3) := by decide +kernel
theorem dX7_thing_70 : decode cX7_thing 70 = .ok (.iload_n 1, 1) := by decide +kernel
theorem dX7_thing_71 : decode cX7_thing 71 = .ok (.iaload, 1) := by decide +kernel
theorem dX7_thing_72 : decode cX7_thing 72 = .ok (.ireturn, 1) := by decide +kernel
theorem dX7_thing_73 : decode cX7_thing 73 = .ok (.aload_n 0, 1) := by decide +kernel
theorem dX7_thing_74 : decode cX7_thing 74 = .ok (.getfield 22, 3) := by decide +kernel
theorem dX7_thing_77 : decode cX7_thing 77 = .ok (.iload_n 1, 1) := by decide +kernel
theorem dX7_thing_78 : decode cX7_thing 78 = .ok (.iaload, 1) := by decide +kernel
theorem dX7_thing_79 : decode cX7_thing 79 = .ok (.ireturn, 1) := by decide +kernel
theorem dX7_thing_80 : decode cX7_thing 80 = .ok (.aload_n 0, 1) := by decide +kernel
theorem dX7_thing_81 : decode cX7_thing 81 = .ok (.getfield 25, 3) := by decide +kernel
theorem dX7_thing_84 : decode cX7_thing 84 = .ok (.iload_n 1, 1) := by decide +kernel
theorem dX7_thing_85 : decode cX7_thing 85 = .ok (.iaload, 1) := by decide +kernel
theorem dX7_thing_86 : decode cX7_thing 86 = .ok (.ireturn, 1) := by decide +kernel
theorem dX7_thing_87 : decode cX7_thing 87 = .ok (.aload_n 0, 1) := by decide +kernel
theorem dX7_thing_88 : decode cX7_thing 88 = .ok (.iload_n 1, 1) := by decide +kernel
theorem dX7_thing_89 : decode cX7_thing 89 = .ok (.invokevirtual 176, 3) := by decide +kernel
theorem dX7_thing_92 : decode cX7_thing 92 = .ok (.ireturn, 1) := by decide +kernel
theorem dX7_thing_93 : decode cX7_thing 93 = .ok (.aload_n 0, 1) := by decide +kernel
theorem dX7_thing_94 : decode cX7_thing 94 = .ok (.bipush (-2), 2) := by decide +kernel
theorem dX7_thing_96 : decode cX7_thing 96 = .ok (.invokevirtual 81, 3) := by decide +kernel
theorem dX7_thing_99 : decode cX7_thing 99 = .ok (.ireturn, 1) := by decide +kernel
theorem dX7_rope_0 : decode cX7_rope 0 = .ok (.aload_n 0, 1) := by decide +kernel
theorem dX7_rope_1 : decode cX7_rope 1 = .ok (.iload_n 1, 1) := by decide +kernel
theorem dX7_rope_2 : decode cX7_rope 2 = .ok (.invokevirtual 132, 3) := by decide +kernel
theorem dX7_rope_5 : decode cX7_rope 5 = .ok (.ifCond .ne 9, 3) := by decide +kernel
theorem dX7_rope_8 : decode cX7_rope 8 = .ok (.aload_n 0, 1) := by decide +kernel
theorem dX7_rope_9 : decode cX7_rope 9 = .ok (.iconst (-1), 1) := by decide +kernel
theorem dX7_rope_10 : decode cX7_rope 10 = .ok (.invokevirtual 81, 3) := by decide +kernel
theorem dX7_rope_13 : decode cX7_rope 13 = .ok (.ireturn, 1) := by decide +kernel
theorem dX7_rope_14 : decode cX7_rope 14 = .ok (.iload_n 2, 1) := by decide +kernel
theorem dX7_rope_15 : decode cX7_rope 15 = .ok (.ifCond .ne 12, 3) := by decide +kernel
theorem dX7_rope_18 : decode cX7_rope 18 = .ok (.aload_n 0, 1) := by decide +kernel
theorem dX7_rope_19 : decode cX7_rope 19 = .ok (.getfield 28, 3) := by decide +kernel
theorem dX7_rope_22 : decode cX7_rope 22 = .ok (.iload_n 1, 1) := by decide +kernel
theorem dX7_rope_23 : decode cX7_rope 23 = .ok (.iaload, 1) := by decide +kernel
theorem dX7_rope_24 : decode cX7_rope 24 = .ok (.goto 36, 3) := by decide +kernel
theorem dX7_rope_27 : decode cX7_rope 27 = .ok (.iload_n 2, 1) := by decide +kernel
theorem dX7_rope_28 : decode cX7_rope 28 = .ok (.iconst 1, 1) := by decide +kernel
theorem dX7_rope_29 : decode cX7_rope 29 = .ok (.if_icmp .ne 12, 3) := by decide +kernel
theorem dX7_rope_32 : decode cX7_rope 32 = .ok (.aload_n 0, 1) := by decide +kernel
theorem dX7_rope_33 : decode cX7_rope 33 = .ok (.getfield 31, 3) := by decide +kernel
theorem dX7_rope_36 : decode cX7_rope 36 = .ok (.iload_n 1, 1) := by decide +kernel
theorem dX7_rope_37 : decode cX7_rope 37 = .ok (.iaload, 1) := by decide +kernel
theorem dX7_rope_38 : decode cX7_rope 38 = .ok (.goto 22, 3) := by decide +kernel
theorem dX7_rope_41 : decode cX7_rope 41 = .ok (.iload_n 2, 1) := by decide +kernel
theorem dX7_rope_42 : decode cX7_rope 42 = .ok (.iconst 2, 1) := by decide +kernel
theorem dX7_rope_43 : decode cX7_rope 43 = .ok (.if_icmp .ne 11, 3) := by decide +kernel
theorem dX7_rope_46 : decode cX7_rope 46 = .ok (.aload_n 0, 1) := by decide +kernel
theorem dX7_rope_47 : decode cX7_rope 47 = .ok (.iload_n 1, 1) := by decide +kernel
theorem dX7_rope_48 : decode cX7_rope 48 = .ok (.invokevirtual 179, 3) := by decide +kernel
theorem dX7_rope_51 : decode cX7_rope 51 = .ok (.goto 9, 3) := by decide +kernel
theorem dX7_rope_54 : decode cX7_rope 54 = .ok (.aload_n 0, 1) := by decide +kernel
theorem dX7_rope_55 : decode cX7_rope 55 = .ok (.bipush (-2), 2) := by decide +kernel
theorem dX7_rope_57 : decode cX7_rope 57 = .ok (.invokevirtual 81, 3) := by decide +kernel
theorem dX7_rope_60 : decode cX7_rope 60 = .ok (.ireturn, 1) := by decide +kernel
theorem dX7_ties_0 : decode cX7_ties 0 = .ok (.aload_n 0, 1) := by decide +kernel
theorem dX7_ties_1 : decode cX7_ties 1 = .ok (.iload_n 1, 1) := by decide +kernel
theorem dX7_ties_2 : decode cX7_ties 2 = .ok (.iload_n 2, 1) := by decide +kernel
theorem dX7_ties_3 : decode cX7_ties 3 = .ok (.invokevirtual 112, 3) := by decide +kernel
theorem dX7_ties_6 : decode cX7_ties 6 = .ok (.ifCond .ne 7, 3) := by decide +kernel
theorem dX7_ties_9 : decode cX7_ties 9 = .ok (.iconst (-1), 1) := by decide +kernel
theorem dX7_ties_10 : decode cX7_ties 10 = .ok (.goto 18, 3) := by decide +kernel
theorem dX7_ties_13 : decode cX7_ties 13 = .ok (.aload_n 0, 1) := by decide +kernel
theorem dX7_ties_14 : decode cX7_ties 14 = .ok (.getfield 67, 3) := by decide +kernel
theorem dX7_ties_17 : decode cX7_ties 17 = .ok (.bipush 6, 2) := by decide +kernel
theorem dX7_ties_19 : decode cX7_ties 19 = .ok (.if_icmp .ne 8, 3) := by decide +kernel
theorem dX7_ties_22 : decode cX7_ties 22 = .ok (.bipush (-6), 2) := by decide +kernel
theorem dX7_ties_24 : decode cX7_ties 24 = .ok (.goto 4, 3) := by decide +kernel
theorem dX7_ties_27 : decode cX7_ties 27 = .ok (.iconst 0, 1) := by decide +kernel
theorem dX7_ties_28 : decode cX7_ties 28 = .ok (.istore_n 3, 1) := by decide +kernel
theorem dX7_ties_29 : decode cX7_ties 29 = .ok (.iload_n 3, 1) := by decide +kernel
theorem dX7_ties_30 : decode cX7_ties 30 = .ok (.ifCond .eq 9, 3) := by decide +kernel
theorem dX7_ties_33 : decode cX7_ties 33 = .ok (.aload_n 0, 1) := by decide +kernel
theorem dX7_ties_34 : decode cX7_ties 34 = .ok (.iload_n 3, 1) := by decide +kernel
theorem dX7_ties_35 : decode cX7_ties 35 = .ok (.invokevirtual 81, 3) := by decide +kernel
theorem dX7_ties_38 : decode cX7_ties 38 = .ok (.ireturn, 1) := by decide +kernel
theorem dX7_ties_39 : decode cX7_ties 39 = .ok (.aload_n 0, 1) := by decide +kernel
theorem dX7_ties_40 : decode cX7_ties 40 = .ok (.iload_n 1, 1) := by decide +kernel
theorem dX7_ties_41 : decode cX7_ties 41 = .ok (.iload_n 2, 1) := by decide +kernel
theorem dX7_ties_42 : decode cX7_ties 42 = .ok (.invokevirtual 115, 3) := by decide +kernel
theorem dX7_ties_45 : decode cX7_ties 45 = .ok (.aload_n 0, 1) := by decide +kernel
theorem dX7_ties_46 : decode cX7_ties 46 = .ok (.getfield 67, 3) := by decide +kernel
theorem dX7_ties_49 : decode cX7_ties 49 = .ok (.iconst 1, 1) := by decide +kernel
theorem dX7_ties_50 : decode cX7_ties 50 = .ok (.isub, 1) := by decide +kernel
theorem dX7_ties_51 : decode cX7_ties 51 = .ok (.ireturn, 1) := by decide +kernel
theorem dX7_cuts_0 : decode cX7_cuts 0 = .ok (.aload_n 0, 1) := by decide +kernel
theorem dX7_cuts_1 : decode cX7_cuts 1 = .ok (.iload_n 1, 1) := by decide +kernel
theorem dX7_cuts_2 : decode cX7_cuts 2 = .ok (.invokevirtual 132, 3) := by decide +kernel
theorem dX7_cuts_5 : decode cX7_cuts 5 = .ok (.ifCond .ne 9, 3) := by decide +kernel
theorem dX7_cuts_8 : decode cX7_cuts 8 = .ok (.aload_n 0, 1) := by decide +kernel
theorem dX7_cuts_9 : decode cX7_cuts 9 = .ok (.iconst (-1), 1) := by decide +kernel
theorem dX7_cuts_10 : decode cX7_cuts 10 = .ok (.invokevirtual 81, 3) := by decide +kernel
theorem dX7_cuts_13 : decode cX7_cuts 13 = .ok (.ireturn, 1) := by decide +kernel
theorem dX7_cuts_14 : decode cX7_cuts 14 = .ok (.aload_n 0, 1) := by decide +kernel
theorem dX7_cuts_15 : decode cX7_cuts 15 = .ok (.iload_n 1, 1) := by decide +kernel
theorem dX7_cuts_16 : decode cX7_cuts 16 = .ok (.invokevirtual 135, 3) := by decide +kernel
theorem dX7_cuts_19 : decode cX7_cuts 19 = .ok (.aload_n 0, 1) := by decide +kernel
theorem dX7_cuts_20 : decode cX7_cuts 20 = .ok (.getfield 67, 3) := by decide +kernel
theorem dX7_cuts_23 : decode cX7_cuts 23 = .ok (.ireturn, 1) := by decide +kernel
theorem dX7_becomes_0 : decode cX7_becomes 0 = .ok (.aload_n 0, 1) := by decide +kernel
theorem dX7_becomes_1 : decode cX7_becomes 1 = .ok (.iload_n 2, 1) := by decide +kernel
theorem dX7_becomes_2 : decode cX7_becomes 2 = .ok (.invokevirtual 70, 3) := by decide +kernel
theorem dX7_becomes_5 : decode cX7_becomes 5 = .ok (.ifCond .ne 7, 3) := by decide +kernel
theorem dX7_becomes_8 : decode cX7_becomes 8 = .ok (.iconst (-1), 1) := by decide +kernel
theorem dX7_becomes_9 : decode cX7_becomes 9 = .ok (.goto 10, 3) := by decide +kernel
theorem dX7_becomes_12 : decode cX7_becomes 12 = .ok (.iload_n 3, 1) := by decide +kernel
theorem dX7_becomes_13 : decode cX7_becomes 13 = .ok (.iconst 0, 1) := by decide +kernel
theorem dX7_becomes_14 : decode cX7_becomes 14 = .ok (.iload 4, 2) := by decide +kernel
theorem dX7_becomes_16 : decode cX7_becomes 16 = .ok (.invokestatic 74, 3) := by decide +kernel
theorem dX7_becomes_19 : decode cX7_becomes 19 = .ok (.istore 5, 2) := by decide +kernel
theorem dX7_becomes_21 : decode cX7_becomes 21 = .ok (.iload 5, 2) := by decide +kernel
theorem dX7_becomes_23 : decode cX7_becomes 23 = .ok (.ifCond .eq 10, 3) := by decide +kernel
theorem dX7_becomes_26 : decode cX7_becomes 26 = .ok (.aload_n 0, 1) := by decide +kernel
theorem dX7_becomes_27 : decode cX7_becomes 27 = .ok (.iload 5, 2) := by decide +kernel
theorem dX7_becomes_29 : decode cX7_becomes 29 = .ok (.invokevirtual 81, 3) := by decide +kernel
theorem dX7_becomes_32 : decode cX7_becomes 32 = .ok (.ireturn, 1) := by decide +kernel
theorem dX7_becomes_33 : decode cX7_becomes 33 = .ok (.aload_n 1, 1) := by decide +kernel
theorem dX7_becomes_34 : decode cX7_becomes 34 = .ok (.iload_n 2, 1) := by decide +kernel
theorem dX7_becomes_35 : decode cX7_becomes 35 = .ok (.iaload, 1) := by decide +kernel
theorem dX7_becomes_36 : decode cX7_becomes 36 = .ok (.istore 6, 2) := by decide +kernel
theorem dX7_becomes_38 : decode cX7_becomes 38 = .ok (.aload_n 1, 1) := by decide +kernel
theorem dX7_becomes_39 : decode cX7_becomes 39 = .ok (.iload_n 2, 1) := by decide +kernel
theorem dX7_becomes_40 : decode cX7_becomes 40 = .ok (.iload_n 3, 1) := by decide +kernel
theorem dX7_becomes_41 : decode cX7_becomes 41 = .ok (.iastore, 1) := by decide +kernel
theorem dX7_becomes_42 : decode cX7_becomes 42 = .ok (.iload 6, 2) := by decide +kernel
theorem dX7_becomes_44 : decode cX7_becomes 44 = .ok (.ireturn, 1) := by decide +kernel
theorem dX7_stones_0 : decode cX7_stones 0 = .ok (.aload_n 0, 1) := by decide +kernel
theorem dX7_stones_1 : decode cX7_stones 1 = .ok (.aload_n 0, 1) := by decide +kernel
theorem dX7_stones_2 : decode cX7_stones 2 = .ok (.getfield 22, 3) := by decide +kernel
theorem dX7_stones_5 : decode cX7_stones 5 = .ok (.iload_n 1, 1) := by decide +kernel
theorem dX7_stones_6 : decode cX7_stones 6 = .ok (.iload_n 2, 1) := by decide +kernel
theorem dX7_stones_7 : decode cX7_stones 7 = .ok (.bipush 9, 2) := by decide +kernel
theorem dX7_stones_9 : decode cX7_stones 9 = .ok (.invokevirtual 191, 3) := by decide +kernel
theorem dX7_stones_12 : decode cX7_stones 12 = .ok (.ireturn, 1) := by decide +kernel
theorem dX7_weighs_0 : decode cX7_weighs 0 = .ok (.aload_n 0, 1) := by decide +kernel
theorem dX7_weighs_1 : decode cX7_weighs 1 = .ok (.aload_n 0, 1) := by decide +kernel
theorem dX7_weighs_2 : decode cX7_weighs 2 = .ok (.getfield 19, 3) := by decide +kernel
theorem dX7_weighs_5 : decode cX7_weighs 5 = .ok (.iload_n 1, 1) := by decide +kernel
theorem dX7_weighs_6 : decode cX7_weighs 6 = .ok (.iload_n 2, 1) := by decide +kernel
theorem dX7_weighs_7 : decode cX7_weighs 7 = .ok (.bipush 60, 2) := by decide +kernel
theorem dX7_weighs_9 : decode cX7_weighs 9 = .ok (.invokevirtual 191, 3) := by decide +kernel
theorem dX7_weighs_12 : decode cX7_weighs 12 = .ok (.ireturn, 1) := by decide +kernel
theorem dX7_lifts_0 : decode cX7_lifts 0 = .ok (.aload_n 0, 1) := by decide +kernel
theorem dX7_lifts_1 : decode cX7_lifts 1 = .ok (.aload_n 0, 1) := by decide +kernel
theorem dX7_lifts_2 : decode cX7_lifts 2 = .ok (.getfield 25, 3) := by decide +kernel
theorem dX7_lifts_5 : decode cX7_lifts 5 = .ok (.iload_n 1, 1) := by decide +kernel
theorem dX7_lifts_6 : decode cX7_lifts 6 = .ok (.iload_n 2, 1) := by decide +kernel
theorem dX7_lifts_7 : decode cX7_lifts 7 = .ok (.bipush 20, 2) := by decide +kernel
theorem dX7_lifts_9 : decode cX7_lifts 9 = .ok (.invokevirtual 191, 3) := by decide +kernel
theorem dX7_lifts_12 : decode cX7_lifts 12 = .ok (.ireturn, 1) := by decide +kernel
theorem dX7_turn_0 : decode cX7_turn 0 = .ok (.aload_n 0, 1) := by decide +kernel
theorem dX7_turn_1 : decode cX7_turn 1 = .ok (.iload_n 1, 1) := by decide +kernel
theorem dX7_turn_2 : decode cX7_turn 2 = .ok (.invokevirtual 70, 3) := by decide +kernel
theorem dX7_turn_5 : decode cX7_turn 5 = .ok (.ifCond .ne 7, 3) := by decide +kernel
theorem dX7_turn_8 : decode cX7_turn 8 = .ok (.iconst (-1), 1) := by decide +kernel
theorem dX7_turn_9 : decode cX7_turn 9 = .ok (.goto 24, 3) := by decide +kernel
theorem dX7_turn_12 : decode cX7_turn 12 = .ok (.iload_n 2, 1) := by decide +kernel
theorem dX7_turn_13 : decode cX7_turn 13 = .ok (.iconst 0, 1) := by decide +kernel
theorem dX7_turn_14 : decode cX7_turn 14 = .ok (.iconst 5, 1) := by decide +kernel
theorem dX7_turn_15 : decode cX7_turn 15 = .ok (.invokestatic 92, 3) := by decide +kernel
theorem dX7_turn_18 : decode cX7_turn 18 = .ok (.ifCond .ne 8, 3) := by decide +kernel
theorem dX7_turn_21 : decode cX7_turn 21 = .ok (.bipush (-2), 2) := by decide +kernel
theorem dX7_turn_23 : decode cX7_turn 23 = .ok (.goto 10, 3) := by decide +kernel
theorem dX7_turn_26 : decode cX7_turn 26 = .ok (.iload_n 3, 1) := by decide +kernel
theorem dX7_turn_27 : decode cX7_turn 27 = .ok (.iconst 0, 1) := by decide +kernel
theorem dX7_turn_28 : decode cX7_turn 28 = .ok (.bipush 9, 2) := by decide +kernel
theorem dX7_turn_30 : decode cX7_turn 30 = .ok (.invokestatic 74, 3) := by decide +kernel
theorem dX7_turn_33 : decode cX7_turn 33 = .ok (.istore 4, 2) := by decide +kernel
theorem dX7_turn_35 : decode cX7_turn 35 = .ok (.iload 4, 2) := by decide +kernel
theorem dX7_turn_37 : decode cX7_turn 37 = .ok (.ifCond .eq 10, 3) := by decide +kernel
theorem dX7_turn_40 : decode cX7_turn 40 = .ok (.aload_n 0, 1) := by decide +kernel
theorem dX7_turn_41 : decode cX7_turn 41 = .ok (.iload 4, 2) := by decide +kernel
theorem dX7_turn_43 : decode cX7_turn 43 = .ok (.invokevirtual 81, 3) := by decide +kernel
theorem dX7_turn_46 : decode cX7_turn 46 = .ok (.ireturn, 1) := by decide +kernel
theorem dX7_turn_47 : decode cX7_turn 47 = .ok (.bipush 10, 2) := by decide +kernel
theorem dX7_turn_49 : decode cX7_turn 49 = .ok (.aload_n 0, 1) := by decide +kernel
theorem dX7_turn_50 : decode cX7_turn 50 = .ok (.getfield 13, 3) := by decide +kernel
theorem dX7_turn_53 : decode cX7_turn 53 = .ok (.iload_n 1, 1) := by decide +kernel
theorem dX7_turn_54 : decode cX7_turn 54 = .ok (.iaload, 1) := by decide +kernel
theorem dX7_turn_55 : decode cX7_turn 55 = .ok (.imul, 1) := by decide +kernel
theorem dX7_turn_56 : decode cX7_turn 56 = .ok (.aload_n 0, 1) := by decide +kernel
theorem dX7_turn_57 : decode cX7_turn 57 = .ok (.getfield 16, 3) := by decide +kernel
theorem dX7_turn_60 : decode cX7_turn 60 = .ok (.iload_n 1, 1) := by decide +kernel
theorem dX7_turn_61 : decode cX7_turn 61 = .ok (.iaload, 1) := by decide +kernel
theorem dX7_turn_62 : decode cX7_turn 62 = .ok (.iadd, 1) := by decide +kernel
theorem dX7_turn_63 : decode cX7_turn 63 = .ok (.istore 5, 2) := by decide +kernel
theorem dX7_turn_65 : decode cX7_turn 65 = .ok (.aload_n 0, 1) := by decide +kernel
theorem dX7_turn_66 : decode cX7_turn 66 = .ok (.getfield 13, 3) := by decide +kernel
theorem dX7_turn_69 : decode cX7_turn 69 = .ok (.iload_n 1, 1) := by decide +kernel
theorem dX7_turn_70 : decode cX7_turn 70 = .ok (.iload_n 2, 1) := by decide +kernel
theorem dX7_turn_71 : decode cX7_turn 71 = .ok (.iastore, 1) := by decide +kernel
theorem dX7_turn_72 : decode cX7_turn 72 = .ok (.aload_n 0, 1) := by decide +kernel
theorem dX7_turn_73 : decode cX7_turn 73 = .ok (.getfield 16, 3) := by decide +kernel
theorem dX7_turn_76 : decode cX7_turn 76 = .ok (.iload_n 1, 1) := by decide +kernel
theorem dX7_turn_77 : decode cX7_turn 77 = .ok (.iload_n 3, 1) := by decide +kernel
theorem dX7_turn_78 : decode cX7_turn 78 = .ok (.iastore, 1) := by decide +kernel
theorem dX7_turn_79 : decode cX7_turn 79 = .ok (.iload 5, 2) := by decide +kernel
theorem dX7_turn_81 : decode cX7_turn 81 = .ok (.ireturn, 1) := by decide +kernel
theorem dX7_hours_0 : decode cX7_hours 0 = .ok (.iload_n 1, 1) := by decide +kernel
theorem dX7_hours_1 : decode cX7_hours 1 = .ok (.iconst 1, 1) := by decide +kernel
theorem dX7_hours_2 : decode cX7_hours 2 = .ok (.bipush 60, 2) := by decide +kernel
theorem dX7_hours_4 : decode cX7_hours 4 = .ok (.invokestatic 74, 3) := by decide +kernel
theorem dX7_hours_7 : decode cX7_hours 7 = .ok (.istore_n 2, 1) := by decide +kernel
theorem dX7_hours_8 : decode cX7_hours 8 = .ok (.iload_n 2, 1) := by decide +kernel
theorem dX7_hours_9 : decode cX7_hours 9 = .ok (.ifCond .ne 18, 3) := by decide +kernel
theorem dX7_hours_12 : decode cX7_hours 12 = .ok (.aload_n 0, 1) := by decide +kernel
theorem dX7_hours_13 : decode cX7_hours 13 = .ok (.getfield 119, 3) := by decide +kernel
theorem dX7_hours_16 : decode cX7_hours 16 = .ok (.iload_n 1, 1) := by decide +kernel
theorem dX7_hours_17 : decode cX7_hours 17 = .ok (.iadd, 1) := by decide +kernel
theorem dX7_hours_18 : decode cX7_hours 18 = .ok (.sipush 999, 3) := by decide +kernel
theorem dX7_hours_21 : decode cX7_hours 21 = .ok (.if_icmp .le 6, 3) := by decide +kernel
theorem dX7_hours_24 : decode cX7_hours 24 = .ok (.bipush (-6), 2) := by decide +kernel
theorem dX7_hours_26 : decode cX7_hours 26 = .ok (.istore_n 2, 1) := by decide +kernel
theorem dX7_hours_27 : decode cX7_hours 27 = .ok (.iload_n 2, 1) := by decide +kernel
theorem dX7_hours_28 : decode cX7_hours 28 = .ok (.ifCond .eq 9, 3) := by decide +kernel
theorem dX7_hours_31 : decode cX7_hours 31 = .ok (.aload_n 0, 1) := by decide +kernel
theorem dX7_hours_32 : decode cX7_hours 32 = .ok (.iload_n 2, 1) := by decide +kernel
theorem dX7_hours_33 : decode cX7_hours 33 = .ok (.invokevirtual 81, 3) := by decide +kernel
theorem dX7_hours_36 : decode cX7_hours 36 = .ok (.ireturn, 1) := by decide +kernel
theorem dX7_hours_37 : decode cX7_hours 37 = .ok (.aload_n 0, 1) := by decide +kernel
theorem dX7_hours_38 : decode cX7_hours 38 = .ok (.iload_n 1, 1) := by decide +kernel
theorem dX7_hours_39 : decode cX7_hours 39 = .ok (.invokevirtual 122, 3) := by decide +kernel
theorem dX7_hours_42 : decode cX7_hours 42 = .ok (.aload_n 0, 1) := by decide +kernel
theorem dX7_hours_43 : decode cX7_hours 43 = .ok (.invokevirtual 195, 3) := by decide +kernel
theorem dX7_hours_46 : decode cX7_hours 46 = .ok (.ireturn, 1) := by decide +kernel
theorem dX7_notHours_0 : decode cX7_notHours 0 = .ok (.iload_n 0, 1) := by decide +kernel
theorem dX7_notHours_1 : decode cX7_notHours 1 = .ok (.iconst 0, 1) := by decide +kernel
theorem dX7_notHours_2 : decode cX7_notHours 2 = .ok (.bipush 99, 2) := by decide +kernel
theorem dX7_notHours_4 : decode cX7_notHours 4 = .ok (.invokestatic 74, 3) := by decide +kernel
theorem dX7_notHours_7 : decode cX7_notHours 7 = .ok (.ireturn, 1) := by decide +kernel
theorem dX7_thingThen_0 : decode cX7_thingThen 0 = .ok (.aload_n 0, 1) := by decide +kernel
theorem dX7_thingThen_1 : decode cX7_thingThen 1 = .ok (.iload_n 1, 1) := by decide +kernel
theorem dX7_thingThen_2 : decode cX7_thingThen 2 = .ok (.invokevirtual 70, 3) := by decide +kernel
theorem dX7_thingThen_5 : decode cX7_thingThen 5 = .ok (.ifCond .ne 7, 3) := by decide +kernel
theorem dX7_thingThen_8 : decode cX7_thingThen 8 = .ok (.iconst (-1), 1) := by decide +kernel
theorem dX7_thingThen_9 : decode cX7_thingThen 9 = .ok (.goto 7, 3) := by decide +kernel
theorem dX7_thingThen_12 : decode cX7_thingThen 12 = .ok (.iload_n 2, 1) := by decide +kernel
theorem dX7_thingThen_13 : decode cX7_thingThen 13 = .ok (.invokestatic 198, 3) := by decide +kernel
theorem dX7_thingThen_16 : decode cX7_thingThen 16 = .ok (.istore 4, 2) := by decide +kernel
theorem dX7_thingThen_18 : decode cX7_thingThen 18 = .ok (.iload 4, 2) := by decide +kernel
theorem dX7_thingThen_20 : decode cX7_thingThen 20 = .ok (.ifCond .ne 16, 3) := by decide +kernel
theorem dX7_thingThen_23 : decode cX7_thingThen 23 = .ok (.iload_n 3, 1) := by decide +kernel
theorem dX7_thingThen_24 : decode cX7_thingThen 24 = .ok (.iconst 0, 1) := by decide +kernel
theorem dX7_thingThen_25 : decode cX7_thingThen 25 = .ok (.iconst 1, 1) := by decide +kernel
theorem dX7_thingThen_26 : decode cX7_thingThen 26 = .ok (.invokestatic 92, 3) := by decide +kernel
theorem dX7_thingThen_29 : decode cX7_thingThen 29 = .ok (.ifCond .ne 7, 3) := by decide +kernel
theorem dX7_thingThen_32 : decode cX7_thingThen 32 = .ok (.bipush (-2), 2) := by decide +kernel
theorem dX7_thingThen_34 : decode cX7_thingThen 34 = .ok (.istore 4, 2) := by decide +kernel
theorem dX7_thingThen_36 : decode cX7_thingThen 36 = .ok (.iload 4, 2) := by decide +kernel
theorem dX7_thingThen_38 : decode cX7_thingThen 38 = .ok (.ifCond .eq 10, 3) := by decide +kernel
theorem dX7_thingThen_41 : decode cX7_thingThen 41 = .ok (.aload_n 0, 1) := by decide +kernel
theorem dX7_thingThen_42 : decode cX7_thingThen 42 = .ok (.iload 4, 2) := by decide +kernel
theorem dX7_thingThen_44 : decode cX7_thingThen 44 = .ok (.invokevirtual 81, 3) := by decide +kernel
theorem dX7_thingThen_47 : decode cX7_thingThen 47 = .ok (.ireturn, 1) := by decide +kernel
theorem dX7_thingThen_48 : decode cX7_thingThen 48 = .ok (.aload_n 0, 1) := by decide +kernel
theorem dX7_thingThen_49 : decode cX7_thingThen 49 = .ok (.invokevirtual 201, 3) := by decide +kernel
theorem dX7_thingThen_52 : decode cX7_thingThen 52 = .ok (.aload_n 0, 1) := by decide +kernel
theorem dX7_thingThen_53 : decode cX7_thingThen 53 = .ok (.iload_n 2, 1) := by decide +kernel
theorem dX7_thingThen_54 : decode cX7_thingThen 54 = .ok (.invokevirtual 122, 3) := by decide +kernel
theorem dX7_thingThen_57 : decode cX7_thingThen 57 = .ok (.iload_n 3, 1) := by decide +kernel
theorem dX7_thingThen_58 : decode cX7_thingThen 58 = .ok (.ifCond .ne 12, 3) := by decide +kernel
theorem dX7_thingThen_61 : decode cX7_thingThen 61 = .ok (.aload_n 0, 1) := by decide +kernel
theorem dX7_thingThen_62 : decode cX7_thingThen 62 = .ok (.getfield 25, 3) := by decide +kernel
theorem dX7_thingThen_65 : decode cX7_thingThen 65 = .ok (.iload_n 1, 1) := by decide +kernel
theorem dX7_thingThen_66 : decode cX7_thingThen 66 = .ok (.iaload, 1) := by decide +kernel
theorem dX7_thingThen_67 : decode cX7_thingThen 67 = .ok (.goto 8, 3) := by decide +kernel
theorem dX7_thingThen_70 : decode cX7_thingThen 70 = .ok (.aload_n 0, 1) := by decide +kernel
theorem dX7_thingThen_71 : decode cX7_thingThen 71 = .ok (.iload_n 1, 1) := by decide +kernel
theorem dX7_thingThen_72 : decode cX7_thingThen 72 = .ok (.invokevirtual 176, 3) := by decide +kernel
theorem dX7_thingThen_75 : decode cX7_thingThen 75 = .ok (.istore 5, 2) := by decide +kernel
theorem dX7_thingThen_77 : decode cX7_thingThen 77 = .ok (.aload_n 0, 1) := by decide +kernel
theorem dX7_thingThen_78 : decode cX7_thingThen 78 = .ok (.invokevirtual 204, 3) := by decide +kernel
theorem dX7_thingThen_81 : decode cX7_thingThen 81 = .ok (.iload 5, 2) := by decide +kernel
theorem dX7_thingThen_83 : decode cX7_thingThen 83 = .ok (.ireturn, 1) := by decide +kernel
theorem dX7_ropeThen_0 : decode cX7_ropeThen 0 = .ok (.aload_n 0, 1) := by decide +kernel
theorem dX7_ropeThen_1 : decode cX7_ropeThen 1 = .ok (.iload_n 1, 1) := by decide +kernel
theorem dX7_ropeThen_2 : decode cX7_ropeThen 2 = .ok (.invokevirtual 132, 3) := by decide +kernel
theorem dX7_ropeThen_5 : decode cX7_ropeThen 5 = .ok (.ifCond .ne 7, 3) := by decide +kernel
theorem dX7_ropeThen_8 : decode cX7_ropeThen 8 = .ok (.iconst (-1), 1) := by decide +kernel
theorem dX7_ropeThen_9 : decode cX7_ropeThen 9 = .ok (.goto 7, 3) := by decide +kernel
theorem dX7_ropeThen_12 : decode cX7_ropeThen 12 = .ok (.iload_n 2, 1) := by decide +kernel
theorem dX7_ropeThen_13 : decode cX7_ropeThen 13 = .ok (.invokestatic 198, 3) := by decide +kernel
theorem dX7_ropeThen_16 : decode cX7_ropeThen 16 = .ok (.istore_n 3, 1) := by decide +kernel
theorem dX7_ropeThen_17 : decode cX7_ropeThen 17 = .ok (.iload_n 3, 1) := by decide +kernel
theorem dX7_ropeThen_18 : decode cX7_ropeThen 18 = .ok (.ifCond .eq 9, 3) := by decide +kernel
theorem dX7_ropeThen_21 : decode cX7_ropeThen 21 = .ok (.aload_n 0, 1) := by decide +kernel
theorem dX7_ropeThen_22 : decode cX7_ropeThen 22 = .ok (.iload_n 3, 1) := by decide +kernel
theorem dX7_ropeThen_23 : decode cX7_ropeThen 23 = .ok (.invokevirtual 81, 3) := by decide +kernel
theorem dX7_ropeThen_26 : decode cX7_ropeThen 26 = .ok (.ireturn, 1) := by decide +kernel
theorem dX7_ropeThen_27 : decode cX7_ropeThen 27 = .ok (.aload_n 0, 1) := by decide +kernel
theorem dX7_ropeThen_28 : decode cX7_ropeThen 28 = .ok (.invokevirtual 201, 3) := by decide +kernel
theorem dX7_ropeThen_31 : decode cX7_ropeThen 31 = .ok (.aload_n 0, 1) := by decide +kernel
theorem dX7_ropeThen_32 : decode cX7_ropeThen 32 = .ok (.iload_n 2, 1) := by decide +kernel
theorem dX7_ropeThen_33 : decode cX7_ropeThen 33 = .ok (.invokevirtual 122, 3) := by decide +kernel
theorem dX7_ropeThen_36 : decode cX7_ropeThen 36 = .ok (.aload_n 0, 1) := by decide +kernel
theorem dX7_ropeThen_37 : decode cX7_ropeThen 37 = .ok (.iload_n 1, 1) := by decide +kernel
theorem dX7_ropeThen_38 : decode cX7_ropeThen 38 = .ok (.invokevirtual 179, 3) := by decide +kernel
theorem dX7_ropeThen_41 : decode cX7_ropeThen 41 = .ok (.istore 4, 2) := by decide +kernel
theorem dX7_ropeThen_43 : decode cX7_ropeThen 43 = .ok (.aload_n 0, 1) := by decide +kernel
theorem dX7_ropeThen_44 : decode cX7_ropeThen 44 = .ok (.invokevirtual 204, 3) := by decide +kernel
theorem dX7_ropeThen_47 : decode cX7_ropeThen 47 = .ok (.iload 4, 2) := by decide +kernel
theorem dX7_ropeThen_49 : decode cX7_ropeThen 49 = .ok (.ireturn, 1) := by decide +kernel
theorem dX7_upAt_0 : decode cX7_upAt 0 = .ok (.aload_n 0, 1) := by decide +kernel
theorem dX7_upAt_1 : decode cX7_upAt 1 = .ok (.invokevirtual 201, 3) := by decide +kernel
theorem dX7_upAt_4 : decode cX7_upAt 4 = .ok (.bipush (-9), 2) := by decide +kernel
theorem dX7_upAt_6 : decode cX7_upAt 6 = .ok (.istore_n 3, 1) := by decide +kernel
theorem dX7_upAt_7 : decode cX7_upAt 7 = .ok (.iconst 0, 1) := by decide +kernel
theorem dX7_upAt_8 : decode cX7_upAt 8 = .ok (.istore 4, 2) := by decide +kernel
theorem dX7_upAt_10 : decode cX7_upAt 10 = .ok (.iload 4, 2) := by decide +kernel
theorem dX7_upAt_12 : decode cX7_upAt 12 = .ok (.bipush 99, 2) := by decide +kernel
theorem dX7_upAt_14 : decode cX7_upAt 14 = .ok (.if_icmp .gt 35, 3) := by decide +kernel
theorem dX7_upAt_17 : decode cX7_upAt 17 = .ok (.iload_n 3, 1) := by decide +kernel
theorem dX7_upAt_18 : decode cX7_upAt 18 = .ok (.ifCond .ge 31, 3) := by decide +kernel
theorem dX7_upAt_21 : decode cX7_upAt 21 = .ok (.aload_n 0, 1) := by decide +kernel
theorem dX7_upAt_22 : decode cX7_upAt 22 = .ok (.getfield 25, 3) := by decide +kernel
theorem dX7_upAt_25 : decode cX7_upAt 25 = .ok (.iload_n 1, 1) := by decide +kernel
theorem dX7_upAt_26 : decode cX7_upAt 26 = .ok (.iaload, 1) := by decide +kernel
theorem dX7_upAt_27 : decode cX7_upAt 27 = .ok (.iload_n 2, 1) := by decide +kernel
theorem dX7_upAt_28 : decode cX7_upAt 28 = .ok (.if_icmp .lt 8, 3) := by decide +kernel
theorem dX7_upAt_31 : decode cX7_upAt 31 = .ok (.iload 4, 2) := by decide +kernel
theorem dX7_upAt_33 : decode cX7_upAt 33 = .ok (.goto 5, 3) := by decide +kernel
theorem dX7_upAt_36 : decode cX7_upAt 36 = .ok (.bipush (-9), 2) := by decide +kernel
theorem dX7_upAt_38 : decode cX7_upAt 38 = .ok (.istore_n 3, 1) := by decide +kernel
theorem dX7_upAt_39 : decode cX7_upAt 39 = .ok (.aload_n 0, 1) := by decide +kernel
theorem dX7_upAt_40 : decode cX7_upAt 40 = .ok (.invokevirtual 188, 3) := by decide +kernel
theorem dX7_upAt_43 : decode cX7_upAt 43 = .ok (.iinc 4 1, 3) := by decide +kernel
theorem dX7_upAt_46 : decode cX7_upAt 46 = .ok (.goto (-36), 3) := by decide +kernel
theorem dX7_upAt_49 : decode cX7_upAt 49 = .ok (.aload_n 0, 1) := by decide +kernel
theorem dX7_upAt_50 : decode cX7_upAt 50 = .ok (.invokevirtual 204, 3) := by decide +kernel
theorem dX7_upAt_53 : decode cX7_upAt 53 = .ok (.iload_n 3, 1) := by decide +kernel
theorem dX7_upAt_54 : decode cX7_upAt 54 = .ok (.ireturn, 1) := by decide +kernel
theorem dX7_up_0 : decode cX7_up 0 = .ok (.aload_n 0, 1) := by decide +kernel
theorem dX7_up_1 : decode cX7_up 1 = .ok (.iload_n 1, 1) := by decide +kernel
theorem dX7_up_2 : decode cX7_up 2 = .ok (.invokevirtual 70, 3) := by decide +kernel
theorem dX7_up_5 : decode cX7_up 5 = .ok (.ifCond .ne 7, 3) := by decide +kernel
theorem dX7_up_8 : decode cX7_up 8 = .ok (.iconst (-1), 1) := by decide +kernel
theorem dX7_up_9 : decode cX7_up 9 = .ok (.goto 10, 3) := by decide +kernel
theorem dX7_up_12 : decode cX7_up 12 = .ok (.iload_n 2, 1) := by decide +kernel
theorem dX7_up_13 : decode cX7_up 13 = .ok (.iconst 0, 1) := by decide +kernel
theorem dX7_up_14 : decode cX7_up 14 = .ok (.bipush 20, 2) := by decide +kernel
theorem dX7_up_16 : decode cX7_up 16 = .ok (.invokestatic 74, 3) := by decide +kernel
theorem dX7_up_19 : decode cX7_up 19 = .ok (.istore_n 3, 1) := by decide +kernel
theorem dX7_up_20 : decode cX7_up 20 = .ok (.iload_n 3, 1) := by decide +kernel
theorem dX7_up_21 : decode cX7_up 21 = .ok (.ifCond .eq 11, 3) := by decide +kernel
theorem dX7_up_24 : decode cX7_up 24 = .ok (.aload_n 0, 1) := by decide +kernel
theorem dX7_up_25 : decode cX7_up 25 = .ok (.iload_n 3, 1) := by decide +kernel
theorem dX7_up_26 : decode cX7_up 26 = .ok (.invokevirtual 81, 3) := by decide +kernel
theorem dX7_up_29 : decode cX7_up 29 = .ok (.goto 9, 3) := by decide +kernel
theorem dX7_up_32 : decode cX7_up 32 = .ok (.aload_n 0, 1) := by decide +kernel
theorem dX7_up_33 : decode cX7_up 33 = .ok (.iload_n 1, 1) := by decide +kernel
theorem dX7_up_34 : decode cX7_up 34 = .ok (.iload_n 2, 1) := by decide +kernel
theorem dX7_up_35 : decode cX7_up 35 = .ok (.invokevirtual 207, 3) := by decide +kernel
theorem dX7_up_38 : decode cX7_up 38 = .ok (.ireturn, 1) := by decide +kernel
theorem dX7_isAtRest_0 : decode cX7_isAtRest 0 = .ok (.iconst 0, 1) := by decide +kernel
theorem dX7_isAtRest_1 : decode cX7_isAtRest 1 = .ok (.istore_n 1, 1) := by decide +kernel
theorem dX7_isAtRest_2 : decode cX7_isAtRest 2 = .ok (.iload_n 1, 1) := by decide +kernel
theorem dX7_isAtRest_3 : decode cX7_isAtRest 3 = .ok (.aload_n 0, 1) := by decide +kernel
theorem dX7_isAtRest_4 : decode cX7_isAtRest 4 = .ok (.getfield 62, 3) := by decide +kernel
theorem dX7_isAtRest_7 : decode cX7_isAtRest 7 = .ok (.if_icmp .ge 21, 3) := by decide +kernel
theorem dX7_isAtRest_10 : decode cX7_isAtRest 10 = .ok (.aload_n 0, 1) := by decide +kernel
theorem dX7_isAtRest_11 : decode cX7_isAtRest 11 = .ok (.getfield 53, 3) := by decide +kernel
theorem dX7_isAtRest_14 : decode cX7_isAtRest 14 = .ok (.iload_n 1, 1) := by decide +kernel
theorem dX7_isAtRest_15 : decode cX7_isAtRest 15 = .ok (.aload_n 0, 1) := by decide +kernel
theorem dX7_isAtRest_16 : decode cX7_isAtRest 16 = .ok (.getfield 25, 3) := by decide +kernel
theorem dX7_isAtRest_19 : decode cX7_isAtRest 19 = .ok (.iload_n 1, 1) := by decide +kernel
theorem dX7_isAtRest_20 : decode cX7_isAtRest 20 = .ok (.iaload, 1) := by decide +kernel
theorem dX7_isAtRest_21 : decode cX7_isAtRest 21 = .ok (.iastore, 1) := by decide +kernel
theorem dX7_isAtRest_22 : decode cX7_isAtRest 22 = .ok (.iinc 1 1, 3) := by decide +kernel
theorem dX7_isAtRest_25 : decode cX7_isAtRest 25 = .ok (.goto (-23), 3) := by decide +kernel
theorem dX7_isAtRest_28 : decode cX7_isAtRest 28 = .ok (.aload_n 0, 1) := by decide +kernel
theorem dX7_isAtRest_29 : decode cX7_isAtRest 29 = .ok (.invokevirtual 188, 3) := by decide +kernel
theorem dX7_isAtRest_32 : decode cX7_isAtRest 32 = .ok (.iconst 0, 1) := by decide +kernel
theorem dX7_isAtRest_33 : decode cX7_isAtRest 33 = .ok (.istore_n 1, 1) := by decide +kernel
theorem dX7_isAtRest_34 : decode cX7_isAtRest 34 = .ok (.iload_n 1, 1) := by decide +kernel
theorem dX7_isAtRest_35 : decode cX7_isAtRest 35 = .ok (.aload_n 0, 1) := by decide +kernel
theorem dX7_isAtRest_36 : decode cX7_isAtRest 36 = .ok (.getfield 62, 3) := by decide +kernel
theorem dX7_isAtRest_39 : decode cX7_isAtRest 39 = .ok (.if_icmp .ge 26, 3) := by decide +kernel
theorem dX7_isAtRest_42 : decode cX7_isAtRest 42 = .ok (.aload_n 0, 1) := by decide +kernel
theorem dX7_isAtRest_43 : decode cX7_isAtRest 43 = .ok (.getfield 53, 3) := by decide +kernel
theorem dX7_isAtRest_46 : decode cX7_isAtRest 46 = .ok (.iload_n 1, 1) := by decide +kernel
theorem dX7_isAtRest_47 : decode cX7_isAtRest 47 = .ok (.iaload, 1) := by decide +kernel
theorem dX7_isAtRest_48 : decode cX7_isAtRest 48 = .ok (.aload_n 0, 1) := by decide +kernel
theorem dX7_isAtRest_49 : decode cX7_isAtRest 49 = .ok (.getfield 25, 3) := by decide +kernel
theorem dX7_isAtRest_52 : decode cX7_isAtRest 52 = .ok (.iload_n 1, 1) := by decide +kernel
theorem dX7_isAtRest_53 : decode cX7_isAtRest 53 = .ok (.iaload, 1) := by decide +kernel
theorem dX7_isAtRest_54 : decode cX7_isAtRest 54 = .ok (.if_icmp .eq 5, 3) := by decide +kernel
theorem dX7_isAtRest_57 : decode cX7_isAtRest 57 = .ok (.iconst 0, 1) := by decide +kernel
theorem dX7_isAtRest_58 : decode cX7_isAtRest 58 = .ok (.ireturn, 1) := by decide +kernel
theorem dX7_isAtRest_59 : decode cX7_isAtRest 59 = .ok (.iinc 1 1, 3) := by decide +kernel
theorem dX7_isAtRest_62 : decode cX7_isAtRest 62 = .ok (.goto (-28), 3) := by decide +kernel
theorem dX7_isAtRest_65 : decode cX7_isAtRest 65 = .ok (.iconst 1, 1) := by decide +kernel
theorem dX7_isAtRest_66 : decode cX7_isAtRest 66 = .ok (.ireturn, 1) := by decide +kernel
theorem dX7_restsAt_0 : decode cX7_restsAt 0 = .ok (.aload_n 0, 1) := by decide +kernel
theorem dX7_restsAt_1 : decode cX7_restsAt 1 = .ok (.invokevirtual 201, 3) := by decide +kernel
theorem dX7_restsAt_4 : decode cX7_restsAt 4 = .ok (.bipush (-9), 2) := by decide +kernel
theorem dX7_restsAt_6 : decode cX7_restsAt 6 = .ok (.istore_n 1, 1) := by decide +kernel
theorem dX7_restsAt_7 : decode cX7_restsAt 7 = .ok (.iconst 0, 1) := by decide +kernel
theorem dX7_restsAt_8 : decode cX7_restsAt 8 = .ok (.istore_n 2, 1) := by decide +kernel
theorem dX7_restsAt_9 : decode cX7_restsAt 9 = .ok (.iload_n 2, 1) := by decide +kernel
theorem dX7_restsAt_10 : decode cX7_restsAt 10 = .ok (.bipush 99, 2) := by decide +kernel
theorem dX7_restsAt_12 : decode cX7_restsAt 12 = .ok (.if_icmp .gt 27, 3) := by decide +kernel
theorem dX7_restsAt_15 : decode cX7_restsAt 15 = .ok (.iload_n 1, 1) := by decide +kernel
theorem dX7_restsAt_16 : decode cX7_restsAt 16 = .ok (.ifCond .ge 23, 3) := by decide +kernel
theorem dX7_restsAt_19 : decode cX7_restsAt 19 = .ok (.aload_n 0, 1) := by decide +kernel
theorem dX7_restsAt_20 : decode cX7_restsAt 20 = .ok (.invokevirtual 210, 3) := by decide +kernel
theorem dX7_restsAt_23 : decode cX7_restsAt 23 = .ok (.ifCond .eq 7, 3) := by decide +kernel
theorem dX7_restsAt_26 : decode cX7_restsAt 26 = .ok (.iload_n 2, 1) := by decide +kernel
theorem dX7_restsAt_27 : decode cX7_restsAt 27 = .ok (.goto 5, 3) := by decide +kernel
theorem dX7_restsAt_30 : decode cX7_restsAt 30 = .ok (.bipush (-9), 2) := by decide +kernel
theorem dX7_restsAt_32 : decode cX7_restsAt 32 = .ok (.istore_n 1, 1) := by decide +kernel
theorem dX7_restsAt_33 : decode cX7_restsAt 33 = .ok (.iinc 2 1, 3) := by decide +kernel
theorem dX7_restsAt_36 : decode cX7_restsAt 36 = .ok (.goto (-27), 3) := by decide +kernel
theorem dX7_restsAt_39 : decode cX7_restsAt 39 = .ok (.aload_n 0, 1) := by decide +kernel
theorem dX7_restsAt_40 : decode cX7_restsAt 40 = .ok (.invokevirtual 204, 3) := by decide +kernel
theorem dX7_restsAt_43 : decode cX7_restsAt 43 = .ok (.iload_n 1, 1) := by decide +kernel
theorem dX7_restsAt_44 : decode cX7_restsAt 44 = .ok (.ireturn, 1) := by decide +kernel
theorem dX7_first_0 : decode cX7_first 0 = .ok (.iload_n 1, 1) := by decide +kernel
theorem dX7_first_1 : decode cX7_first 1 = .ok (.iconst 0, 1) := by decide +kernel
theorem dX7_first_2 : decode cX7_first 2 = .ok (.iconst 2, 1) := by decide +kernel
theorem dX7_first_3 : decode cX7_first 3 = .ok (.invokestatic 92, 3) := by decide +kernel
theorem dX7_first_6 : decode cX7_first 6 = .ok (.ifCond .ne 10, 3) := by decide +kernel
theorem dX7_first_9 : decode cX7_first 9 = .ok (.aload_n 0, 1) := by decide +kernel
theorem dX7_first_10 : decode cX7_first 10 = .ok (.bipush (-2), 2) := by decide +kernel
theorem dX7_first_12 : decode cX7_first 12 = .ok (.invokevirtual 81, 3) := by decide +kernel
theorem dX7_first_15 : decode cX7_first 15 = .ok (.ireturn, 1) := by decide +kernel
theorem dX7_first_16 : decode cX7_first 16 = .ok (.iload_n 1, 1) := by decide +kernel
theorem dX7_first_17 : decode cX7_first 17 = .ok (.iconst 2, 1) := by decide +kernel
theorem dX7_first_18 : decode cX7_first 18 = .ok (.if_icmp .ne 8, 3) := by decide +kernel
theorem dX7_first_21 : decode cX7_first 21 = .ok (.aload_n 0, 1) := by decide +kernel
theorem dX7_first_22 : decode cX7_first 22 = .ok (.invokevirtual 213, 3) := by decide +kernel
theorem dX7_first_25 : decode cX7_first 25 = .ok (.ireturn, 1) := by decide +kernel
theorem dX7_first_26 : decode cX7_first 26 = .ok (.bipush (-9), 2) := by decide +kernel
theorem dX7_first_28 : decode cX7_first 28 = .ok (.istore_n 2, 1) := by decide +kernel
theorem dX7_first_29 : decode cX7_first 29 = .ok (.bipush (-9), 2) := by decide +kernel
theorem dX7_first_31 : decode cX7_first 31 = .ok (.istore_n 3, 1) := by decide +kernel
theorem dX7_first_32 : decode cX7_first 32 = .ok (.iconst 0, 1) := by decide +kernel
theorem dX7_first_33 : decode cX7_first 33 = .ok (.istore 4, 2) := by decide +kernel
theorem dX7_first_35 : decode cX7_first 35 = .ok (.iload 4, 2) := by decide +kernel
theorem dX7_first_37 : decode cX7_first 37 = .ok (.aload_n 0, 1) := by decide +kernel
theorem dX7_first_38 : decode cX7_first 38 = .ok (.getfield 62, 3) := by decide +kernel
theorem dX7_first_41 : decode cX7_first 41 = .ok (.if_icmp .ge 43, 3) := by decide +kernel
theorem dX7_first_44 : decode cX7_first 44 = .ok (.aload_n 0, 1) := by decide +kernel
theorem dX7_first_45 : decode cX7_first 45 = .ok (.iload 4, 2) := by decide +kernel
theorem dX7_first_47 : decode cX7_first 47 = .ok (.bipush 20, 2) := by decide +kernel
theorem dX7_first_49 : decode cX7_first 49 = .ok (.invokevirtual 207, 3) := by decide +kernel
theorem dX7_first_52 : decode cX7_first 52 = .ok (.istore 5, 2) := by decide +kernel
theorem dX7_first_54 : decode cX7_first 54 = .ok (.iload 5, 2) := by decide +kernel
theorem dX7_first_56 : decode cX7_first 56 = .ok (.ifCond .lt 22, 3) := by decide +kernel
theorem dX7_first_59 : decode cX7_first 59 = .ok (.iload_n 2, 1) := by decide +kernel
theorem dX7_first_60 : decode cX7_first 60 = .ok (.ifCond .lt 12, 3) := by decide +kernel
theorem dX7_first_63 : decode cX7_first 63 = .ok (.iload 5, 2) := by decide +kernel
theorem dX7_first_65 : decode cX7_first 65 = .ok (.iload_n 3, 1) := by decide +kernel
theorem dX7_first_66 : decode cX7_first 66 = .ok (.if_icmp .lt 6, 3) := by decide +kernel
theorem dX7_first_69 : decode cX7_first 69 = .ok (.goto 9, 3) := by decide +kernel
theorem dX7_first_72 : decode cX7_first 72 = .ok (.iload 4, 2) := by decide +kernel
theorem dX7_first_74 : decode cX7_first 74 = .ok (.istore_n 2, 1) := by decide +kernel
theorem dX7_first_75 : decode cX7_first 75 = .ok (.iload 5, 2) := by decide +kernel
theorem dX7_first_77 : decode cX7_first 77 = .ok (.istore_n 3, 1) := by decide +kernel
theorem dX7_first_78 : decode cX7_first 78 = .ok (.iinc 4 1, 3) := by decide +kernel
theorem dX7_first_81 : decode cX7_first 81 = .ok (.goto (-46), 3) := by decide +kernel
theorem dX7_first_84 : decode cX7_first 84 = .ok (.iload_n 1, 1) := by decide +kernel
theorem dX7_first_85 : decode cX7_first 85 = .ok (.ifCond .ne 7, 3) := by decide +kernel
theorem dX7_first_88 : decode cX7_first 88 = .ok (.iload_n 2, 1) := by decide +kernel
theorem dX7_first_89 : decode cX7_first 89 = .ok (.goto 4, 3) := by decide +kernel
theorem dX7_first_92 : decode cX7_first 92 = .ok (.iload_n 3, 1) := by decide +kernel
theorem dX7_first_93 : decode cX7_first 93 = .ok (.ireturn, 1) := by decide +kernel
theorem dX7_changes_0 : decode cX7_changes 0 = .ok (.aload_n 0, 1) := by decide +kernel
theorem dX7_changes_1 : decode cX7_changes 1 = .ok (.iload_n 1, 1) := by decide +kernel
theorem dX7_changes_2 : decode cX7_changes 2 = .ok (.invokevirtual 132, 3) := by decide +kernel
theorem dX7_changes_5 : decode cX7_changes 5 = .ok (.ifCond .ne 9, 3) := by decide +kernel
theorem dX7_changes_8 : decode cX7_changes 8 = .ok (.aload_n 0, 1) := by decide +kernel
theorem dX7_changes_9 : decode cX7_changes 9 = .ok (.iconst (-1), 1) := by decide +kernel
theorem dX7_changes_10 : decode cX7_changes 10 = .ok (.invokevirtual 81, 3) := by decide +kernel
theorem dX7_changes_13 : decode cX7_changes 13 = .ok (.ireturn, 1) := by decide +kernel
theorem dX7_changes_14 : decode cX7_changes 14 = .ok (.aload_n 0, 1) := by decide +kernel
theorem dX7_changes_15 : decode cX7_changes 15 = .ok (.iload_n 1, 1) := by decide +kernel
theorem dX7_changes_16 : decode cX7_changes 16 = .ok (.invokevirtual 179, 3) := by decide +kernel
theorem dX7_changes_19 : decode cX7_changes 19 = .ok (.istore_n 2, 1) := by decide +kernel
theorem dX7_changes_20 : decode cX7_changes 20 = .ok (.aload_n 0, 1) := by decide +kernel
theorem dX7_changes_21 : decode cX7_changes 21 = .ok (.invokevirtual 201, 3) := by decide +kernel
theorem dX7_changes_24 : decode cX7_changes 24 = .ok (.bipush (-9), 2) := by decide +kernel
theorem dX7_changes_26 : decode cX7_changes 26 = .ok (.istore_n 3, 1) := by decide +kernel
theorem dX7_changes_27 : decode cX7_changes 27 = .ok (.iconst 1, 1) := by decide +kernel
theorem dX7_changes_28 : decode cX7_changes 28 = .ok (.istore 4, 2) := by decide +kernel
theorem dX7_changes_30 : decode cX7_changes 30 = .ok (.iload 4, 2) := by decide +kernel
theorem dX7_changes_32 : decode cX7_changes 32 = .ok (.bipush 99, 2) := by decide +kernel
theorem dX7_changes_34 : decode cX7_changes 34 = .ok (.if_icmp .gt 34, 3) := by decide +kernel
theorem dX7_changes_37 : decode cX7_changes 37 = .ok (.iload_n 3, 1) := by decide +kernel
theorem dX7_changes_38 : decode cX7_changes 38 = .ok (.ifCond .ge 30, 3) := by decide +kernel
theorem dX7_changes_41 : decode cX7_changes 41 = .ok (.aload_n 0, 1) := by decide +kernel
theorem dX7_changes_42 : decode cX7_changes 42 = .ok (.invokevirtual 188, 3) := by decide +kernel
theorem dX7_changes_45 : decode cX7_changes 45 = .ok (.aload_n 0, 1) := by decide +kernel
theorem dX7_changes_46 : decode cX7_changes 46 = .ok (.iload_n 1, 1) := by decide +kernel
theorem dX7_changes_47 : decode cX7_changes 47 = .ok (.invokevirtual 179, 3) := by decide +kernel
theorem dX7_changes_50 : decode cX7_changes 50 = .ok (.iload_n 2, 1) := by decide +kernel
theorem dX7_changes_51 : decode cX7_changes 51 = .ok (.if_icmp .eq 8, 3) := by decide +kernel
theorem dX7_changes_54 : decode cX7_changes 54 = .ok (.iload 4, 2) := by decide +kernel
theorem dX7_changes_56 : decode cX7_changes 56 = .ok (.goto 5, 3) := by decide +kernel
theorem dX7_changes_59 : decode cX7_changes 59 = .ok (.bipush (-9), 2) := by decide +kernel
theorem dX7_changes_61 : decode cX7_changes 61 = .ok (.istore_n 3, 1) := by decide +kernel
theorem dX7_changes_62 : decode cX7_changes 62 = .ok (.iinc 4 1, 3) := by decide +kernel
theorem dX7_changes_65 : decode cX7_changes 65 = .ok (.goto (-35), 3) := by decide +kernel
theorem dX7_changes_68 : decode cX7_changes 68 = .ok (.aload_n 0, 1) := by decide +kernel
theorem dX7_changes_69 : decode cX7_changes 69 = .ok (.invokevirtual 204, 3) := by decide +kernel
theorem dX7_changes_72 : decode cX7_changes 72 = .ok (.iload_n 3, 1) := by decide +kernel
theorem dX7_changes_73 : decode cX7_changes 73 = .ok (.ireturn, 1) := by decide +kernel
theorem dX7_highWith_0 : decode cX7_highWith 0 = .ok (.aload_n 0, 1) := by decide +kernel
theorem dX7_highWith_1 : decode cX7_highWith 1 = .ok (.getfield 22, 3) := by decide +kernel
theorem dX7_highWith_4 : decode cX7_highWith 4 = .ok (.iload_n 1, 1) := by decide +kernel
theorem dX7_highWith_5 : decode cX7_highWith 5 = .ok (.iaload, 1) := by decide +kernel
theorem dX7_highWith_6 : decode cX7_highWith 6 = .ok (.istore 4, 2) := by decide +kernel
theorem dX7_highWith_8 : decode cX7_highWith 8 = .ok (.aload_n 0, 1) := by decide +kernel
theorem dX7_highWith_9 : decode cX7_highWith 9 = .ok (.getfield 22, 3) := by decide +kernel
theorem dX7_highWith_12 : decode cX7_highWith 12 = .ok (.iload_n 1, 1) := by decide +kernel
theorem dX7_highWith_13 : decode cX7_highWith 13 = .ok (.iload_n 2, 1) := by decide +kernel
theorem dX7_highWith_14 : decode cX7_highWith 14 = .ok (.iastore, 1) := by decide +kernel
theorem dX7_highWith_15 : decode cX7_highWith 15 = .ok (.aload_n 0, 1) := by decide +kernel
theorem dX7_highWith_16 : decode cX7_highWith 16 = .ok (.iload_n 1, 1) := by decide +kernel
theorem dX7_highWith_17 : decode cX7_highWith 17 = .ok (.iload_n 3, 1) := by decide +kernel
theorem dX7_highWith_18 : decode cX7_highWith 18 = .ok (.invokevirtual 216, 3) := by decide +kernel
theorem dX7_highWith_21 : decode cX7_highWith 21 = .ok (.istore 5, 2) := by decide +kernel
theorem dX7_highWith_23 : decode cX7_highWith 23 = .ok (.aload_n 0, 1) := by decide +kernel
theorem dX7_highWith_24 : decode cX7_highWith 24 = .ok (.getfield 22, 3) := by decide +kernel
theorem dX7_highWith_27 : decode cX7_highWith 27 = .ok (.iload_n 1, 1) := by decide +kernel
theorem dX7_highWith_28 : decode cX7_highWith 28 = .ok (.iload 4, 2) := by decide +kernel
theorem dX7_highWith_30 : decode cX7_highWith 30 = .ok (.iastore, 1) := by decide +kernel
theorem dX7_highWith_31 : decode cX7_highWith 31 = .ok (.iload 5, 2) := by decide +kernel
theorem dX7_highWith_33 : decode cX7_highWith 33 = .ok (.ireturn, 1) := by decide +kernel
theorem dX7_highIn_0 : decode cX7_highIn 0 = .ok (.aload_n 0, 1) := by decide +kernel
theorem dX7_highIn_1 : decode cX7_highIn 1 = .ok (.invokevirtual 201, 3) := by decide +kernel
theorem dX7_highIn_4 : decode cX7_highIn 4 = .ok (.aload_n 0, 1) := by decide +kernel
theorem dX7_highIn_5 : decode cX7_highIn 5 = .ok (.iload_n 2, 1) := by decide +kernel
theorem dX7_highIn_6 : decode cX7_highIn 6 = .ok (.invokevirtual 122, 3) := by decide +kernel
theorem dX7_highIn_9 : decode cX7_highIn 9 = .ok (.aload_n 0, 1) := by decide +kernel
theorem dX7_highIn_10 : decode cX7_highIn 10 = .ok (.getfield 25, 3) := by decide +kernel
theorem dX7_highIn_13 : decode cX7_highIn 13 = .ok (.iload_n 1, 1) := by decide +kernel
theorem dX7_highIn_14 : decode cX7_highIn 14 = .ok (.iaload, 1) := by decide +kernel
theorem dX7_highIn_15 : decode cX7_highIn 15 = .ok (.istore_n 3, 1) := by decide +kernel
theorem dX7_highIn_16 : decode cX7_highIn 16 = .ok (.aload_n 0, 1) := by decide +kernel
theorem dX7_highIn_17 : decode cX7_highIn 17 = .ok (.invokevirtual 204, 3) := by decide +kernel
theorem dX7_highIn_20 : decode cX7_highIn 20 = .ok (.iload_n 3, 1) := by decide +kernel
theorem dX7_highIn_21 : decode cX7_highIn 21 = .ok (.ireturn, 1) := by decide +kernel
theorem dX7_notGoal_0 : decode cX7_notGoal 0 = .ok (.aload_n 0, 1) := by decide +kernel
theorem dX7_notGoal_1 : decode cX7_notGoal 1 = .ok (.iload_n 1, 1) := by decide +kernel
theorem dX7_notGoal_2 : decode cX7_notGoal 2 = .ok (.invokevirtual 70, 3) := by decide +kernel
theorem dX7_notGoal_5 : decode cX7_notGoal 5 = .ok (.ifCond .ne 7, 3) := by decide +kernel
theorem dX7_notGoal_8 : decode cX7_notGoal 8 = .ok (.iconst (-1), 1) := by decide +kernel
theorem dX7_notGoal_9 : decode cX7_notGoal 9 = .ok (.goto 34, 3) := by decide +kernel
theorem dX7_notGoal_12 : decode cX7_notGoal 12 = .ok (.iload_n 2, 1) := by decide +kernel
theorem dX7_notGoal_13 : decode cX7_notGoal 13 = .ok (.ifCond .lt 7, 3) := by decide +kernel
theorem dX7_notGoal_16 : decode cX7_notGoal 16 = .ok (.iload_n 3, 1) := by decide +kernel
theorem dX7_notGoal_17 : decode cX7_notGoal 17 = .ok (.ifCond .ge 8, 3) := by decide +kernel
theorem dX7_notGoal_20 : decode cX7_notGoal 20 = .ok (.bipush (-4), 2) := by decide +kernel
theorem dX7_notGoal_22 : decode cX7_notGoal 22 = .ok (.goto 21, 3) := by decide +kernel
theorem dX7_notGoal_25 : decode cX7_notGoal 25 = .ok (.iload_n 2, 1) := by decide +kernel
theorem dX7_notGoal_26 : decode cX7_notGoal 26 = .ok (.bipush 20, 2) := by decide +kernel
theorem dX7_notGoal_28 : decode cX7_notGoal 28 = .ok (.if_icmp .gt 9, 3) := by decide +kernel
theorem dX7_notGoal_31 : decode cX7_notGoal 31 = .ok (.iload_n 3, 1) := by decide +kernel
theorem dX7_notGoal_32 : decode cX7_notGoal 32 = .ok (.bipush 30, 2) := by decide +kernel
theorem dX7_notGoal_34 : decode cX7_notGoal 34 = .ok (.if_icmp .le 8, 3) := by decide +kernel
theorem dX7_notGoal_37 : decode cX7_notGoal 37 = .ok (.bipush (-6), 2) := by decide +kernel
theorem dX7_notGoal_39 : decode cX7_notGoal 39 = .ok (.goto 4, 3) := by decide +kernel
theorem dX7_notGoal_42 : decode cX7_notGoal 42 = .ok (.iconst 0, 1) := by decide +kernel
theorem dX7_notGoal_43 : decode cX7_notGoal 43 = .ok (.ireturn, 1) := by decide +kernel
theorem dX7_throwsDown_0 : decode cX7_throwsDown 0 = .ok (.aload_n 0, 1) := by decide +kernel
theorem dX7_throwsDown_1 : decode cX7_throwsDown 1 = .ok (.iload_n 1, 1) := by decide +kernel
theorem dX7_throwsDown_2 : decode cX7_throwsDown 2 = .ok (.iload_n 2, 1) := by decide +kernel
theorem dX7_throwsDown_3 : decode cX7_throwsDown 3 = .ok (.iload_n 3, 1) := by decide +kernel
theorem dX7_throwsDown_4 : decode cX7_throwsDown 4 = .ok (.invokevirtual 219, 3) := by decide +kernel
theorem dX7_throwsDown_7 : decode cX7_throwsDown 7 = .ok (.istore 4, 2) := by decide +kernel
theorem dX7_throwsDown_9 : decode cX7_throwsDown 9 = .ok (.iload 4, 2) := by decide +kernel
theorem dX7_throwsDown_11 : decode cX7_throwsDown 11 = .ok (.ifCond .eq 10, 3) := by decide +kernel
theorem dX7_throwsDown_14 : decode cX7_throwsDown 14 = .ok (.aload_n 0, 1) := by decide +kernel
theorem dX7_throwsDown_15 : decode cX7_throwsDown 15 = .ok (.iload 4, 2) := by decide +kernel
theorem dX7_throwsDown_17 : decode cX7_throwsDown 17 = .ok (.invokevirtual 81, 3) := by decide +kernel
theorem dX7_throwsDown_20 : decode cX7_throwsDown 20 = .ok (.ireturn, 1) := by decide +kernel
theorem dX7_throwsDown_21 : decode cX7_throwsDown 21 = .ok (.iconst 0, 1) := by decide +kernel
theorem dX7_throwsDown_22 : decode cX7_throwsDown 22 = .ok (.istore 5, 2) := by decide +kernel
theorem dX7_throwsDown_24 : decode cX7_throwsDown 24 = .ok (.iload 5, 2) := by decide +kernel
theorem dX7_throwsDown_26 : decode cX7_throwsDown 26 = .ok (.aload_n 0, 1) := by decide +kernel
theorem dX7_throwsDown_27 : decode cX7_throwsDown 27 = .ok (.getfield 22, 3) := by decide +kernel
theorem dX7_throwsDown_30 : decode cX7_throwsDown 30 = .ok (.iload_n 1, 1) := by decide +kernel
theorem dX7_throwsDown_31 : decode cX7_throwsDown 31 = .ok (.iaload, 1) := by decide +kernel
theorem dX7_throwsDown_32 : decode cX7_throwsDown 32 = .ok (.if_icmp .gt 31, 3) := by decide +kernel
theorem dX7_throwsDown_35 : decode cX7_throwsDown 35 = .ok (.aload_n 0, 1) := by decide +kernel
theorem dX7_throwsDown_36 : decode cX7_throwsDown 36 = .ok (.iload_n 1, 1) := by decide +kernel
theorem dX7_throwsDown_37 : decode cX7_throwsDown 37 = .ok (.aload_n 0, 1) := by decide +kernel
theorem dX7_throwsDown_38 : decode cX7_throwsDown 38 = .ok (.getfield 22, 3) := by decide +kernel
theorem dX7_throwsDown_41 : decode cX7_throwsDown 41 = .ok (.iload_n 1, 1) := by decide +kernel
theorem dX7_throwsDown_42 : decode cX7_throwsDown 42 = .ok (.iaload, 1) := by decide +kernel
theorem dX7_throwsDown_43 : decode cX7_throwsDown 43 = .ok (.iload 5, 2) := by decide +kernel
theorem dX7_throwsDown_45 : decode cX7_throwsDown 45 = .ok (.isub, 1) := by decide +kernel
theorem dX7_throwsDown_46 : decode cX7_throwsDown 46 = .ok (.iload_n 3, 1) := by decide +kernel
theorem dX7_throwsDown_47 : decode cX7_throwsDown 47 = .ok (.invokevirtual 222, 3) := by decide +kernel
theorem dX7_throwsDown_50 : decode cX7_throwsDown 50 = .ok (.iload_n 2, 1) := by decide +kernel
theorem dX7_throwsDown_51 : decode cX7_throwsDown 51 = .ok (.if_icmp .lt 6, 3) := by decide +kernel
theorem dX7_throwsDown_54 : decode cX7_throwsDown 54 = .ok (.iload 5, 2) := by decide +kernel
theorem dX7_throwsDown_56 : decode cX7_throwsDown 56 = .ok (.ireturn, 1) := by decide +kernel
theorem dX7_throwsDown_57 : decode cX7_throwsDown 57 = .ok (.iinc 5 1, 3) := by decide +kernel
theorem dX7_throwsDown_60 : decode cX7_throwsDown 60 = .ok (.goto (-36), 3) := by decide +kernel
theorem dX7_throwsDown_63 : decode cX7_throwsDown 63 = .ok (.bipush (-9), 2) := by decide +kernel
theorem dX7_throwsDown_65 : decode cX7_throwsDown 65 = .ok (.ireturn, 1) := by decide +kernel
theorem dX7_takesUp_0 : decode cX7_takesUp 0 = .ok (.aload_n 0, 1) := by decide +kernel
theorem dX7_takesUp_1 : decode cX7_takesUp 1 = .ok (.iload_n 1, 1) := by decide +kernel
theorem dX7_takesUp_2 : decode cX7_takesUp 2 = .ok (.iload_n 2, 1) := by decide +kernel
theorem dX7_takesUp_3 : decode cX7_takesUp 3 = .ok (.iload_n 3, 1) := by decide +kernel
theorem dX7_takesUp_4 : decode cX7_takesUp 4 = .ok (.invokevirtual 219, 3) := by decide +kernel
theorem dX7_takesUp_7 : decode cX7_takesUp 7 = .ok (.istore 4, 2) := by decide +kernel
theorem dX7_takesUp_9 : decode cX7_takesUp 9 = .ok (.iload 4, 2) := by decide +kernel
theorem dX7_takesUp_11 : decode cX7_takesUp 11 = .ok (.ifCond .eq 10, 3) := by decide +kernel
theorem dX7_takesUp_14 : decode cX7_takesUp 14 = .ok (.aload_n 0, 1) := by decide +kernel
theorem dX7_takesUp_15 : decode cX7_takesUp 15 = .ok (.iload 4, 2) := by decide +kernel
theorem dX7_takesUp_17 : decode cX7_takesUp 17 = .ok (.invokevirtual 81, 3) := by decide +kernel
theorem dX7_takesUp_20 : decode cX7_takesUp 20 = .ok (.ireturn, 1) := by decide +kernel
theorem dX7_takesUp_21 : decode cX7_takesUp 21 = .ok (.iconst 0, 1) := by decide +kernel
theorem dX7_takesUp_22 : decode cX7_takesUp 22 = .ok (.istore 5, 2) := by decide +kernel
theorem dX7_takesUp_24 : decode cX7_takesUp 24 = .ok (.iload 5, 2) := by decide +kernel
theorem dX7_takesUp_26 : decode cX7_takesUp 26 = .ok (.bipush 9, 2) := by decide +kernel
theorem dX7_takesUp_28 : decode cX7_takesUp 28 = .ok (.aload_n 0, 1) := by decide +kernel
theorem dX7_takesUp_29 : decode cX7_takesUp 29 = .ok (.getfield 22, 3) := by decide +kernel
theorem dX7_takesUp_32 : decode cX7_takesUp 32 = .ok (.iload_n 1, 1) := by decide +kernel
theorem dX7_takesUp_33 : decode cX7_takesUp 33 = .ok (.iaload, 1) := by decide +kernel
theorem dX7_takesUp_34 : decode cX7_takesUp 34 = .ok (.isub, 1) := by decide +kernel
theorem dX7_takesUp_35 : decode cX7_takesUp 35 = .ok (.if_icmp .gt 31, 3) := by decide +kernel
theorem dX7_takesUp_38 : decode cX7_takesUp 38 = .ok (.aload_n 0, 1) := by decide +kernel
theorem dX7_takesUp_39 : decode cX7_takesUp 39 = .ok (.iload_n 1, 1) := by decide +kernel
theorem dX7_takesUp_40 : decode cX7_takesUp 40 = .ok (.aload_n 0, 1) := by decide +kernel
theorem dX7_takesUp_41 : decode cX7_takesUp 41 = .ok (.getfield 22, 3) := by decide +kernel
theorem dX7_takesUp_44 : decode cX7_takesUp 44 = .ok (.iload_n 1, 1) := by decide +kernel
theorem dX7_takesUp_45 : decode cX7_takesUp 45 = .ok (.iaload, 1) := by decide +kernel
theorem dX7_takesUp_46 : decode cX7_takesUp 46 = .ok (.iload 5, 2) := by decide +kernel
theorem dX7_takesUp_48 : decode cX7_takesUp 48 = .ok (.iadd, 1) := by decide +kernel
theorem dX7_takesUp_49 : decode cX7_takesUp 49 = .ok (.iload_n 3, 1) := by decide +kernel
theorem dX7_takesUp_50 : decode cX7_takesUp 50 = .ok (.invokevirtual 222, 3) := by decide +kernel
theorem dX7_takesUp_53 : decode cX7_takesUp 53 = .ok (.iload_n 2, 1) := by decide +kernel
theorem dX7_takesUp_54 : decode cX7_takesUp 54 = .ok (.if_icmp .gt 6, 3) := by decide +kernel
theorem dX7_takesUp_57 : decode cX7_takesUp 57 = .ok (.iload 5, 2) := by decide +kernel
theorem dX7_takesUp_59 : decode cX7_takesUp 59 = .ok (.ireturn, 1) := by decide +kernel
theorem dX7_takesUp_60 : decode cX7_takesUp 60 = .ok (.iinc 5 1, 3) := by decide +kernel
theorem dX7_takesUp_63 : decode cX7_takesUp 63 = .ok (.goto (-39), 3) := by decide +kernel
theorem dX7_takesUp_66 : decode cX7_takesUp 66 = .ok (.bipush (-9), 2) := by decide +kernel
theorem dX7_takesUp_68 : decode cX7_takesUp 68 = .ok (.ireturn, 1) := by decide +kernel
theorem dX7_highTied_0 : decode cX7_highTied 0 = .ok (.aload_n 0, 1) := by decide +kernel
theorem dX7_highTied_1 : decode cX7_highTied 1 = .ok (.iload_n 1, 1) := by decide +kernel
theorem dX7_highTied_2 : decode cX7_highTied 2 = .ok (.iload_n 2, 1) := by decide +kernel
theorem dX7_highTied_3 : decode cX7_highTied 3 = .ok (.invokevirtual 115, 3) := by decide +kernel
theorem dX7_highTied_6 : decode cX7_highTied 6 = .ok (.aload_n 0, 1) := by decide +kernel
theorem dX7_highTied_7 : decode cX7_highTied 7 = .ok (.iload_n 1, 1) := by decide +kernel
theorem dX7_highTied_8 : decode cX7_highTied 8 = .ok (.iload_n 3, 1) := by decide +kernel
theorem dX7_highTied_9 : decode cX7_highTied 9 = .ok (.invokevirtual 216, 3) := by decide +kernel
theorem dX7_highTied_12 : decode cX7_highTied 12 = .ok (.istore 4, 2) := by decide +kernel
theorem dX7_highTied_14 : decode cX7_highTied 14 = .ok (.aload_n 0, 1) := by decide +kernel
theorem dX7_highTied_15 : decode cX7_highTied 15 = .ok (.dup, 1) := by decide +kernel
theorem dX7_highTied_16 : decode cX7_highTied 16 = .ok (.getfield 67, 3) := by decide +kernel
theorem dX7_highTied_19 : decode cX7_highTied 19 = .ok (.iconst 1, 1) := by decide +kernel
theorem dX7_highTied_20 : decode cX7_highTied 20 = .ok (.isub, 1) := by decide +kernel
theorem dX7_highTied_21 : decode cX7_highTied 21 = .ok (.putfield 67, 3) := by decide +kernel
theorem dX7_highTied_24 : decode cX7_highTied 24 = .ok (.iload 4, 2) := by decide +kernel
theorem dX7_highTied_26 : decode cX7_highTied 26 = .ok (.ireturn, 1) := by decide +kernel
theorem dX7_bestTie_0 : decode cX7_bestTie 0 = .ok (.aload_n 0, 1) := by decide +kernel
theorem dX7_bestTie_1 : decode cX7_bestTie 1 = .ok (.iload_n 1, 1) := by decide +kernel
theorem dX7_bestTie_2 : decode cX7_bestTie 2 = .ok (.invokevirtual 70, 3) := by decide +kernel
theorem dX7_bestTie_5 : decode cX7_bestTie 5 = .ok (.ifCond .ne 7, 3) := by decide +kernel
theorem dX7_bestTie_8 : decode cX7_bestTie 8 = .ok (.iconst (-1), 1) := by decide +kernel
theorem dX7_bestTie_9 : decode cX7_bestTie 9 = .ok (.goto 10, 3) := by decide +kernel
theorem dX7_bestTie_12 : decode cX7_bestTie 12 = .ok (.iload_n 2, 1) := by decide +kernel
theorem dX7_bestTie_13 : decode cX7_bestTie 13 = .ok (.iconst 0, 1) := by decide +kernel
theorem dX7_bestTie_14 : decode cX7_bestTie 14 = .ok (.bipush 30, 2) := by decide +kernel
theorem dX7_bestTie_16 : decode cX7_bestTie 16 = .ok (.invokestatic 74, 3) := by decide +kernel
theorem dX7_bestTie_19 : decode cX7_bestTie 19 = .ok (.istore_n 3, 1) := by decide +kernel
theorem dX7_bestTie_20 : decode cX7_bestTie 20 = .ok (.iload_n 3, 1) := by decide +kernel
theorem dX7_bestTie_21 : decode cX7_bestTie 21 = .ok (.ifCond .eq 9, 3) := by decide +kernel
theorem dX7_bestTie_24 : decode cX7_bestTie 24 = .ok (.aload_n 0, 1) := by decide +kernel
theorem dX7_bestTie_25 : decode cX7_bestTie 25 = .ok (.iload_n 3, 1) := by decide +kernel
theorem dX7_bestTie_26 : decode cX7_bestTie 26 = .ok (.invokevirtual 81, 3) := by decide +kernel
theorem dX7_bestTie_29 : decode cX7_bestTie 29 = .ok (.ireturn, 1) := by decide +kernel
theorem dX7_bestTie_30 : decode cX7_bestTie 30 = .ok (.bipush (-9), 2) := by decide +kernel
theorem dX7_bestTie_32 : decode cX7_bestTie 32 = .ok (.istore 4, 2) := by decide +kernel
theorem dX7_bestTie_34 : decode cX7_bestTie 34 = .ok (.aload_n 0, 1) := by decide +kernel
theorem dX7_bestTie_35 : decode cX7_bestTie 35 = .ok (.iload_n 1, 1) := by decide +kernel
theorem dX7_bestTie_36 : decode cX7_bestTie 36 = .ok (.iload_n 2, 1) := by decide +kernel
theorem dX7_bestTie_37 : decode cX7_bestTie 37 = .ok (.invokevirtual 216, 3) := by decide +kernel
theorem dX7_bestTie_40 : decode cX7_bestTie 40 = .ok (.istore 5, 2) := by decide +kernel
theorem dX7_bestTie_42 : decode cX7_bestTie 42 = .ok (.iconst 0, 1) := by decide +kernel
theorem dX7_bestTie_43 : decode cX7_bestTie 43 = .ok (.istore 6, 2) := by decide +kernel
theorem dX7_bestTie_45 : decode cX7_bestTie 45 = .ok (.iload 6, 2) := by decide +kernel
theorem dX7_bestTie_47 : decode cX7_bestTie 47 = .ok (.aload_n 0, 1) := by decide +kernel
theorem dX7_bestTie_48 : decode cX7_bestTie 48 = .ok (.getfield 62, 3) := by decide +kernel
theorem dX7_bestTie_51 : decode cX7_bestTie 51 = .ok (.if_icmp .ge 57, 3) := by decide +kernel
theorem dX7_bestTie_54 : decode cX7_bestTie 54 = .ok (.aload_n 0, 1) := by decide +kernel
theorem dX7_bestTie_55 : decode cX7_bestTie 55 = .ok (.getfield 67, 3) := by decide +kernel
theorem dX7_bestTie_58 : decode cX7_bestTie 58 = .ok (.bipush 6, 2) := by decide +kernel
theorem dX7_bestTie_60 : decode cX7_bestTie 60 = .ok (.if_icmp .ge 48, 3) := by decide +kernel
theorem dX7_bestTie_63 : decode cX7_bestTie 63 = .ok (.iload 6, 2) := by decide +kernel
theorem dX7_bestTie_65 : decode cX7_bestTie 65 = .ok (.iload_n 1, 1) := by decide +kernel
theorem dX7_bestTie_66 : decode cX7_bestTie 66 = .ok (.if_icmp .ne 8, 3) := by decide +kernel
theorem dX7_bestTie_69 : decode cX7_bestTie 69 = .ok (.bipush (-9), 2) := by decide +kernel
theorem dX7_bestTie_71 : decode cX7_bestTie 71 = .ok (.goto 11, 3) := by decide +kernel
theorem dX7_bestTie_74 : decode cX7_bestTie 74 = .ok (.aload_n 0, 1) := by decide +kernel
theorem dX7_bestTie_75 : decode cX7_bestTie 75 = .ok (.iload_n 1, 1) := by decide +kernel
theorem dX7_bestTie_76 : decode cX7_bestTie 76 = .ok (.iload 6, 2) := by decide +kernel
theorem dX7_bestTie_78 : decode cX7_bestTie 78 = .ok (.iload_n 2, 1) := by decide +kernel
theorem dX7_bestTie_79 : decode cX7_bestTie 79 = .ok (.invokevirtual 225, 3) := by decide +kernel
theorem dX7_bestTie_82 : decode cX7_bestTie 82 = .ok (.istore 7, 2) := by decide +kernel
theorem dX7_bestTie_84 : decode cX7_bestTie 84 = .ok (.iload 7, 2) := by decide +kernel
theorem dX7_bestTie_86 : decode cX7_bestTie 86 = .ok (.iload 5, 2) := by decide +kernel
theorem dX7_bestTie_88 : decode cX7_bestTie 88 = .ok (.if_icmp .gt 6, 3) := by decide +kernel
theorem dX7_bestTie_91 : decode cX7_bestTie 91 = .ok (.goto 11, 3) := by decide +kernel
theorem dX7_bestTie_94 : decode cX7_bestTie 94 = .ok (.iload 6, 2) := by decide +kernel
theorem dX7_bestTie_96 : decode cX7_bestTie 96 = .ok (.istore 4, 2) := by decide +kernel
theorem dX7_bestTie_98 : decode cX7_bestTie 98 = .ok (.iload 7, 2) := by decide +kernel
theorem dX7_bestTie_100 : decode cX7_bestTie 100 = .ok (.istore 5, 2) := by decide +kernel
theorem dX7_bestTie_102 : decode cX7_bestTie 102 = .ok (.iinc 6 1, 3) := by decide +kernel
theorem dX7_bestTie_105 : decode cX7_bestTie 105 = .ok (.goto (-60), 3) := by decide +kernel
theorem dX7_bestTie_108 : decode cX7_bestTie 108 = .ok (.iload 4, 2) := by decide +kernel
theorem dX7_bestTie_110 : decode cX7_bestTie 110 = .ok (.ireturn, 1) := by decide +kernel
theorem dX7_highCut_0 : decode cX7_highCut 0 = .ok (.aload_n 0, 1) := by decide +kernel
theorem dX7_highCut_1 : decode cX7_highCut 1 = .ok (.invokevirtual 228, 3) := by decide +kernel
theorem dX7_highCut_4 : decode cX7_highCut 4 = .ok (.aload_n 0, 1) := by decide +kernel
theorem dX7_highCut_5 : decode cX7_highCut 5 = .ok (.iload_n 2, 1) := by decide +kernel
theorem dX7_highCut_6 : decode cX7_highCut 6 = .ok (.invokevirtual 135, 3) := by decide +kernel
theorem dX7_highCut_9 : decode cX7_highCut 9 = .ok (.aload_n 0, 1) := by decide +kernel
theorem dX7_highCut_10 : decode cX7_highCut 10 = .ok (.iload_n 1, 1) := by decide +kernel
theorem dX7_highCut_11 : decode cX7_highCut 11 = .ok (.iload_n 3, 1) := by decide +kernel
theorem dX7_highCut_12 : decode cX7_highCut 12 = .ok (.invokevirtual 216, 3) := by decide +kernel
theorem dX7_highCut_15 : decode cX7_highCut 15 = .ok (.istore 4, 2) := by decide +kernel
theorem dX7_highCut_17 : decode cX7_highCut 17 = .ok (.aload_n 0, 1) := by decide +kernel
theorem dX7_highCut_18 : decode cX7_highCut 18 = .ok (.invokevirtual 231, 3) := by decide +kernel
theorem dX7_highCut_21 : decode cX7_highCut 21 = .ok (.iload 4, 2) := by decide +kernel
theorem dX7_highCut_23 : decode cX7_highCut 23 = .ok (.ireturn, 1) := by decide +kernel
theorem dX7_bestCut_0 : decode cX7_bestCut 0 = .ok (.aload_n 0, 1) := by decide +kernel
theorem dX7_bestCut_1 : decode cX7_bestCut 1 = .ok (.iload_n 1, 1) := by decide +kernel
theorem dX7_bestCut_2 : decode cX7_bestCut 2 = .ok (.invokevirtual 70, 3) := by decide +kernel
theorem dX7_bestCut_5 : decode cX7_bestCut 5 = .ok (.ifCond .ne 7, 3) := by decide +kernel
theorem dX7_bestCut_8 : decode cX7_bestCut 8 = .ok (.iconst (-1), 1) := by decide +kernel
theorem dX7_bestCut_9 : decode cX7_bestCut 9 = .ok (.goto 10, 3) := by decide +kernel
theorem dX7_bestCut_12 : decode cX7_bestCut 12 = .ok (.iload_n 2, 1) := by decide +kernel
theorem dX7_bestCut_13 : decode cX7_bestCut 13 = .ok (.iconst 0, 1) := by decide +kernel
theorem dX7_bestCut_14 : decode cX7_bestCut 14 = .ok (.bipush 30, 2) := by decide +kernel
theorem dX7_bestCut_16 : decode cX7_bestCut 16 = .ok (.invokestatic 74, 3) := by decide +kernel
theorem dX7_bestCut_19 : decode cX7_bestCut 19 = .ok (.istore_n 3, 1) := by decide +kernel
theorem dX7_bestCut_20 : decode cX7_bestCut 20 = .ok (.iload_n 3, 1) := by decide +kernel
theorem dX7_bestCut_21 : decode cX7_bestCut 21 = .ok (.ifCond .eq 9, 3) := by decide +kernel
theorem dX7_bestCut_24 : decode cX7_bestCut 24 = .ok (.aload_n 0, 1) := by decide +kernel
theorem dX7_bestCut_25 : decode cX7_bestCut 25 = .ok (.iload_n 3, 1) := by decide +kernel
theorem dX7_bestCut_26 : decode cX7_bestCut 26 = .ok (.invokevirtual 81, 3) := by decide +kernel
theorem dX7_bestCut_29 : decode cX7_bestCut 29 = .ok (.ireturn, 1) := by decide +kernel
theorem dX7_bestCut_30 : decode cX7_bestCut 30 = .ok (.bipush (-9), 2) := by decide +kernel
theorem dX7_bestCut_32 : decode cX7_bestCut 32 = .ok (.istore 4, 2) := by decide +kernel
theorem dX7_bestCut_34 : decode cX7_bestCut 34 = .ok (.aload_n 0, 1) := by decide +kernel
theorem dX7_bestCut_35 : decode cX7_bestCut 35 = .ok (.iload_n 1, 1) := by decide +kernel
theorem dX7_bestCut_36 : decode cX7_bestCut 36 = .ok (.iload_n 2, 1) := by decide +kernel
theorem dX7_bestCut_37 : decode cX7_bestCut 37 = .ok (.invokevirtual 216, 3) := by decide +kernel
theorem dX7_bestCut_40 : decode cX7_bestCut 40 = .ok (.istore 5, 2) := by decide +kernel
theorem dX7_bestCut_42 : decode cX7_bestCut 42 = .ok (.iconst 0, 1) := by decide +kernel
theorem dX7_bestCut_43 : decode cX7_bestCut 43 = .ok (.istore 6, 2) := by decide +kernel
theorem dX7_bestCut_45 : decode cX7_bestCut 45 = .ok (.iload 6, 2) := by decide +kernel
theorem dX7_bestCut_47 : decode cX7_bestCut 47 = .ok (.aload_n 0, 1) := by decide +kernel
theorem dX7_bestCut_48 : decode cX7_bestCut 48 = .ok (.getfield 67, 3) := by decide +kernel
theorem dX7_bestCut_51 : decode cX7_bestCut 51 = .ok (.if_icmp .ge 37, 3) := by decide +kernel
theorem dX7_bestCut_54 : decode cX7_bestCut 54 = .ok (.aload_n 0, 1) := by decide +kernel
theorem dX7_bestCut_55 : decode cX7_bestCut 55 = .ok (.iload_n 1, 1) := by decide +kernel
theorem dX7_bestCut_56 : decode cX7_bestCut 56 = .ok (.iload 6, 2) := by decide +kernel
theorem dX7_bestCut_58 : decode cX7_bestCut 58 = .ok (.iload_n 2, 1) := by decide +kernel
theorem dX7_bestCut_59 : decode cX7_bestCut 59 = .ok (.invokevirtual 234, 3) := by decide +kernel
theorem dX7_bestCut_62 : decode cX7_bestCut 62 = .ok (.istore 7, 2) := by decide +kernel
theorem dX7_bestCut_64 : decode cX7_bestCut 64 = .ok (.iload 7, 2) := by decide +kernel
theorem dX7_bestCut_66 : decode cX7_bestCut 66 = .ok (.iload 5, 2) := by decide +kernel
theorem dX7_bestCut_68 : decode cX7_bestCut 68 = .ok (.if_icmp .gt 6, 3) := by decide +kernel
theorem dX7_bestCut_71 : decode cX7_bestCut 71 = .ok (.goto 11, 3) := by decide +kernel
theorem dX7_bestCut_74 : decode cX7_bestCut 74 = .ok (.iload 6, 2) := by decide +kernel
theorem dX7_bestCut_76 : decode cX7_bestCut 76 = .ok (.istore 4, 2) := by decide +kernel
theorem dX7_bestCut_78 : decode cX7_bestCut 78 = .ok (.iload 7, 2) := by decide +kernel
theorem dX7_bestCut_80 : decode cX7_bestCut 80 = .ok (.istore 5, 2) := by decide +kernel
theorem dX7_bestCut_82 : decode cX7_bestCut 82 = .ok (.iinc 6 1, 3) := by decide +kernel
theorem dX7_bestCut_85 : decode cX7_bestCut 85 = .ok (.goto (-40), 3) := by decide +kernel
theorem dX7_bestCut_88 : decode cX7_bestCut 88 = .ok (.iload 4, 2) := by decide +kernel
theorem dX7_bestCut_90 : decode cX7_bestCut 90 = .ok (.ireturn, 1) := by decide +kernel
theorem dX7_allIn_0 : decode cX7_allIn 0 = .ok (.aload_n 0, 1) := by decide +kernel
theorem dX7_allIn_1 : decode cX7_allIn 1 = .ok (.invokevirtual 201, 3) := by decide +kernel
theorem dX7_allIn_4 : decode cX7_allIn 4 = .ok (.aload_n 0, 1) := by decide +kernel
theorem dX7_allIn_5 : decode cX7_allIn 5 = .ok (.iload_n 1, 1) := by decide +kernel
theorem dX7_allIn_6 : decode cX7_allIn 6 = .ok (.invokevirtual 122, 3) := by decide +kernel
theorem dX7_allIn_9 : decode cX7_allIn 9 = .ok (.aload_n 0, 1) := by decide +kernel
theorem dX7_allIn_10 : decode cX7_allIn 10 = .ok (.invokevirtual 195, 3) := by decide +kernel
theorem dX7_allIn_13 : decode cX7_allIn 13 = .ok (.istore_n 2, 1) := by decide +kernel
theorem dX7_allIn_14 : decode cX7_allIn 14 = .ok (.aload_n 0, 1) := by decide +kernel
theorem dX7_allIn_15 : decode cX7_allIn 15 = .ok (.invokevirtual 204, 3) := by decide +kernel
theorem dX7_allIn_18 : decode cX7_allIn 18 = .ok (.iload_n 2, 1) := by decide +kernel
theorem dX7_allIn_19 : decode cX7_allIn 19 = .ok (.ireturn, 1) := by decide +kernel
theorem dX7_bestStone_0 : decode cX7_bestStone 0 = .ok (.iload_n 1, 1) := by decide +kernel
theorem dX7_bestStone_1 : decode cX7_bestStone 1 = .ok (.iconst 0, 1) := by decide +kernel
theorem dX7_bestStone_2 : decode cX7_bestStone 2 = .ok (.bipush 30, 2) := by decide +kernel
theorem dX7_bestStone_4 : decode cX7_bestStone 4 = .ok (.invokestatic 74, 3) := by decide +kernel
theorem dX7_bestStone_7 : decode cX7_bestStone 7 = .ok (.istore_n 2, 1) := by decide +kernel
theorem dX7_bestStone_8 : decode cX7_bestStone 8 = .ok (.iload_n 2, 1) := by decide +kernel
theorem dX7_bestStone_9 : decode cX7_bestStone 9 = .ok (.ifCond .eq 9, 3) := by decide +kernel
theorem dX7_bestStone_12 : decode cX7_bestStone 12 = .ok (.aload_n 0, 1) := by decide +kernel
theorem dX7_bestStone_13 : decode cX7_bestStone 13 = .ok (.iload_n 2, 1) := by decide +kernel
theorem dX7_bestStone_14 : decode cX7_bestStone 14 = .ok (.invokevirtual 81, 3) := by decide +kernel
theorem dX7_bestStone_17 : decode cX7_bestStone 17 = .ok (.ireturn, 1) := by decide +kernel
theorem dX7_bestStone_18 : decode cX7_bestStone 18 = .ok (.bipush (-9), 2) := by decide +kernel
theorem dX7_bestStone_20 : decode cX7_bestStone 20 = .ok (.istore_n 3, 1) := by decide +kernel
theorem dX7_bestStone_21 : decode cX7_bestStone 21 = .ok (.aload_n 0, 1) := by decide +kernel
theorem dX7_bestStone_22 : decode cX7_bestStone 22 = .ok (.iload_n 1, 1) := by decide +kernel
theorem dX7_bestStone_23 : decode cX7_bestStone 23 = .ok (.invokevirtual 237, 3) := by decide +kernel
theorem dX7_bestStone_26 : decode cX7_bestStone 26 = .ok (.istore 4, 2) := by decide +kernel
theorem dX7_bestStone_28 : decode cX7_bestStone 28 = .ok (.iconst 0, 1) := by decide +kernel
theorem dX7_bestStone_29 : decode cX7_bestStone 29 = .ok (.istore 5, 2) := by decide +kernel
theorem dX7_bestStone_31 : decode cX7_bestStone 31 = .ok (.iload 5, 2) := by decide +kernel
theorem dX7_bestStone_33 : decode cX7_bestStone 33 = .ok (.aload_n 0, 1) := by decide +kernel
theorem dX7_bestStone_34 : decode cX7_bestStone 34 = .ok (.getfield 62, 3) := by decide +kernel
theorem dX7_bestStone_37 : decode cX7_bestStone 37 = .ok (.if_icmp .ge 70, 3) := by decide +kernel
theorem dX7_bestStone_40 : decode cX7_bestStone 40 = .ok (.aload_n 0, 1) := by decide +kernel
theorem dX7_bestStone_41 : decode cX7_bestStone 41 = .ok (.getfield 22, 3) := by decide +kernel
theorem dX7_bestStone_44 : decode cX7_bestStone 44 = .ok (.iload 5, 2) := by decide +kernel
theorem dX7_bestStone_46 : decode cX7_bestStone 46 = .ok (.iaload, 1) := by decide +kernel
theorem dX7_bestStone_47 : decode cX7_bestStone 47 = .ok (.bipush 9, 2) := by decide +kernel
theorem dX7_bestStone_49 : decode cX7_bestStone 49 = .ok (.if_icmp .ne 6, 3) := by decide +kernel
theorem dX7_bestStone_52 : decode cX7_bestStone 52 = .ok (.goto 49, 3) := by decide +kernel
theorem dX7_bestStone_55 : decode cX7_bestStone 55 = .ok (.aload_n 0, 1) := by decide +kernel
theorem dX7_bestStone_56 : decode cX7_bestStone 56 = .ok (.getfield 22, 3) := by decide +kernel
theorem dX7_bestStone_59 : decode cX7_bestStone 59 = .ok (.iload 5, 2) := by decide +kernel
theorem dX7_bestStone_61 : decode cX7_bestStone 61 = .ok (.dup2, 1) := by decide +kernel
theorem dX7_bestStone_62 : decode cX7_bestStone 62 = .ok (.iaload, 1) := by decide +kernel
theorem dX7_bestStone_63 : decode cX7_bestStone 63 = .ok (.iconst 1, 1) := by decide +kernel
theorem dX7_bestStone_64 : decode cX7_bestStone 64 = .ok (.iadd, 1) := by decide +kernel
theorem dX7_bestStone_65 : decode cX7_bestStone 65 = .ok (.iastore, 1) := by decide +kernel
theorem dX7_bestStone_66 : decode cX7_bestStone 66 = .ok (.aload_n 0, 1) := by decide +kernel
theorem dX7_bestStone_67 : decode cX7_bestStone 67 = .ok (.iload_n 1, 1) := by decide +kernel
theorem dX7_bestStone_68 : decode cX7_bestStone 68 = .ok (.invokevirtual 237, 3) := by decide +kernel
theorem dX7_bestStone_71 : decode cX7_bestStone 71 = .ok (.istore 6, 2) := by decide +kernel
theorem dX7_bestStone_73 : decode cX7_bestStone 73 = .ok (.aload_n 0, 1) := by decide +kernel
theorem dX7_bestStone_74 : decode cX7_bestStone 74 = .ok (.getfield 22, 3) := by decide +kernel
theorem dX7_bestStone_77 : decode cX7_bestStone 77 = .ok (.iload 5, 2) := by decide +kernel
theorem dX7_bestStone_79 : decode cX7_bestStone 79 = .ok (.dup2, 1) := by decide +kernel
theorem dX7_bestStone_80 : decode cX7_bestStone 80 = .ok (.iaload, 1) := by decide +kernel
theorem dX7_bestStone_81 : decode cX7_bestStone 81 = .ok (.iconst 1, 1) := by decide +kernel
theorem dX7_bestStone_82 : decode cX7_bestStone 82 = .ok (.isub, 1) := by decide +kernel
theorem dX7_bestStone_83 : decode cX7_bestStone 83 = .ok (.iastore, 1) := by decide +kernel
theorem dX7_bestStone_84 : decode cX7_bestStone 84 = .ok (.iload 6, 2) := by decide +kernel
theorem dX7_bestStone_86 : decode cX7_bestStone 86 = .ok (.iload 4, 2) := by decide +kernel
theorem dX7_bestStone_88 : decode cX7_bestStone 88 = .ok (.if_icmp .gt 6, 3) := by decide +kernel
theorem dX7_bestStone_91 : decode cX7_bestStone 91 = .ok (.goto 10, 3) := by decide +kernel
theorem dX7_bestStone_94 : decode cX7_bestStone 94 = .ok (.iload 5, 2) := by decide +kernel
theorem dX7_bestStone_96 : decode cX7_bestStone 96 = .ok (.istore_n 3, 1) := by decide +kernel
theorem dX7_bestStone_97 : decode cX7_bestStone 97 = .ok (.iload 6, 2) := by decide +kernel
theorem dX7_bestStone_99 : decode cX7_bestStone 99 = .ok (.istore 4, 2) := by decide +kernel
theorem dX7_bestStone_101 : decode cX7_bestStone 101 = .ok (.iinc 5 1, 3) := by decide +kernel
theorem dX7_bestStone_104 : decode cX7_bestStone 104 = .ok (.goto (-73), 3) := by decide +kernel
theorem dX7_bestStone_107 : decode cX7_bestStone 107 = .ok (.iload_n 3, 1) := by decide +kernel
theorem dX7_bestStone_108 : decode cX7_bestStone 108 = .ok (.ireturn, 1) := by decide +kernel
theorem dX7_aheadOf_0 : decode cX7_aheadOf 0 = .ok (.iconst 0, 1) := by decide +kernel
theorem dX7_aheadOf_1 : decode cX7_aheadOf 1 = .ok (.istore_n 2, 1) := by decide +kernel
theorem dX7_aheadOf_2 : decode cX7_aheadOf 2 = .ok (.iconst 0, 1) := by decide +kernel
theorem dX7_aheadOf_3 : decode cX7_aheadOf 3 = .ok (.istore_n 3, 1) := by decide +kernel
theorem dX7_aheadOf_4 : decode cX7_aheadOf 4 = .ok (.iload_n 3, 1) := by decide +kernel
theorem dX7_aheadOf_5 : decode cX7_aheadOf 5 = .ok (.aload_n 0, 1) := by decide +kernel
theorem dX7_aheadOf_6 : decode cX7_aheadOf 6 = .ok (.getfield 62, 3) := by decide +kernel
theorem dX7_aheadOf_9 : decode cX7_aheadOf 9 = .ok (.if_icmp .ge 48, 3) := by decide +kernel
theorem dX7_aheadOf_12 : decode cX7_aheadOf 12 = .ok (.iload_n 2, 1) := by decide +kernel
theorem dX7_aheadOf_13 : decode cX7_aheadOf 13 = .ok (.aload_n 0, 1) := by decide +kernel
theorem dX7_aheadOf_14 : decode cX7_aheadOf 14 = .ok (.iload_n 3, 1) := by decide +kernel
theorem dX7_aheadOf_15 : decode cX7_aheadOf 15 = .ok (.invokevirtual 176, 3) := by decide +kernel
theorem dX7_aheadOf_18 : decode cX7_aheadOf 18 = .ok (.aload_n 0, 1) := by decide +kernel
theorem dX7_aheadOf_19 : decode cX7_aheadOf 19 = .ok (.iload_n 1, 1) := by decide +kernel
theorem dX7_aheadOf_20 : decode cX7_aheadOf 20 = .ok (.invokevirtual 176, 3) := by decide +kernel
theorem dX7_aheadOf_23 : decode cX7_aheadOf 23 = .ok (.if_icmp .gt 21, 3) := by decide +kernel
theorem dX7_aheadOf_26 : decode cX7_aheadOf 26 = .ok (.aload_n 0, 1) := by decide +kernel
theorem dX7_aheadOf_27 : decode cX7_aheadOf 27 = .ok (.iload_n 3, 1) := by decide +kernel
theorem dX7_aheadOf_28 : decode cX7_aheadOf 28 = .ok (.invokevirtual 176, 3) := by decide +kernel
theorem dX7_aheadOf_31 : decode cX7_aheadOf 31 = .ok (.aload_n 0, 1) := by decide +kernel
theorem dX7_aheadOf_32 : decode cX7_aheadOf 32 = .ok (.iload_n 1, 1) := by decide +kernel
theorem dX7_aheadOf_33 : decode cX7_aheadOf 33 = .ok (.invokevirtual 176, 3) := by decide +kernel
theorem dX7_aheadOf_36 : decode cX7_aheadOf 36 = .ok (.if_icmp .ne 12, 3) := by decide +kernel
theorem dX7_aheadOf_39 : decode cX7_aheadOf 39 = .ok (.iload_n 3, 1) := by decide +kernel
theorem dX7_aheadOf_40 : decode cX7_aheadOf 40 = .ok (.iload_n 1, 1) := by decide +kernel
theorem dX7_aheadOf_41 : decode cX7_aheadOf 41 = .ok (.if_icmp .ge 7, 3) := by decide +kernel
theorem dX7_aheadOf_44 : decode cX7_aheadOf 44 = .ok (.iconst 1, 1) := by decide +kernel
theorem dX7_aheadOf_45 : decode cX7_aheadOf 45 = .ok (.goto 4, 3) := by decide +kernel
theorem dX7_aheadOf_48 : decode cX7_aheadOf 48 = .ok (.iconst 0, 1) := by decide +kernel
theorem dX7_aheadOf_49 : decode cX7_aheadOf 49 = .ok (.iadd, 1) := by decide +kernel
theorem dX7_aheadOf_50 : decode cX7_aheadOf 50 = .ok (.istore_n 2, 1) := by decide +kernel
theorem dX7_aheadOf_51 : decode cX7_aheadOf 51 = .ok (.iinc 3 1, 3) := by decide +kernel
theorem dX7_aheadOf_54 : decode cX7_aheadOf 54 = .ok (.goto (-50), 3) := by decide +kernel
theorem dX7_aheadOf_57 : decode cX7_aheadOf 57 = .ok (.iload_n 2, 1) := by decide +kernel
theorem dX7_aheadOf_58 : decode cX7_aheadOf 58 = .ok (.ireturn, 1) := by decide +kernel
theorem dX7_rows_0 : decode cX7_rows 0 = .ok (.iload_n 1, 1) := by decide +kernel
theorem dX7_rows_1 : decode cX7_rows 1 = .ok (.ifCond .ge 10, 3) := by decide +kernel
theorem dX7_rows_4 : decode cX7_rows 4 = .ok (.aload_n 0, 1) := by decide +kernel
theorem dX7_rows_5 : decode cX7_rows 5 = .ok (.bipush (-4), 2) := by decide +kernel
theorem dX7_rows_7 : decode cX7_rows 7 = .ok (.invokevirtual 81, 3) := by decide +kernel
theorem dX7_rows_10 : decode cX7_rows 10 = .ok (.ireturn, 1) := by decide +kernel
theorem dX7_rows_11 : decode cX7_rows 11 = .ok (.iconst 0, 1) := by decide +kernel
theorem dX7_rows_12 : decode cX7_rows 12 = .ok (.istore_n 2, 1) := by decide +kernel
theorem dX7_rows_13 : decode cX7_rows 13 = .ok (.iload_n 2, 1) := by decide +kernel
theorem dX7_rows_14 : decode cX7_rows 14 = .ok (.aload_n 0, 1) := by decide +kernel
theorem dX7_rows_15 : decode cX7_rows 15 = .ok (.getfield 62, 3) := by decide +kernel
theorem dX7_rows_18 : decode cX7_rows 18 = .ok (.if_icmp .ge 20, 3) := by decide +kernel
theorem dX7_rows_21 : decode cX7_rows 21 = .ok (.aload_n 0, 1) := by decide +kernel
theorem dX7_rows_22 : decode cX7_rows 22 = .ok (.iload_n 2, 1) := by decide +kernel
theorem dX7_rows_23 : decode cX7_rows 23 = .ok (.invokevirtual 240, 3) := by decide +kernel
theorem dX7_rows_26 : decode cX7_rows 26 = .ok (.iload_n 1, 1) := by decide +kernel
theorem dX7_rows_27 : decode cX7_rows 27 = .ok (.if_icmp .ne 5, 3) := by decide +kernel
theorem dX7_rows_30 : decode cX7_rows 30 = .ok (.iload_n 2, 1) := by decide +kernel
theorem dX7_rows_31 : decode cX7_rows 31 = .ok (.ireturn, 1) := by decide +kernel
theorem dX7_rows_32 : decode cX7_rows 32 = .ok (.iinc 2 1, 3) := by decide +kernel
theorem dX7_rows_35 : decode cX7_rows 35 = .ok (.goto (-22), 3) := by decide +kernel
theorem dX7_rows_38 : decode cX7_rows 38 = .ok (.bipush (-9), 2) := by decide +kernel
theorem dX7_rows_40 : decode cX7_rows 40 = .ok (.ireturn, 1) := by decide +kernel
theorem dX7_between_0 : decode cX7_between 0 = .ok (.aload_n 0, 1) := by decide +kernel
theorem dX7_between_1 : decode cX7_between 1 = .ok (.iload_n 1, 1) := by decide +kernel
theorem dX7_between_2 : decode cX7_between 2 = .ok (.iload_n 2, 1) := by decide +kernel
theorem dX7_between_3 : decode cX7_between 3 = .ok (.invokevirtual 112, 3) := by decide +kernel
theorem dX7_between_6 : decode cX7_between 6 = .ok (.ifCond .ne 9, 3) := by decide +kernel
theorem dX7_between_9 : decode cX7_between 9 = .ok (.aload_n 0, 1) := by decide +kernel
theorem dX7_between_10 : decode cX7_between 10 = .ok (.iconst (-1), 1) := by decide +kernel
theorem dX7_between_11 : decode cX7_between 11 = .ok (.invokevirtual 81, 3) := by decide +kernel
theorem dX7_between_14 : decode cX7_between 14 = .ok (.ireturn, 1) := by decide +kernel
theorem dX7_between_15 : decode cX7_between 15 = .ok (.aload_n 0, 1) := by decide +kernel
theorem dX7_between_16 : decode cX7_between 16 = .ok (.iload_n 1, 1) := by decide +kernel
theorem dX7_between_17 : decode cX7_between 17 = .ok (.invokevirtual 176, 3) := by decide +kernel
theorem dX7_between_20 : decode cX7_between 20 = .ok (.istore_n 3, 1) := by decide +kernel
theorem dX7_between_21 : decode cX7_between 21 = .ok (.aload_n 0, 1) := by decide +kernel
theorem dX7_between_22 : decode cX7_between 22 = .ok (.iload_n 2, 1) := by decide +kernel
theorem dX7_between_23 : decode cX7_between 23 = .ok (.invokevirtual 176, 3) := by decide +kernel
theorem dX7_between_26 : decode cX7_between 26 = .ok (.istore 4, 2) := by decide +kernel
theorem dX7_between_28 : decode cX7_between 28 = .ok (.iconst 0, 1) := by decide +kernel
theorem dX7_between_29 : decode cX7_between 29 = .ok (.istore 5, 2) := by decide +kernel
theorem dX7_between_31 : decode cX7_between 31 = .ok (.iconst 0, 1) := by decide +kernel
theorem dX7_between_32 : decode cX7_between 32 = .ok (.istore 6, 2) := by decide +kernel
theorem dX7_between_34 : decode cX7_between 34 = .ok (.iload 6, 2) := by decide +kernel
theorem dX7_between_36 : decode cX7_between 36 = .ok (.aload_n 0, 1) := by decide +kernel
theorem dX7_between_37 : decode cX7_between 37 = .ok (.getfield 62, 3) := by decide +kernel
theorem dX7_between_40 : decode cX7_between 40 = .ok (.if_icmp .ge 61, 3) := by decide +kernel
theorem dX7_between_43 : decode cX7_between 43 = .ok (.iload 5, 2) := by decide +kernel
theorem dX7_between_45 : decode cX7_between 45 = .ok (.aload_n 0, 1) := by decide +kernel
theorem dX7_between_46 : decode cX7_between 46 = .ok (.iload 6, 2) := by decide +kernel
theorem dX7_between_48 : decode cX7_between 48 = .ok (.invokevirtual 176, 3) := by decide +kernel
theorem dX7_between_51 : decode cX7_between 51 = .ok (.iload_n 3, 1) := by decide +kernel
theorem dX7_between_52 : decode cX7_between 52 = .ok (.if_icmp .le 14, 3) := by decide +kernel
theorem dX7_between_55 : decode cX7_between 55 = .ok (.aload_n 0, 1) := by decide +kernel
theorem dX7_between_56 : decode cX7_between 56 = .ok (.iload 6, 2) := by decide +kernel
theorem dX7_between_58 : decode cX7_between 58 = .ok (.invokevirtual 176, 3) := by decide +kernel
theorem dX7_between_61 : decode cX7_between 61 = .ok (.iload 4, 2) := by decide +kernel
theorem dX7_between_63 : decode cX7_between 63 = .ok (.if_icmp .lt 24, 3) := by decide +kernel
theorem dX7_between_66 : decode cX7_between 66 = .ok (.aload_n 0, 1) := by decide +kernel
theorem dX7_between_67 : decode cX7_between 67 = .ok (.iload 6, 2) := by decide +kernel
theorem dX7_between_69 : decode cX7_between 69 = .ok (.invokevirtual 176, 3) := by decide +kernel
theorem dX7_between_72 : decode cX7_between 72 = .ok (.iload 4, 2) := by decide +kernel
theorem dX7_between_74 : decode cX7_between 74 = .ok (.if_icmp .le 17, 3) := by decide +kernel
theorem dX7_between_77 : decode cX7_between 77 = .ok (.aload_n 0, 1) := by decide +kernel
theorem dX7_between_78 : decode cX7_between 78 = .ok (.iload 6, 2) := by decide +kernel
theorem dX7_between_80 : decode cX7_between 80 = .ok (.invokevirtual 176, 3) := by decide +kernel
theorem dX7_between_83 : decode cX7_between 83 = .ok (.iload_n 3, 1) := by decide +kernel
theorem dX7_between_84 : decode cX7_between 84 = .ok (.if_icmp .ge 7, 3) := by decide +kernel
theorem dX7_between_87 : decode cX7_between 87 = .ok (.iconst 1, 1) := by decide +kernel
theorem dX7_between_88 : decode cX7_between 88 = .ok (.goto 4, 3) := by decide +kernel
theorem dX7_between_91 : decode cX7_between 91 = .ok (.iconst 0, 1) := by decide +kernel
theorem dX7_between_92 : decode cX7_between 92 = .ok (.iadd, 1) := by decide +kernel
theorem dX7_between_93 : decode cX7_between 93 = .ok (.istore 5, 2) := by decide +kernel
theorem dX7_between_95 : decode cX7_between 95 = .ok (.iinc 6 1, 3) := by decide +kernel
theorem dX7_between_98 : decode cX7_between 98 = .ok (.goto (-64), 3) := by decide +kernel
theorem dX7_between_101 : decode cX7_between 101 = .ok (.iload 5, 2) := by decide +kernel
theorem dX7_between_103 : decode cX7_between 103 = .ok (.ireturn, 1) := by decide +kernel
theorem dX7_heftsOf_0 : decode cX7_heftsOf 0 = .ok (.iconst 0, 1) := by decide +kernel
theorem dX7_heftsOf_1 : decode cX7_heftsOf 1 = .ok (.istore_n 2, 1) := by decide +kernel
theorem dX7_heftsOf_2 : decode cX7_heftsOf 2 = .ok (.iconst 0, 1) := by decide +kernel
theorem dX7_heftsOf_3 : decode cX7_heftsOf 3 = .ok (.istore_n 3, 1) := by decide +kernel
theorem dX7_heftsOf_4 : decode cX7_heftsOf 4 = .ok (.iload_n 3, 1) := by decide +kernel
theorem dX7_heftsOf_5 : decode cX7_heftsOf 5 = .ok (.aload_n 0, 1) := by decide +kernel
theorem dX7_heftsOf_6 : decode cX7_heftsOf 6 = .ok (.getfield 62, 3) := by decide +kernel
theorem dX7_heftsOf_9 : decode cX7_heftsOf 9 = .ok (.if_icmp .ge 29, 3) := by decide +kernel
theorem dX7_heftsOf_12 : decode cX7_heftsOf 12 = .ok (.iload_n 2, 1) := by decide +kernel
theorem dX7_heftsOf_13 : decode cX7_heftsOf 13 = .ok (.iload_n 1, 1) := by decide +kernel
theorem dX7_heftsOf_14 : decode cX7_heftsOf 14 = .ok (.iload_n 3, 1) := by decide +kernel
theorem dX7_heftsOf_15 : decode cX7_heftsOf 15 = .ok (.invokestatic 243, 3) := by decide +kernel
theorem dX7_heftsOf_18 : decode cX7_heftsOf 18 = .ok (.ifCond .eq 11, 3) := by decide +kernel
theorem dX7_heftsOf_21 : decode cX7_heftsOf 21 = .ok (.aload_n 0, 1) := by decide +kernel
theorem dX7_heftsOf_22 : decode cX7_heftsOf 22 = .ok (.iload_n 3, 1) := by decide +kernel
theorem dX7_heftsOf_23 : decode cX7_heftsOf 23 = .ok (.invokevirtual 176, 3) := by decide +kernel
theorem dX7_heftsOf_26 : decode cX7_heftsOf 26 = .ok (.goto 4, 3) := by decide +kernel
theorem dX7_heftsOf_29 : decode cX7_heftsOf 29 = .ok (.iconst 0, 1) := by decide +kernel
theorem dX7_heftsOf_30 : decode cX7_heftsOf 30 = .ok (.iadd, 1) := by decide +kernel
theorem dX7_heftsOf_31 : decode cX7_heftsOf 31 = .ok (.istore_n 2, 1) := by decide +kernel
theorem dX7_heftsOf_32 : decode cX7_heftsOf 32 = .ok (.iinc 3 1, 3) := by decide +kernel
theorem dX7_heftsOf_35 : decode cX7_heftsOf 35 = .ok (.goto (-31), 3) := by decide +kernel
theorem dX7_heftsOf_38 : decode cX7_heftsOf 38 = .ok (.iload_n 2, 1) := by decide +kernel
theorem dX7_heftsOf_39 : decode cX7_heftsOf 39 = .ok (.ireturn, 1) := by decide +kernel
theorem dX7_balance_0 : decode cX7_balance 0 = .ok (.aload_n 0, 1) := by decide +kernel
theorem dX7_balance_1 : decode cX7_balance 1 = .ok (.iload_n 1, 1) := by decide +kernel
theorem dX7_balance_2 : decode cX7_balance 2 = .ok (.invokevirtual 70, 3) := by decide +kernel
theorem dX7_balance_5 : decode cX7_balance 5 = .ok (.ifCond .ne 9, 3) := by decide +kernel
theorem dX7_balance_8 : decode cX7_balance 8 = .ok (.aload_n 0, 1) := by decide +kernel
theorem dX7_balance_9 : decode cX7_balance 9 = .ok (.iconst (-1), 1) := by decide +kernel
theorem dX7_balance_10 : decode cX7_balance 10 = .ok (.invokevirtual 81, 3) := by decide +kernel
theorem dX7_balance_13 : decode cX7_balance 13 = .ok (.ireturn, 1) := by decide +kernel
theorem dX7_balance_14 : decode cX7_balance 14 = .ok (.bipush (-9), 2) := by decide +kernel
theorem dX7_balance_16 : decode cX7_balance 16 = .ok (.istore_n 2, 1) := by decide +kernel
theorem dX7_balance_17 : decode cX7_balance 17 = .ok (.iconst 0, 1) := by decide +kernel
theorem dX7_balance_18 : decode cX7_balance 18 = .ok (.istore_n 3, 1) := by decide +kernel
theorem dX7_balance_19 : decode cX7_balance 19 = .ok (.iload_n 3, 1) := by decide +kernel
theorem dX7_balance_20 : decode cX7_balance 20 = .ok (.iconst 1, 1) := by decide +kernel
theorem dX7_balance_21 : decode cX7_balance 21 = .ok (.aload_n 0, 1) := by decide +kernel
theorem dX7_balance_22 : decode cX7_balance 22 = .ok (.getfield 62, 3) := by decide +kernel
theorem dX7_balance_25 : decode cX7_balance 25 = .ok (.ishl, 1) := by decide +kernel
theorem dX7_balance_26 : decode cX7_balance 26 = .ok (.if_icmp .ge 50, 3) := by decide +kernel
theorem dX7_balance_29 : decode cX7_balance 29 = .ok (.iload_n 3, 1) := by decide +kernel
theorem dX7_balance_30 : decode cX7_balance 30 = .ok (.iload_n 1, 1) := by decide +kernel
theorem dX7_balance_31 : decode cX7_balance 31 = .ok (.invokestatic 243, 3) := by decide +kernel
theorem dX7_balance_34 : decode cX7_balance 34 = .ok (.ifCond .ne 36, 3) := by decide +kernel
theorem dX7_balance_37 : decode cX7_balance 37 = .ok (.iload_n 2, 1) := by decide +kernel
theorem dX7_balance_38 : decode cX7_balance 38 = .ok (.ifCond .lt 17, 3) := by decide +kernel
theorem dX7_balance_41 : decode cX7_balance 41 = .ok (.iload_n 3, 1) := by decide +kernel
theorem dX7_balance_42 : decode cX7_balance 42 = .ok (.invokestatic 246, 3) := by decide +kernel
theorem dX7_balance_45 : decode cX7_balance 45 = .ok (.iload_n 2, 1) := by decide +kernel
theorem dX7_balance_46 : decode cX7_balance 46 = .ok (.invokestatic 246, 3) := by decide +kernel
theorem dX7_balance_49 : decode cX7_balance 49 = .ok (.if_icmp .lt 6, 3) := by decide +kernel
theorem dX7_balance_52 : decode cX7_balance 52 = .ok (.goto 18, 3) := by decide +kernel
theorem dX7_balance_55 : decode cX7_balance 55 = .ok (.aload_n 0, 1) := by decide +kernel
theorem dX7_balance_56 : decode cX7_balance 56 = .ok (.iload_n 3, 1) := by decide +kernel
theorem dX7_balance_57 : decode cX7_balance 57 = .ok (.invokevirtual 249, 3) := by decide +kernel
theorem dX7_balance_60 : decode cX7_balance 60 = .ok (.aload_n 0, 1) := by decide +kernel
theorem dX7_balance_61 : decode cX7_balance 61 = .ok (.iload_n 1, 1) := by decide +kernel
theorem dX7_balance_62 : decode cX7_balance 62 = .ok (.invokevirtual 176, 3) := by decide +kernel
theorem dX7_balance_65 : decode cX7_balance 65 = .ok (.if_icmp .ne 5, 3) := by decide +kernel
theorem dX7_balance_68 : decode cX7_balance 68 = .ok (.iload_n 3, 1) := by decide +kernel
theorem dX7_balance_69 : decode cX7_balance 69 = .ok (.istore_n 2, 1) := by decide +kernel
theorem dX7_balance_70 : decode cX7_balance 70 = .ok (.iinc 3 1, 3) := by decide +kernel
theorem dX7_balance_73 : decode cX7_balance 73 = .ok (.goto (-54), 3) := by decide +kernel
theorem dX7_balance_76 : decode cX7_balance 76 = .ok (.iload_n 2, 1) := by decide +kernel
theorem dX7_balance_77 : decode cX7_balance 77 = .ok (.ireturn, 1) := by decide +kernel
theorem dX7_nearest_0 : decode cX7_nearest 0 = .ok (.aload_n 0, 1) := by decide +kernel
theorem dX7_nearest_1 : decode cX7_nearest 1 = .ok (.iload_n 1, 1) := by decide +kernel
theorem dX7_nearest_2 : decode cX7_nearest 2 = .ok (.invokevirtual 70, 3) := by decide +kernel
theorem dX7_nearest_5 : decode cX7_nearest 5 = .ok (.ifCond .ne 9, 3) := by decide +kernel
theorem dX7_nearest_8 : decode cX7_nearest 8 = .ok (.aload_n 0, 1) := by decide +kernel
theorem dX7_nearest_9 : decode cX7_nearest 9 = .ok (.iconst (-1), 1) := by decide +kernel
theorem dX7_nearest_10 : decode cX7_nearest 10 = .ok (.invokevirtual 81, 3) := by decide +kernel
theorem dX7_nearest_13 : decode cX7_nearest 13 = .ok (.ireturn, 1) := by decide +kernel
theorem dX7_nearest_14 : decode cX7_nearest 14 = .ok (.bipush (-9), 2) := by decide +kernel
theorem dX7_nearest_16 : decode cX7_nearest 16 = .ok (.istore_n 2, 1) := by decide +kernel
theorem dX7_nearest_17 : decode cX7_nearest 17 = .ok (.iconst 0, 1) := by decide +kernel
theorem dX7_nearest_18 : decode cX7_nearest 18 = .ok (.istore_n 3, 1) := by decide +kernel
theorem dX7_nearest_19 : decode cX7_nearest 19 = .ok (.iload_n 3, 1) := by decide +kernel
theorem dX7_nearest_20 : decode cX7_nearest 20 = .ok (.aload_n 0, 1) := by decide +kernel
theorem dX7_nearest_21 : decode cX7_nearest 21 = .ok (.getfield 62, 3) := by decide +kernel
theorem dX7_nearest_24 : decode cX7_nearest 24 = .ok (.if_icmp .ge 49, 3) := by decide +kernel
theorem dX7_nearest_27 : decode cX7_nearest 27 = .ok (.iload_n 3, 1) := by decide +kernel
theorem dX7_nearest_28 : decode cX7_nearest 28 = .ok (.iload_n 1, 1) := by decide +kernel
theorem dX7_nearest_29 : decode cX7_nearest 29 = .ok (.if_icmp .eq 38, 3) := by decide +kernel
theorem dX7_nearest_32 : decode cX7_nearest 32 = .ok (.iload_n 2, 1) := by decide +kernel
theorem dX7_nearest_33 : decode cX7_nearest 33 = .ok (.ifCond .lt 32, 3) := by decide +kernel
theorem dX7_nearest_36 : decode cX7_nearest 36 = .ok (.aload_n 0, 1) := by decide +kernel
theorem dX7_nearest_37 : decode cX7_nearest 37 = .ok (.iload_n 3, 1) := by decide +kernel
theorem dX7_nearest_38 : decode cX7_nearest 38 = .ok (.invokevirtual 176, 3) := by decide +kernel
theorem dX7_nearest_41 : decode cX7_nearest 41 = .ok (.aload_n 0, 1) := by decide +kernel
theorem dX7_nearest_42 : decode cX7_nearest 42 = .ok (.iload_n 1, 1) := by decide +kernel
theorem dX7_nearest_43 : decode cX7_nearest 43 = .ok (.invokevirtual 176, 3) := by decide +kernel
theorem dX7_nearest_46 : decode cX7_nearest 46 = .ok (.invokestatic 252, 3) := by decide +kernel
theorem dX7_nearest_49 : decode cX7_nearest 49 = .ok (.aload_n 0, 1) := by decide +kernel
theorem dX7_nearest_50 : decode cX7_nearest 50 = .ok (.iload_n 2, 1) := by decide +kernel
theorem dX7_nearest_51 : decode cX7_nearest 51 = .ok (.invokevirtual 176, 3) := by decide +kernel
theorem dX7_nearest_54 : decode cX7_nearest 54 = .ok (.aload_n 0, 1) := by decide +kernel
theorem dX7_nearest_55 : decode cX7_nearest 55 = .ok (.iload_n 1, 1) := by decide +kernel
theorem dX7_nearest_56 : decode cX7_nearest 56 = .ok (.invokevirtual 176, 3) := by decide +kernel
theorem dX7_nearest_59 : decode cX7_nearest 59 = .ok (.invokestatic 252, 3) := by decide +kernel
theorem dX7_nearest_62 : decode cX7_nearest 62 = .ok (.if_icmp .ge 5, 3) := by decide +kernel
theorem dX7_nearest_65 : decode cX7_nearest 65 = .ok (.iload_n 3, 1) := by decide +kernel
theorem dX7_nearest_66 : decode cX7_nearest 66 = .ok (.istore_n 2, 1) := by decide +kernel
theorem dX7_nearest_67 : decode cX7_nearest 67 = .ok (.iinc 3 1, 3) := by decide +kernel
theorem dX7_nearest_70 : decode cX7_nearest 70 = .ok (.goto (-51), 3) := by decide +kernel
theorem dX7_nearest_73 : decode cX7_nearest 73 = .ok (.iload_n 2, 1) := by decide +kernel
theorem dX7_nearest_74 : decode cX7_nearest 74 = .ok (.ireturn, 1) := by decide +kernel
theorem dX7_chainOf_0 : decode cX7_chainOf 0 = .ok (.iconst 1, 1) := by decide +kernel
theorem dX7_chainOf_1 : decode cX7_chainOf 1 = .ok (.iload_n 1, 1) := by decide +kernel
theorem dX7_chainOf_2 : decode cX7_chainOf 2 = .ok (.ishl, 1) := by decide +kernel
theorem dX7_chainOf_3 : decode cX7_chainOf 3 = .ok (.istore_n 2, 1) := by decide +kernel
theorem dX7_chainOf_4 : decode cX7_chainOf 4 = .ok (.iconst 0, 1) := by decide +kernel
theorem dX7_chainOf_5 : decode cX7_chainOf 5 = .ok (.istore_n 3, 1) := by decide +kernel
theorem dX7_chainOf_6 : decode cX7_chainOf 6 = .ok (.iload_n 3, 1) := by decide +kernel
theorem dX7_chainOf_7 : decode cX7_chainOf 7 = .ok (.bipush 8, 2) := by decide +kernel
theorem dX7_chainOf_9 : decode cX7_chainOf 9 = .ok (.if_icmp .ge 77, 3) := by decide +kernel
theorem dX7_chainOf_12 : decode cX7_chainOf 12 = .ok (.iconst 0, 1) := by decide +kernel
theorem dX7_chainOf_13 : decode cX7_chainOf 13 = .ok (.istore 4, 2) := by decide +kernel
theorem dX7_chainOf_15 : decode cX7_chainOf 15 = .ok (.iload 4, 2) := by decide +kernel
theorem dX7_chainOf_17 : decode cX7_chainOf 17 = .ok (.aload_n 0, 1) := by decide +kernel
theorem dX7_chainOf_18 : decode cX7_chainOf 18 = .ok (.getfield 67, 3) := by decide +kernel
theorem dX7_chainOf_21 : decode cX7_chainOf 21 = .ok (.if_icmp .ge 59, 3) := by decide +kernel
theorem dX7_chainOf_24 : decode cX7_chainOf 24 = .ok (.iload_n 2, 1) := by decide +kernel
theorem dX7_chainOf_25 : decode cX7_chainOf 25 = .ok (.aload_n 0, 1) := by decide +kernel
theorem dX7_chainOf_26 : decode cX7_chainOf 26 = .ok (.getfield 28, 3) := by decide +kernel
theorem dX7_chainOf_29 : decode cX7_chainOf 29 = .ok (.iload 4, 2) := by decide +kernel
theorem dX7_chainOf_31 : decode cX7_chainOf 31 = .ok (.iaload, 1) := by decide +kernel
theorem dX7_chainOf_32 : decode cX7_chainOf 32 = .ok (.invokestatic 243, 3) := by decide +kernel
theorem dX7_chainOf_35 : decode cX7_chainOf 35 = .ok (.ifCond .ne 17, 3) := by decide +kernel
theorem dX7_chainOf_38 : decode cX7_chainOf 38 = .ok (.iload_n 2, 1) := by decide +kernel
theorem dX7_chainOf_39 : decode cX7_chainOf 39 = .ok (.aload_n 0, 1) := by decide +kernel
theorem dX7_chainOf_40 : decode cX7_chainOf 40 = .ok (.getfield 31, 3) := by decide +kernel
theorem dX7_chainOf_43 : decode cX7_chainOf 43 = .ok (.iload 4, 2) := by decide +kernel
theorem dX7_chainOf_45 : decode cX7_chainOf 45 = .ok (.iaload, 1) := by decide +kernel
theorem dX7_chainOf_46 : decode cX7_chainOf 46 = .ok (.invokestatic 243, 3) := by decide +kernel
theorem dX7_chainOf_49 : decode cX7_chainOf 49 = .ok (.ifCond .eq 25, 3) := by decide +kernel
theorem dX7_chainOf_52 : decode cX7_chainOf 52 = .ok (.iload_n 2, 1) := by decide +kernel
theorem dX7_chainOf_53 : decode cX7_chainOf 53 = .ok (.iconst 1, 1) := by decide +kernel
theorem dX7_chainOf_54 : decode cX7_chainOf 54 = .ok (.aload_n 0, 1) := by decide +kernel
theorem dX7_chainOf_55 : decode cX7_chainOf 55 = .ok (.getfield 28, 3) := by decide +kernel
theorem dX7_chainOf_58 : decode cX7_chainOf 58 = .ok (.iload 4, 2) := by decide +kernel
theorem dX7_chainOf_60 : decode cX7_chainOf 60 = .ok (.iaload, 1) := by decide +kernel
theorem dX7_chainOf_61 : decode cX7_chainOf 61 = .ok (.ishl, 1) := by decide +kernel
theorem dX7_chainOf_62 : decode cX7_chainOf 62 = .ok (.iconst 1, 1) := by decide +kernel
theorem dX7_chainOf_63 : decode cX7_chainOf 63 = .ok (.aload_n 0, 1) := by decide +kernel
theorem dX7_chainOf_64 : decode cX7_chainOf 64 = .ok (.getfield 31, 3) := by decide +kernel
theorem dX7_chainOf_67 : decode cX7_chainOf 67 = .ok (.iload 4, 2) := by decide +kernel
theorem dX7_chainOf_69 : decode cX7_chainOf 69 = .ok (.iaload, 1) := by decide +kernel
theorem dX7_chainOf_70 : decode cX7_chainOf 70 = .ok (.ishl, 1) := by decide +kernel
theorem dX7_chainOf_71 : decode cX7_chainOf 71 = .ok (.ior, 1) := by decide +kernel
theorem dX7_chainOf_72 : decode cX7_chainOf 72 = .ok (.ior, 1) := by decide +kernel
theorem dX7_chainOf_73 : decode cX7_chainOf 73 = .ok (.istore_n 2, 1) := by decide +kernel
theorem dX7_chainOf_74 : decode cX7_chainOf 74 = .ok (.iinc 4 1, 3) := by decide +kernel
theorem dX7_chainOf_77 : decode cX7_chainOf 77 = .ok (.goto (-62), 3) := by decide +kernel
theorem dX7_chainOf_80 : decode cX7_chainOf 80 = .ok (.iinc 3 1, 3) := by decide +kernel
theorem dX7_chainOf_83 : decode cX7_chainOf 83 = .ok (.goto (-77), 3) := by decide +kernel
theorem dX7_chainOf_86 : decode cX7_chainOf 86 = .ok (.iload_n 2, 1) := by decide +kernel
theorem dX7_chainOf_87 : decode cX7_chainOf 87 = .ok (.ireturn, 1) := by decide +kernel
theorem dX7_chain_0 : decode cX7_chain 0 = .ok (.aload_n 0, 1) := by decide +kernel
theorem dX7_chain_1 : decode cX7_chain 1 = .ok (.iload_n 1, 1) := by decide +kernel
theorem dX7_chain_2 : decode cX7_chain 2 = .ok (.invokevirtual 70, 3) := by decide +kernel
theorem dX7_chain_5 : decode cX7_chain 5 = .ok (.ifCond .eq 11, 3) := by decide +kernel
theorem dX7_chain_8 : decode cX7_chain 8 = .ok (.aload_n 0, 1) := by decide +kernel
theorem dX7_chain_9 : decode cX7_chain 9 = .ok (.iload_n 1, 1) := by decide +kernel
theorem dX7_chain_10 : decode cX7_chain 10 = .ok (.invokevirtual 255, 3) := by decide +kernel
theorem dX7_chain_13 : decode cX7_chain 13 = .ok (.goto 8, 3) := by decide +kernel
theorem dX7_chain_16 : decode cX7_chain 16 = .ok (.aload_n 0, 1) := by decide +kernel
theorem dX7_chain_17 : decode cX7_chain 17 = .ok (.iconst (-1), 1) := by decide +kernel
theorem dX7_chain_18 : decode cX7_chain 18 = .ok (.invokevirtual 81, 3) := by decide +kernel
theorem dX7_chain_21 : decode cX7_chain 21 = .ok (.ireturn, 1) := by decide +kernel
theorem dX7_chains_0 : decode cX7_chains 0 = .ok (.iload_n 1, 1) := by decide +kernel
theorem dX7_chains_1 : decode cX7_chains 1 = .ok (.iconst 0, 1) := by decide +kernel
theorem dX7_chains_2 : decode cX7_chains 2 = .ok (.iconst 2, 1) := by decide +kernel
theorem dX7_chains_3 : decode cX7_chains 3 = .ok (.invokestatic 92, 3) := by decide +kernel
theorem dX7_chains_6 : decode cX7_chains 6 = .ok (.ifCond .ne 10, 3) := by decide +kernel
theorem dX7_chains_9 : decode cX7_chains 9 = .ok (.aload_n 0, 1) := by decide +kernel
theorem dX7_chains_10 : decode cX7_chains 10 = .ok (.bipush (-2), 2) := by decide +kernel
theorem dX7_chains_12 : decode cX7_chains 12 = .ok (.invokevirtual 81, 3) := by decide +kernel
theorem dX7_chains_15 : decode cX7_chains 15 = .ok (.ireturn, 1) := by decide +kernel
theorem dX7_chains_16 : decode cX7_chains 16 = .ok (.iconst 0, 1) := by decide +kernel
theorem dX7_chains_17 : decode cX7_chains 17 = .ok (.istore_n 2, 1) := by decide +kernel
theorem dX7_chains_18 : decode cX7_chains 18 = .ok (.iconst 0, 1) := by decide +kernel
theorem dX7_chains_19 : decode cX7_chains 19 = .ok (.istore_n 3, 1) := by decide +kernel
theorem dX7_chains_20 : decode cX7_chains 20 = .ok (.iconst 0, 1) := by decide +kernel
theorem dX7_chains_21 : decode cX7_chains 21 = .ok (.istore 4, 2) := by decide +kernel
theorem dX7_chains_23 : decode cX7_chains 23 = .ok (.iload 4, 2) := by decide +kernel
theorem dX7_chains_25 : decode cX7_chains 25 = .ok (.aload_n 0, 1) := by decide +kernel
theorem dX7_chains_26 : decode cX7_chains 26 = .ok (.getfield 62, 3) := by decide +kernel
theorem dX7_chains_29 : decode cX7_chains 29 = .ok (.if_icmp .ge 56, 3) := by decide +kernel
theorem dX7_chains_32 : decode cX7_chains 32 = .ok (.aload_n 0, 1) := by decide +kernel
theorem dX7_chains_33 : decode cX7_chains 33 = .ok (.iload 4, 2) := by decide +kernel
theorem dX7_chains_35 : decode cX7_chains 35 = .ok (.invokevirtual 255, 3) := by decide +kernel
theorem dX7_chains_38 : decode cX7_chains 38 = .ok (.istore 5, 2) := by decide +kernel
theorem dX7_chains_40 : decode cX7_chains 40 = .ok (.iload_n 2, 1) := by decide +kernel
theorem dX7_chains_41 : decode cX7_chains 41 = .ok (.iload 5, 2) := by decide +kernel
theorem dX7_chains_43 : decode cX7_chains 43 = .ok (.iconst 1, 1) := by decide +kernel
theorem dX7_chains_44 : decode cX7_chains 44 = .ok (.iload 4, 2) := by decide +kernel
theorem dX7_chains_46 : decode cX7_chains 46 = .ok (.ishl, 1) := by decide +kernel
theorem dX7_chains_47 : decode cX7_chains 47 = .ok (.iconst 1, 1) := by decide +kernel
theorem dX7_chains_48 : decode cX7_chains 48 = .ok (.isub, 1) := by decide +kernel
theorem dX7_chains_49 : decode cX7_chains 49 = .ok (.iand, 1) := by decide +kernel
theorem dX7_chains_50 : decode cX7_chains 50 = .ok (.ifCond .ne 7, 3) := by decide +kernel
theorem dX7_chains_53 : decode cX7_chains 53 = .ok (.iconst 1, 1) := by decide +kernel
theorem dX7_chains_54 : decode cX7_chains 54 = .ok (.goto 4, 3) := by decide +kernel
theorem dX7_chains_57 : decode cX7_chains 57 = .ok (.iconst 0, 1) := by decide +kernel
theorem dX7_chains_58 : decode cX7_chains 58 = .ok (.iadd, 1) := by decide +kernel
theorem dX7_chains_59 : decode cX7_chains 59 = .ok (.istore_n 2, 1) := by decide +kernel
theorem dX7_chains_60 : decode cX7_chains 60 = .ok (.iload 5, 2) := by decide +kernel
theorem dX7_chains_62 : decode cX7_chains 62 = .ok (.invokestatic 246, 3) := by decide +kernel
theorem dX7_chains_65 : decode cX7_chains 65 = .ok (.iload_n 3, 1) := by decide +kernel
theorem dX7_chains_66 : decode cX7_chains 66 = .ok (.if_icmp .le 11, 3) := by decide +kernel
theorem dX7_chains_69 : decode cX7_chains 69 = .ok (.iload 5, 2) := by decide +kernel
theorem dX7_chains_71 : decode cX7_chains 71 = .ok (.invokestatic 246, 3) := by decide +kernel
theorem dX7_chains_74 : decode cX7_chains 74 = .ok (.goto 4, 3) := by decide +kernel
theorem dX7_chains_77 : decode cX7_chains 77 = .ok (.iload_n 3, 1) := by decide +kernel
theorem dX7_chains_78 : decode cX7_chains 78 = .ok (.istore_n 3, 1) := by decide +kernel
theorem dX7_chains_79 : decode cX7_chains 79 = .ok (.iinc 4 1, 3) := by decide +kernel
theorem dX7_chains_82 : decode cX7_chains 82 = .ok (.goto (-59), 3) := by decide +kernel
theorem dX7_chains_85 : decode cX7_chains 85 = .ok (.iload_n 1, 1) := by decide +kernel
theorem dX7_chains_86 : decode cX7_chains 86 = .ok (.ifCond .ne 7, 3) := by decide +kernel
theorem dX7_chains_89 : decode cX7_chains 89 = .ok (.iload_n 2, 1) := by decide +kernel
theorem dX7_chains_90 : decode cX7_chains 90 = .ok (.goto 30, 3) := by decide +kernel
theorem dX7_chains_93 : decode cX7_chains 93 = .ok (.iload_n 1, 1) := by decide +kernel
theorem dX7_chains_94 : decode cX7_chains 94 = .ok (.iconst 1, 1) := by decide +kernel
theorem dX7_chains_95 : decode cX7_chains 95 = .ok (.if_icmp .ne 7, 3) := by decide +kernel
theorem dX7_chains_98 : decode cX7_chains 98 = .ok (.iload_n 3, 1) := by decide +kernel
theorem dX7_chains_99 : decode cX7_chains 99 = .ok (.goto 21, 3) := by decide +kernel
theorem dX7_chains_102 : decode cX7_chains 102 = .ok (.aload_n 0, 1) := by decide +kernel
theorem dX7_chains_103 : decode cX7_chains 103 = .ok (.getfield 67, 3) := by decide +kernel
theorem dX7_chains_106 : decode cX7_chains 106 = .ok (.aload_n 0, 1) := by decide +kernel
theorem dX7_chains_107 : decode cX7_chains 107 = .ok (.getfield 62, 3) := by decide +kernel
theorem dX7_chains_110 : decode cX7_chains 110 = .ok (.iload_n 2, 1) := by decide +kernel
theorem dX7_chains_111 : decode cX7_chains 111 = .ok (.isub, 1) := by decide +kernel
theorem dX7_chains_112 : decode cX7_chains 112 = .ok (.if_icmp .le 7, 3) := by decide +kernel
theorem dX7_chains_115 : decode cX7_chains 115 = .ok (.iconst 1, 1) := by decide +kernel
theorem dX7_chains_116 : decode cX7_chains 116 = .ok (.goto 4, 3) := by decide +kernel
theorem dX7_chains_119 : decode cX7_chains 119 = .ok (.iconst 0, 1) := by decide +kernel
theorem dX7_chains_120 : decode cX7_chains 120 = .ok (.ireturn, 1) := by decide +kernel
theorem dX7_sides_0 : decode cX7_sides 0 = .ok (.iload_n 1, 1) := by decide +kernel
theorem dX7_sides_1 : decode cX7_sides 1 = .ok (.iconst 0, 1) := by decide +kernel
theorem dX7_sides_2 : decode cX7_sides 2 = .ok (.iconst 1, 1) := by decide +kernel
theorem dX7_sides_3 : decode cX7_sides 3 = .ok (.invokestatic 92, 3) := by decide +kernel
theorem dX7_sides_6 : decode cX7_sides 6 = .ok (.ifCond .ne 10, 3) := by decide +kernel
theorem dX7_sides_9 : decode cX7_sides 9 = .ok (.aload_n 0, 1) := by decide +kernel
theorem dX7_sides_10 : decode cX7_sides 10 = .ok (.bipush (-2), 2) := by decide +kernel
theorem dX7_sides_12 : decode cX7_sides 12 = .ok (.invokevirtual 81, 3) := by decide +kernel
theorem dX7_sides_15 : decode cX7_sides 15 = .ok (.ireturn, 1) := by decide +kernel
theorem dX7_sides_16 : decode cX7_sides 16 = .ok (.aload_n 0, 1) := by decide +kernel
theorem dX7_sides_17 : decode cX7_sides 17 = .ok (.getfield 62, 3) := by decide +kernel
theorem dX7_sides_20 : decode cX7_sides 20 = .ok (.ifCond .ne 6, 3) := by decide +kernel
theorem dX7_sides_23 : decode cX7_sides 23 = .ok (.bipush (-9), 2) := by decide +kernel
theorem dX7_sides_25 : decode cX7_sides 25 = .ok (.ireturn, 1) := by decide +kernel
theorem dX7_sides_26 : decode cX7_sides 26 = .ok (.aload_n 0, 1) := by decide +kernel
theorem dX7_sides_27 : decode cX7_sides 27 = .ok (.iconst 1, 1) := by decide +kernel
theorem dX7_sides_28 : decode cX7_sides 28 = .ok (.aload_n 0, 1) := by decide +kernel
theorem dX7_sides_29 : decode cX7_sides 29 = .ok (.getfield 62, 3) := by decide +kernel
theorem dX7_sides_32 : decode cX7_sides 32 = .ok (.ishl, 1) := by decide +kernel
theorem dX7_sides_33 : decode cX7_sides 33 = .ok (.iconst 1, 1) := by decide +kernel
theorem dX7_sides_34 : decode cX7_sides 34 = .ok (.isub, 1) := by decide +kernel
theorem dX7_sides_35 : decode cX7_sides 35 = .ok (.invokevirtual 249, 3) := by decide +kernel
theorem dX7_sides_38 : decode cX7_sides 38 = .ok (.istore_n 2, 1) := by decide +kernel
theorem dX7_sides_39 : decode cX7_sides 39 = .ok (.bipush (-9), 2) := by decide +kernel
theorem dX7_sides_41 : decode cX7_sides 41 = .ok (.istore_n 3, 1) := by decide +kernel
theorem dX7_sides_42 : decode cX7_sides 42 = .ok (.iconst 0, 1) := by decide +kernel
theorem dX7_sides_43 : decode cX7_sides 43 = .ok (.istore 4, 2) := by decide +kernel
theorem dX7_sides_45 : decode cX7_sides 45 = .ok (.iconst 1, 1) := by decide +kernel
theorem dX7_sides_46 : decode cX7_sides 46 = .ok (.istore 5, 2) := by decide +kernel
theorem dX7_sides_48 : decode cX7_sides 48 = .ok (.iload 5, 2) := by decide +kernel
theorem dX7_sides_50 : decode cX7_sides 50 = .ok (.iconst 1, 1) := by decide +kernel
theorem dX7_sides_51 : decode cX7_sides 51 = .ok (.aload_n 0, 1) := by decide +kernel
theorem dX7_sides_52 : decode cX7_sides 52 = .ok (.getfield 62, 3) := by decide +kernel
theorem dX7_sides_55 : decode cX7_sides 55 = .ok (.ishl, 1) := by decide +kernel
theorem dX7_sides_56 : decode cX7_sides 56 = .ok (.if_icmp .ge 44, 3) := by decide +kernel
theorem dX7_sides_59 : decode cX7_sides 59 = .ok (.iconst 2, 1) := by decide +kernel
theorem dX7_sides_60 : decode cX7_sides 60 = .ok (.aload_n 0, 1) := by decide +kernel
theorem dX7_sides_61 : decode cX7_sides 61 = .ok (.iload 5, 2) := by decide +kernel
theorem dX7_sides_63 : decode cX7_sides 63 = .ok (.invokevirtual 249, 3) := by decide +kernel
theorem dX7_sides_66 : decode cX7_sides 66 = .ok (.imul, 1) := by decide +kernel
theorem dX7_sides_67 : decode cX7_sides 67 = .ok (.iload_n 2, 1) := by decide +kernel
theorem dX7_sides_68 : decode cX7_sides 68 = .ok (.invokestatic 252, 3) := by decide +kernel
theorem dX7_sides_71 : decode cX7_sides 71 = .ok (.istore 6, 2) := by decide +kernel
theorem dX7_sides_73 : decode cX7_sides 73 = .ok (.iload_n 3, 1) := by decide +kernel
theorem dX7_sides_74 : decode cX7_sides 74 = .ok (.ifCond .lt 13, 3) := by decide +kernel
theorem dX7_sides_77 : decode cX7_sides 77 = .ok (.iload 6, 2) := by decide +kernel
theorem dX7_sides_79 : decode cX7_sides 79 = .ok (.iload 4, 2) := by decide +kernel
theorem dX7_sides_81 : decode cX7_sides 81 = .ok (.if_icmp .lt 6, 3) := by decide +kernel
theorem dX7_sides_84 : decode cX7_sides 84 = .ok (.goto 10, 3) := by decide +kernel
theorem dX7_sides_87 : decode cX7_sides 87 = .ok (.iload 5, 2) := by decide +kernel
theorem dX7_sides_89 : decode cX7_sides 89 = .ok (.istore_n 3, 1) := by decide +kernel
theorem dX7_sides_90 : decode cX7_sides 90 = .ok (.iload 6, 2) := by decide +kernel
theorem dX7_sides_92 : decode cX7_sides 92 = .ok (.istore 4, 2) := by decide +kernel
theorem dX7_sides_94 : decode cX7_sides 94 = .ok (.iinc 5 2, 3) := by decide +kernel
theorem dX7_sides_97 : decode cX7_sides 97 = .ok (.goto (-49), 3) := by decide +kernel
theorem dX7_sides_100 : decode cX7_sides 100 = .ok (.iload_n 1, 1) := by decide +kernel
theorem dX7_sides_101 : decode cX7_sides 101 = .ok (.ifCond .ne 7, 3) := by decide +kernel
theorem dX7_sides_104 : decode cX7_sides 104 = .ok (.iload_n 3, 1) := by decide +kernel
theorem dX7_sides_105 : decode cX7_sides 105 = .ok (.goto 5, 3) := by decide +kernel
theorem dX7_sides_108 : decode cX7_sides 108 = .ok (.iload 4, 2) := by decide +kernel
theorem dX7_sides_110 : decode cX7_sides 110 = .ok (.ireturn, 1) := by decide +kernel
theorem dX7_hauledFrom_0 : decode cX7_hauledFrom 0 = .ok (.iconst 0, 1) := by decide +kernel
theorem dX7_hauledFrom_1 : decode cX7_hauledFrom 1 = .ok (.istore_n 2, 1) := by decide +kernel
theorem dX7_hauledFrom_2 : decode cX7_hauledFrom 2 = .ok (.iconst 0, 1) := by decide +kernel
theorem dX7_hauledFrom_3 : decode cX7_hauledFrom 3 = .ok (.istore_n 3, 1) := by decide +kernel
theorem dX7_hauledFrom_4 : decode cX7_hauledFrom 4 = .ok (.iload_n 3, 1) := by decide +kernel
theorem dX7_hauledFrom_5 : decode cX7_hauledFrom 5 = .ok (.bipush 8, 2) := by decide +kernel
theorem dX7_hauledFrom_7 : decode cX7_hauledFrom 7 = .ok (.if_icmp .ge 82, 3) := by decide +kernel
theorem dX7_hauledFrom_10 : decode cX7_hauledFrom 10 = .ok (.iconst 0, 1) := by decide +kernel
theorem dX7_hauledFrom_11 : decode cX7_hauledFrom 11 = .ok (.istore 4, 2) := by decide +kernel
theorem dX7_hauledFrom_13 : decode cX7_hauledFrom 13 = .ok (.iload 4, 2) := by decide +kernel
theorem dX7_hauledFrom_15 : decode cX7_hauledFrom 15 = .ok (.aload_n 0, 1) := by decide +kernel
theorem dX7_hauledFrom_16 : decode cX7_hauledFrom 16 = .ok (.getfield 67, 3) := by decide +kernel
theorem dX7_hauledFrom_19 : decode cX7_hauledFrom 19 = .ok (.if_icmp .ge 64, 3) := by decide +kernel
theorem dX7_hauledFrom_22 : decode cX7_hauledFrom 22 = .ok (.aload_n 0, 1) := by decide +kernel
theorem dX7_hauledFrom_23 : decode cX7_hauledFrom 23 = .ok (.iload 4, 2) := by decide +kernel
theorem dX7_hauledFrom_25 : decode cX7_hauledFrom 25 = .ok (.invokevirtual 179, 3) := by decide +kernel
theorem dX7_hauledFrom_28 : decode cX7_hauledFrom 28 = .ok (.istore 5, 2) := by decide +kernel
theorem dX7_hauledFrom_30 : decode cX7_hauledFrom 30 = .ok (.aload_n 0, 1) := by decide +kernel
theorem dX7_hauledFrom_31 : decode cX7_hauledFrom 31 = .ok (.getfield 28, 3) := by decide +kernel
theorem dX7_hauledFrom_34 : decode cX7_hauledFrom 34 = .ok (.iload 4, 2) := by decide +kernel
theorem dX7_hauledFrom_36 : decode cX7_hauledFrom 36 = .ok (.iaload, 1) := by decide +kernel
theorem dX7_hauledFrom_37 : decode cX7_hauledFrom 37 = .ok (.aload_n 0, 1) := by decide +kernel
theorem dX7_hauledFrom_38 : decode cX7_hauledFrom 38 = .ok (.getfield 31, 3) := by decide +kernel
theorem dX7_hauledFrom_41 : decode cX7_hauledFrom 41 = .ok (.iload 4, 2) := by decide +kernel
theorem dX7_hauledFrom_43 : decode cX7_hauledFrom 43 = .ok (.iaload, 1) := by decide +kernel
theorem dX7_hauledFrom_44 : decode cX7_hauledFrom 44 = .ok (.iadd, 1) := by decide +kernel
theorem dX7_hauledFrom_45 : decode cX7_hauledFrom 45 = .ok (.iload 5, 2) := by decide +kernel
theorem dX7_hauledFrom_47 : decode cX7_hauledFrom 47 = .ok (.isub, 1) := by decide +kernel
theorem dX7_hauledFrom_48 : decode cX7_hauledFrom 48 = .ok (.istore 6, 2) := by decide +kernel
theorem dX7_hauledFrom_50 : decode cX7_hauledFrom 50 = .ok (.iload 5, 2) := by decide +kernel
theorem dX7_hauledFrom_52 : decode cX7_hauledFrom 52 = .ok (.ifCond .lt 25, 3) := by decide +kernel
theorem dX7_hauledFrom_55 : decode cX7_hauledFrom 55 = .ok (.iload 6, 2) := by decide +kernel
theorem dX7_hauledFrom_57 : decode cX7_hauledFrom 57 = .ok (.iload_n 1, 1) := by decide +kernel
theorem dX7_hauledFrom_58 : decode cX7_hauledFrom 58 = .ok (.if_icmp .eq 12, 3) := by decide +kernel
theorem dX7_hauledFrom_61 : decode cX7_hauledFrom 61 = .ok (.iload_n 2, 1) := by decide +kernel
theorem dX7_hauledFrom_62 : decode cX7_hauledFrom 62 = .ok (.iload 6, 2) := by decide +kernel
theorem dX7_hauledFrom_64 : decode cX7_hauledFrom 64 = .ok (.invokestatic 243, 3) := by decide +kernel
theorem dX7_hauledFrom_67 : decode cX7_hauledFrom 67 = .ok (.ifCond .eq 10, 3) := by decide +kernel
theorem dX7_hauledFrom_70 : decode cX7_hauledFrom 70 = .ok (.iload_n 2, 1) := by decide +kernel
theorem dX7_hauledFrom_71 : decode cX7_hauledFrom 71 = .ok (.iconst 1, 1) := by decide +kernel
theorem dX7_hauledFrom_72 : decode cX7_hauledFrom 72 = .ok (.iload 5, 2) := by decide +kernel
theorem dX7_hauledFrom_74 : decode cX7_hauledFrom 74 = .ok (.ishl, 1) := by decide +kernel
theorem dX7_hauledFrom_75 : decode cX7_hauledFrom 75 = .ok (.ior, 1) := by decide +kernel
theorem dX7_hauledFrom_76 : decode cX7_hauledFrom 76 = .ok (.istore_n 2, 1) := by decide +kernel
theorem dX7_hauledFrom_77 : decode cX7_hauledFrom 77 = .ok (.iinc 4 1, 3) := by decide +kernel
theorem dX7_hauledFrom_80 : decode cX7_hauledFrom 80 = .ok (.goto (-67), 3) := by decide +kernel
theorem dX7_hauledFrom_83 : decode cX7_hauledFrom 83 = .ok (.iinc 3 1, 3) := by decide +kernel
theorem dX7_hauledFrom_86 : decode cX7_hauledFrom 86 = .ok (.goto (-82), 3) := by decide +kernel
theorem dX7_hauledFrom_89 : decode cX7_hauledFrom 89 = .ok (.iload_n 2, 1) := by decide +kernel
theorem dX7_hauledFrom_90 : decode cX7_hauledFrom 90 = .ok (.ireturn, 1) := by decide +kernel
theorem dX7_hauled_0 : decode cX7_hauled 0 = .ok (.aload_n 0, 1) := by decide +kernel
theorem dX7_hauled_1 : decode cX7_hauled 1 = .ok (.iload_n 1, 1) := by decide +kernel
theorem dX7_hauled_2 : decode cX7_hauled 2 = .ok (.iload_n 2, 1) := by decide +kernel
theorem dX7_hauled_3 : decode cX7_hauled 3 = .ok (.invokevirtual 112, 3) := by decide +kernel
theorem dX7_hauled_6 : decode cX7_hauled 6 = .ok (.ifCond .eq 15, 3) := by decide +kernel
theorem dX7_hauled_9 : decode cX7_hauled 9 = .ok (.aload_n 0, 1) := by decide +kernel
theorem dX7_hauled_10 : decode cX7_hauled 10 = .ok (.iload_n 1, 1) := by decide +kernel
theorem dX7_hauled_11 : decode cX7_hauled 11 = .ok (.invokevirtual 258, 3) := by decide +kernel
theorem dX7_hauled_14 : decode cX7_hauled 14 = .ok (.iload_n 2, 1) := by decide +kernel
theorem dX7_hauled_15 : decode cX7_hauled 15 = .ok (.ishr, 1) := by decide +kernel
theorem dX7_hauled_16 : decode cX7_hauled 16 = .ok (.iconst 1, 1) := by decide +kernel
theorem dX7_hauled_17 : decode cX7_hauled 17 = .ok (.iand, 1) := by decide +kernel
theorem dX7_hauled_18 : decode cX7_hauled 18 = .ok (.goto 8, 3) := by decide +kernel
theorem dX7_hauled_21 : decode cX7_hauled 21 = .ok (.aload_n 0, 1) := by decide +kernel
theorem dX7_hauled_22 : decode cX7_hauled 22 = .ok (.iconst (-1), 1) := by decide +kernel
theorem dX7_hauled_23 : decode cX7_hauled 23 = .ok (.invokevirtual 81, 3) := by decide +kernel
theorem dX7_hauled_26 : decode cX7_hauled 26 = .ok (.ireturn, 1) := by decide +kernel
theorem dX7_top_0 : decode cX7_top 0 = .ok (.aload_n 0, 1) := by decide +kernel
theorem dX7_top_1 : decode cX7_top 1 = .ok (.iload_n 1, 1) := by decide +kernel
theorem dX7_top_2 : decode cX7_top 2 = .ok (.invokevirtual 70, 3) := by decide +kernel
theorem dX7_top_5 : decode cX7_top 5 = .ok (.ifCond .ne 9, 3) := by decide +kernel
theorem dX7_top_8 : decode cX7_top 8 = .ok (.aload_n 0, 1) := by decide +kernel
theorem dX7_top_9 : decode cX7_top 9 = .ok (.iconst (-1), 1) := by decide +kernel
theorem dX7_top_10 : decode cX7_top 10 = .ok (.invokevirtual 81, 3) := by decide +kernel
theorem dX7_top_13 : decode cX7_top 13 = .ok (.ireturn, 1) := by decide +kernel
theorem dX7_top_14 : decode cX7_top 14 = .ok (.aload_n 0, 1) := by decide +kernel
theorem dX7_top_15 : decode cX7_top 15 = .ok (.iload_n 1, 1) := by decide +kernel
theorem dX7_top_16 : decode cX7_top 16 = .ok (.invokevirtual 258, 3) := by decide +kernel
theorem dX7_top_19 : decode cX7_top 19 = .ok (.istore_n 2, 1) := by decide +kernel
theorem dX7_top_20 : decode cX7_top 20 = .ok (.iload_n 1, 1) := by decide +kernel
theorem dX7_top_21 : decode cX7_top 21 = .ok (.istore_n 3, 1) := by decide +kernel
theorem dX7_top_22 : decode cX7_top 22 = .ok (.bipush 7, 2) := by decide +kernel
theorem dX7_top_24 : decode cX7_top 24 = .ok (.istore 4, 2) := by decide +kernel
theorem dX7_top_26 : decode cX7_top 26 = .ok (.iload 4, 2) := by decide +kernel
theorem dX7_top_28 : decode cX7_top 28 = .ok (.ifCond .lt 39, 3) := by decide +kernel
theorem dX7_top_31 : decode cX7_top 31 = .ok (.iload_n 2, 1) := by decide +kernel
theorem dX7_top_32 : decode cX7_top 32 = .ok (.iload 4, 2) := by decide +kernel
theorem dX7_top_34 : decode cX7_top 34 = .ok (.invokestatic 243, 3) := by decide +kernel
theorem dX7_top_37 : decode cX7_top 37 = .ok (.ifCond .eq 22, 3) := by decide +kernel
theorem dX7_top_40 : decode cX7_top 40 = .ok (.aload_n 0, 1) := by decide +kernel
theorem dX7_top_41 : decode cX7_top 41 = .ok (.iload 4, 2) := by decide +kernel
theorem dX7_top_43 : decode cX7_top 43 = .ok (.invokevirtual 176, 3) := by decide +kernel
theorem dX7_top_46 : decode cX7_top 46 = .ok (.aload_n 0, 1) := by decide +kernel
theorem dX7_top_47 : decode cX7_top 47 = .ok (.iload_n 3, 1) := by decide +kernel
theorem dX7_top_48 : decode cX7_top 48 = .ok (.invokevirtual 176, 3) := by decide +kernel
theorem dX7_top_51 : decode cX7_top 51 = .ok (.if_icmp .lt 8, 3) := by decide +kernel
theorem dX7_top_54 : decode cX7_top 54 = .ok (.iload 4, 2) := by decide +kernel
theorem dX7_top_56 : decode cX7_top 56 = .ok (.goto 4, 3) := by decide +kernel
theorem dX7_top_59 : decode cX7_top 59 = .ok (.iload_n 3, 1) := by decide +kernel
theorem dX7_top_60 : decode cX7_top 60 = .ok (.istore_n 3, 1) := by decide +kernel
theorem dX7_top_61 : decode cX7_top 61 = .ok (.iinc 4 (-1), 3) := by decide +kernel
theorem dX7_top_64 : decode cX7_top 64 = .ok (.goto (-38), 3) := by decide +kernel
theorem dX7_top_67 : decode cX7_top 67 = .ok (.iload_n 3, 1) := by decide +kernel
theorem dX7_top_68 : decode cX7_top 68 = .ok (.ireturn, 1) := by decide +kernel
theorem dX7_odd_0 : decode cX7_odd 0 = .ok (.iconst 0, 1) := by decide +kernel
theorem dX7_odd_1 : decode cX7_odd 1 = .ok (.istore_n 1, 1) := by decide +kernel
theorem dX7_odd_2 : decode cX7_odd 2 = .ok (.iconst 0, 1) := by decide +kernel
theorem dX7_odd_3 : decode cX7_odd 3 = .ok (.istore_n 2, 1) := by decide +kernel
theorem dX7_odd_4 : decode cX7_odd 4 = .ok (.iload_n 2, 1) := by decide +kernel
theorem dX7_odd_5 : decode cX7_odd 5 = .ok (.aload_n 0, 1) := by decide +kernel
theorem dX7_odd_6 : decode cX7_odd 6 = .ok (.getfield 67, 3) := by decide +kernel
theorem dX7_odd_9 : decode cX7_odd 9 = .ok (.if_icmp .ge 27, 3) := by decide +kernel
theorem dX7_odd_12 : decode cX7_odd 12 = .ok (.iload_n 1, 1) := by decide +kernel
theorem dX7_odd_13 : decode cX7_odd 13 = .ok (.aload_n 0, 1) := by decide +kernel
theorem dX7_odd_14 : decode cX7_odd 14 = .ok (.iload_n 2, 1) := by decide +kernel
theorem dX7_odd_15 : decode cX7_odd 15 = .ok (.invokevirtual 179, 3) := by decide +kernel
theorem dX7_odd_18 : decode cX7_odd 18 = .ok (.ifCond .ge 9, 3) := by decide +kernel
theorem dX7_odd_21 : decode cX7_odd 21 = .ok (.iconst 1, 1) := by decide +kernel
theorem dX7_odd_22 : decode cX7_odd 22 = .ok (.iload_n 2, 1) := by decide +kernel
theorem dX7_odd_23 : decode cX7_odd 23 = .ok (.ishl, 1) := by decide +kernel
theorem dX7_odd_24 : decode cX7_odd 24 = .ok (.goto 4, 3) := by decide +kernel
theorem dX7_odd_27 : decode cX7_odd 27 = .ok (.iconst 0, 1) := by decide +kernel
theorem dX7_odd_28 : decode cX7_odd 28 = .ok (.ior, 1) := by decide +kernel
theorem dX7_odd_29 : decode cX7_odd 29 = .ok (.istore_n 1, 1) := by decide +kernel
theorem dX7_odd_30 : decode cX7_odd 30 = .ok (.iinc 2 1, 3) := by decide +kernel
theorem dX7_odd_33 : decode cX7_odd 33 = .ok (.goto (-29), 3) := by decide +kernel
theorem dX7_odd_36 : decode cX7_odd 36 = .ok (.iload_n 1, 1) := by decide +kernel
theorem dX7_odd_37 : decode cX7_odd 37 = .ok (.ireturn, 1) := by decide +kernel
theorem dX7_meet_0 : decode cX7_meet 0 = .ok (.aload_n 0, 1) := by decide +kernel
theorem dX7_meet_1 : decode cX7_meet 1 = .ok (.iload_n 1, 1) := by decide +kernel
theorem dX7_meet_2 : decode cX7_meet 2 = .ok (.iload_n 2, 1) := by decide +kernel
theorem dX7_meet_3 : decode cX7_meet 3 = .ok (.invokevirtual 112, 3) := by decide +kernel
theorem dX7_meet_6 : decode cX7_meet 6 = .ok (.ifCond .ne 9, 3) := by decide +kernel
theorem dX7_meet_9 : decode cX7_meet 9 = .ok (.aload_n 0, 1) := by decide +kernel
theorem dX7_meet_10 : decode cX7_meet 10 = .ok (.iconst (-1), 1) := by decide +kernel
theorem dX7_meet_11 : decode cX7_meet 11 = .ok (.invokevirtual 81, 3) := by decide +kernel
theorem dX7_meet_14 : decode cX7_meet 14 = .ok (.ireturn, 1) := by decide +kernel
theorem dX7_meet_15 : decode cX7_meet 15 = .ok (.aload_n 0, 1) := by decide +kernel
theorem dX7_meet_16 : decode cX7_meet 16 = .ok (.invokevirtual 201, 3) := by decide +kernel
theorem dX7_meet_19 : decode cX7_meet 19 = .ok (.bipush (-9), 2) := by decide +kernel
theorem dX7_meet_21 : decode cX7_meet 21 = .ok (.istore_n 3, 1) := by decide +kernel
theorem dX7_meet_22 : decode cX7_meet 22 = .ok (.iconst 0, 1) := by decide +kernel
theorem dX7_meet_23 : decode cX7_meet 23 = .ok (.istore 4, 2) := by decide +kernel
theorem dX7_meet_25 : decode cX7_meet 25 = .ok (.iload 4, 2) := by decide +kernel
theorem dX7_meet_27 : decode cX7_meet 27 = .ok (.bipush 99, 2) := by decide +kernel
theorem dX7_meet_29 : decode cX7_meet 29 = .ok (.if_icmp .gt 40, 3) := by decide +kernel
theorem dX7_meet_32 : decode cX7_meet 32 = .ok (.iload_n 3, 1) := by decide +kernel
theorem dX7_meet_33 : decode cX7_meet 33 = .ok (.ifCond .ge 36, 3) := by decide +kernel
theorem dX7_meet_36 : decode cX7_meet 36 = .ok (.aload_n 0, 1) := by decide +kernel
theorem dX7_meet_37 : decode cX7_meet 37 = .ok (.getfield 25, 3) := by decide +kernel
theorem dX7_meet_40 : decode cX7_meet 40 = .ok (.iload_n 1, 1) := by decide +kernel
theorem dX7_meet_41 : decode cX7_meet 41 = .ok (.iaload, 1) := by decide +kernel
theorem dX7_meet_42 : decode cX7_meet 42 = .ok (.aload_n 0, 1) := by decide +kernel
theorem dX7_meet_43 : decode cX7_meet 43 = .ok (.getfield 25, 3) := by decide +kernel
theorem dX7_meet_46 : decode cX7_meet 46 = .ok (.iload_n 2, 1) := by decide +kernel
theorem dX7_meet_47 : decode cX7_meet 47 = .ok (.iaload, 1) := by decide +kernel
theorem dX7_meet_48 : decode cX7_meet 48 = .ok (.if_icmp .ne 8, 3) := by decide +kernel
theorem dX7_meet_51 : decode cX7_meet 51 = .ok (.iload 4, 2) := by decide +kernel
theorem dX7_meet_53 : decode cX7_meet 53 = .ok (.goto 5, 3) := by decide +kernel
theorem dX7_meet_56 : decode cX7_meet 56 = .ok (.bipush (-9), 2) := by decide +kernel
theorem dX7_meet_58 : decode cX7_meet 58 = .ok (.istore_n 3, 1) := by decide +kernel
theorem dX7_meet_59 : decode cX7_meet 59 = .ok (.aload_n 0, 1) := by decide +kernel
theorem dX7_meet_60 : decode cX7_meet 60 = .ok (.invokevirtual 188, 3) := by decide +kernel
theorem dX7_meet_63 : decode cX7_meet 63 = .ok (.iinc 4 1, 3) := by decide +kernel
theorem dX7_meet_66 : decode cX7_meet 66 = .ok (.goto (-41), 3) := by decide +kernel
theorem dX7_meet_69 : decode cX7_meet 69 = .ok (.aload_n 0, 1) := by decide +kernel
theorem dX7_meet_70 : decode cX7_meet 70 = .ok (.invokevirtual 204, 3) := by decide +kernel
theorem dX7_meet_73 : decode cX7_meet 73 = .ok (.iload_n 3, 1) := by decide +kernel
theorem dX7_meet_74 : decode cX7_meet 74 = .ok (.ireturn, 1) := by decide +kernel
theorem dX7_findHigher_0 : decode cX7_findHigher 0 = .ok (.iconst 0, 1) := by decide +kernel
theorem dX7_findHigher_1 : decode cX7_findHigher 1 = .ok (.istore 4, 2) := by decide +kernel
theorem dX7_findHigher_3 : decode cX7_findHigher 3 = .ok (.iload 4, 2) := by decide +kernel
theorem dX7_findHigher_5 : decode cX7_findHigher 5 = .ok (.iconst 4, 1) := by decide +kernel
theorem dX7_findHigher_6 : decode cX7_findHigher 6 = .ok (.if_icmp .ge 92, 3) := by decide +kernel
theorem dX7_findHigher_9 : decode cX7_findHigher 9 = .ok (.aload_n 0, 1) := by decide +kernel
theorem dX7_findHigher_10 : decode cX7_findHigher 10 = .ok (.invokevirtual 201, 3) := by decide +kernel
theorem dX7_findHigher_13 : decode cX7_findHigher 13 = .ok (.aload_n 0, 1) := by decide +kernel
theorem dX7_findHigher_14 : decode cX7_findHigher 14 = .ok (.getfield 22, 3) := by decide +kernel
theorem dX7_findHigher_17 : decode cX7_findHigher 17 = .ok (.iload_n 1, 1) := by decide +kernel
theorem dX7_findHigher_18 : decode cX7_findHigher 18 = .ok (.aload_n 0, 1) := by decide +kernel
theorem dX7_findHigher_19 : decode cX7_findHigher 19 = .ok (.getfield 22, 3) := by decide +kernel
theorem dX7_findHigher_22 : decode cX7_findHigher 22 = .ok (.iload_n 1, 1) := by decide +kernel
theorem dX7_findHigher_23 : decode cX7_findHigher 23 = .ok (.iaload, 1) := by decide +kernel
theorem dX7_findHigher_24 : decode cX7_findHigher 24 = .ok (.iconst 2, 1) := by decide +kernel
theorem dX7_findHigher_25 : decode cX7_findHigher 25 = .ok (.iload 4, 2) := by decide +kernel
theorem dX7_findHigher_27 : decode cX7_findHigher 27 = .ok (.iconst 2, 1) := by decide +kernel
theorem dX7_findHigher_28 : decode cX7_findHigher 28 = .ok (.idiv, 1) := by decide +kernel
theorem dX7_findHigher_29 : decode cX7_findHigher 29 = .ok (.imul, 1) := by decide +kernel
theorem dX7_findHigher_30 : decode cX7_findHigher 30 = .ok (.iadd, 1) := by decide +kernel
theorem dX7_findHigher_31 : decode cX7_findHigher 31 = .ok (.iconst 0, 1) := by decide +kernel
theorem dX7_findHigher_32 : decode cX7_findHigher 32 = .ok (.bipush 9, 2) := by decide +kernel
theorem dX7_findHigher_34 : decode cX7_findHigher 34 = .ok (.invokestatic 182, 3) := by decide +kernel
theorem dX7_findHigher_37 : decode cX7_findHigher 37 = .ok (.iastore, 1) := by decide +kernel
theorem dX7_findHigher_38 : decode cX7_findHigher 38 = .ok (.aload_n 0, 1) := by decide +kernel
theorem dX7_findHigher_39 : decode cX7_findHigher 39 = .ok (.getfield 22, 3) := by decide +kernel
theorem dX7_findHigher_42 : decode cX7_findHigher 42 = .ok (.iload_n 2, 1) := by decide +kernel
theorem dX7_findHigher_43 : decode cX7_findHigher 43 = .ok (.aload_n 0, 1) := by decide +kernel
theorem dX7_findHigher_44 : decode cX7_findHigher 44 = .ok (.getfield 22, 3) := by decide +kernel
theorem dX7_findHigher_47 : decode cX7_findHigher 47 = .ok (.iload_n 2, 1) := by decide +kernel
theorem dX7_findHigher_48 : decode cX7_findHigher 48 = .ok (.iaload, 1) := by decide +kernel
theorem dX7_findHigher_49 : decode cX7_findHigher 49 = .ok (.iconst 2, 1) := by decide +kernel
theorem dX7_findHigher_50 : decode cX7_findHigher 50 = .ok (.iload 4, 2) := by decide +kernel
theorem dX7_findHigher_52 : decode cX7_findHigher 52 = .ok (.iconst 2, 1) := by decide +kernel
theorem dX7_findHigher_53 : decode cX7_findHigher 53 = .ok (.irem, 1) := by decide +kernel
theorem dX7_findHigher_54 : decode cX7_findHigher 54 = .ok (.imul, 1) := by decide +kernel
theorem dX7_findHigher_55 : decode cX7_findHigher 55 = .ok (.iadd, 1) := by decide +kernel
theorem dX7_findHigher_56 : decode cX7_findHigher 56 = .ok (.iconst 0, 1) := by decide +kernel
theorem dX7_findHigher_57 : decode cX7_findHigher 57 = .ok (.bipush 9, 2) := by decide +kernel
theorem dX7_findHigher_59 : decode cX7_findHigher 59 = .ok (.invokestatic 182, 3) := by decide +kernel
theorem dX7_findHigher_62 : decode cX7_findHigher 62 = .ok (.iastore, 1) := by decide +kernel
theorem dX7_findHigher_63 : decode cX7_findHigher 63 = .ok (.aload_n 0, 1) := by decide +kernel
theorem dX7_findHigher_64 : decode cX7_findHigher 64 = .ok (.iload_n 3, 1) := by decide +kernel
theorem dX7_findHigher_65 : decode cX7_findHigher 65 = .ok (.invokevirtual 122, 3) := by decide +kernel
theorem dX7_findHigher_68 : decode cX7_findHigher 68 = .ok (.aload_n 0, 1) := by decide +kernel
theorem dX7_findHigher_69 : decode cX7_findHigher 69 = .ok (.getfield 56, 3) := by decide +kernel
theorem dX7_findHigher_72 : decode cX7_findHigher 72 = .ok (.iload 4, 2) := by decide +kernel
theorem dX7_findHigher_74 : decode cX7_findHigher 74 = .ok (.aload_n 0, 1) := by decide +kernel
theorem dX7_findHigher_75 : decode cX7_findHigher 75 = .ok (.getfield 25, 3) := by decide +kernel
theorem dX7_findHigher_78 : decode cX7_findHigher 78 = .ok (.iload_n 1, 1) := by decide +kernel
theorem dX7_findHigher_79 : decode cX7_findHigher 79 = .ok (.iaload, 1) := by decide +kernel
theorem dX7_findHigher_80 : decode cX7_findHigher 80 = .ok (.aload_n 0, 1) := by decide +kernel
theorem dX7_findHigher_81 : decode cX7_findHigher 81 = .ok (.getfield 25, 3) := by decide +kernel
theorem dX7_findHigher_84 : decode cX7_findHigher 84 = .ok (.iload_n 2, 1) := by decide +kernel
theorem dX7_findHigher_85 : decode cX7_findHigher 85 = .ok (.iaload, 1) := by decide +kernel
theorem dX7_findHigher_86 : decode cX7_findHigher 86 = .ok (.isub, 1) := by decide +kernel
theorem dX7_findHigher_87 : decode cX7_findHigher 87 = .ok (.iastore, 1) := by decide +kernel
theorem dX7_findHigher_88 : decode cX7_findHigher 88 = .ok (.aload_n 0, 1) := by decide +kernel
theorem dX7_findHigher_89 : decode cX7_findHigher 89 = .ok (.invokevirtual 204, 3) := by decide +kernel
theorem dX7_findHigher_92 : decode cX7_findHigher 92 = .ok (.iinc 4 1, 3) := by decide +kernel
theorem dX7_findHigher_95 : decode cX7_findHigher 95 = .ok (.goto (-92), 3) := by decide +kernel
theorem dX7_findHigher_98 : decode cX7_findHigher 98 = .ok (.return_, 1) := by decide +kernel
theorem dX7_two_0 : decode cX7_two 0 = .ok (.aload_n 0, 1) := by decide +kernel
theorem dX7_two_1 : decode cX7_two 1 = .ok (.iload_n 1, 1) := by decide +kernel
theorem dX7_two_2 : decode cX7_two 2 = .ok (.iload_n 2, 1) := by decide +kernel
theorem dX7_two_3 : decode cX7_two 3 = .ok (.invokevirtual 112, 3) := by decide +kernel
theorem dX7_two_6 : decode cX7_two 6 = .ok (.ifCond .ne 7, 3) := by decide +kernel
theorem dX7_two_9 : decode cX7_two 9 = .ok (.iconst (-1), 1) := by decide +kernel
theorem dX7_two_10 : decode cX7_two 10 = .ok (.goto 10, 3) := by decide +kernel
theorem dX7_two_13 : decode cX7_two 13 = .ok (.iload_n 3, 1) := by decide +kernel
theorem dX7_two_14 : decode cX7_two 14 = .ok (.iconst 0, 1) := by decide +kernel
theorem dX7_two_15 : decode cX7_two 15 = .ok (.bipush 30, 2) := by decide +kernel
theorem dX7_two_17 : decode cX7_two 17 = .ok (.invokestatic 74, 3) := by decide +kernel
theorem dX7_two_20 : decode cX7_two 20 = .ok (.istore 4, 2) := by decide +kernel
theorem dX7_two_22 : decode cX7_two 22 = .ok (.iload 4, 2) := by decide +kernel
theorem dX7_two_24 : decode cX7_two 24 = .ok (.ifCond .eq 10, 3) := by decide +kernel
theorem dX7_two_27 : decode cX7_two 27 = .ok (.aload_n 0, 1) := by decide +kernel
theorem dX7_two_28 : decode cX7_two 28 = .ok (.iload 4, 2) := by decide +kernel
theorem dX7_two_30 : decode cX7_two 30 = .ok (.invokevirtual 81, 3) := by decide +kernel
theorem dX7_two_33 : decode cX7_two 33 = .ok (.ireturn, 1) := by decide +kernel
theorem dX7_two_34 : decode cX7_two 34 = .ok (.aload_n 0, 1) := by decide +kernel
theorem dX7_two_35 : decode cX7_two 35 = .ok (.iload_n 1, 1) := by decide +kernel
theorem dX7_two_36 : decode cX7_two 36 = .ok (.iload_n 2, 1) := by decide +kernel
theorem dX7_two_37 : decode cX7_two 37 = .ok (.iload_n 3, 1) := by decide +kernel
theorem dX7_two_38 : decode cX7_two 38 = .ok (.invokevirtual 261, 3) := by decide +kernel
theorem dX7_two_41 : decode cX7_two 41 = .ok (.iconst 0, 1) := by decide +kernel
theorem dX7_two_42 : decode cX7_two 42 = .ok (.istore 5, 2) := by decide +kernel
theorem dX7_two_44 : decode cX7_two 44 = .ok (.iload 5, 2) := by decide +kernel
theorem dX7_two_46 : decode cX7_two 46 = .ok (.iconst 4, 1) := by decide +kernel
theorem dX7_two_47 : decode cX7_two 47 = .ok (.if_icmp .ge 60, 3) := by decide +kernel
theorem dX7_two_50 : decode cX7_two 50 = .ok (.aload_n 0, 1) := by decide +kernel
theorem dX7_two_51 : decode cX7_two 51 = .ok (.getfield 56, 3) := by decide +kernel
theorem dX7_two_54 : decode cX7_two 54 = .ok (.iload 5, 2) := by decide +kernel
theorem dX7_two_56 : decode cX7_two 56 = .ok (.iconst 2, 1) := by decide +kernel
theorem dX7_two_57 : decode cX7_two 57 = .ok (.ixor, 1) := by decide +kernel
theorem dX7_two_58 : decode cX7_two 58 = .ok (.iaload, 1) := by decide +kernel
theorem dX7_two_59 : decode cX7_two 59 = .ok (.aload_n 0, 1) := by decide +kernel
theorem dX7_two_60 : decode cX7_two 60 = .ok (.getfield 56, 3) := by decide +kernel
theorem dX7_two_63 : decode cX7_two 63 = .ok (.iload 5, 2) := by decide +kernel
theorem dX7_two_65 : decode cX7_two 65 = .ok (.iaload, 1) := by decide +kernel
theorem dX7_two_66 : decode cX7_two 66 = .ok (.if_icmp .gt 35, 3) := by decide +kernel
theorem dX7_two_69 : decode cX7_two 69 = .ok (.aload_n 0, 1) := by decide +kernel
theorem dX7_two_70 : decode cX7_two 70 = .ok (.getfield 56, 3) := by decide +kernel
theorem dX7_two_73 : decode cX7_two 73 = .ok (.iload 5, 2) := by decide +kernel
theorem dX7_two_75 : decode cX7_two 75 = .ok (.iconst 1, 1) := by decide +kernel
theorem dX7_two_76 : decode cX7_two 76 = .ok (.ixor, 1) := by decide +kernel
theorem dX7_two_77 : decode cX7_two 77 = .ok (.iaload, 1) := by decide +kernel
theorem dX7_two_78 : decode cX7_two 78 = .ok (.aload_n 0, 1) := by decide +kernel
theorem dX7_two_79 : decode cX7_two 79 = .ok (.getfield 56, 3) := by decide +kernel
theorem dX7_two_82 : decode cX7_two 82 = .ok (.iload 5, 2) := by decide +kernel
theorem dX7_two_84 : decode cX7_two 84 = .ok (.iaload, 1) := by decide +kernel
theorem dX7_two_85 : decode cX7_two 85 = .ok (.if_icmp .lt 16, 3) := by decide +kernel
theorem dX7_two_88 : decode cX7_two 88 = .ok (.bipush 10, 2) := by decide +kernel
theorem dX7_two_90 : decode cX7_two 90 = .ok (.iload 5, 2) := by decide +kernel
theorem dX7_two_92 : decode cX7_two 92 = .ok (.iconst 2, 1) := by decide +kernel
theorem dX7_two_93 : decode cX7_two 93 = .ok (.idiv, 1) := by decide +kernel
theorem dX7_two_94 : decode cX7_two 94 = .ok (.imul, 1) := by decide +kernel
theorem dX7_two_95 : decode cX7_two 95 = .ok (.iload 5, 2) := by decide +kernel
theorem dX7_two_97 : decode cX7_two 97 = .ok (.iconst 2, 1) := by decide +kernel
theorem dX7_two_98 : decode cX7_two 98 = .ok (.irem, 1) := by decide +kernel
theorem dX7_two_99 : decode cX7_two 99 = .ok (.iadd, 1) := by decide +kernel
theorem dX7_two_100 : decode cX7_two 100 = .ok (.ireturn, 1) := by decide +kernel
theorem dX7_two_101 : decode cX7_two 101 = .ok (.iinc 5 1, 3) := by decide +kernel
theorem dX7_two_104 : decode cX7_two 104 = .ok (.goto (-60), 3) := by decide +kernel
theorem dX7_two_107 : decode cX7_two 107 = .ok (.bipush (-9), 2) := by decide +kernel
theorem dX7_two_109 : decode cX7_two 109 = .ok (.ireturn, 1) := by decide +kernel
theorem dX7_divisor_0 : decode cX7_divisor 0 = .ok (.lload_n 0, 1) := by decide +kernel
theorem dX7_divisor_1 : decode cX7_divisor 1 = .ok (.lstore 4, 2) := by decide +kernel
theorem dX7_divisor_3 : decode cX7_divisor 3 = .ok (.lload_n 2, 1) := by decide +kernel
theorem dX7_divisor_4 : decode cX7_divisor 4 = .ok (.lstore 6, 2) := by decide +kernel
theorem dX7_divisor_6 : decode cX7_divisor 6 = .ok (.lload 6, 2) := by decide +kernel
theorem dX7_divisor_8 : decode cX7_divisor 8 = .ok (.lconst 0, 1) := by decide +kernel
theorem dX7_divisor_9 : decode cX7_divisor 9 = .ok (.lcmp, 1) := by decide +kernel
theorem dX7_divisor_10 : decode cX7_divisor 10 = .ok (.ifCond .eq 21, 3) := by decide +kernel
theorem dX7_divisor_13 : decode cX7_divisor 13 = .ok (.lload 4, 2) := by decide +kernel
theorem dX7_divisor_15 : decode cX7_divisor 15 = .ok (.lload 6, 2) := by decide +kernel
theorem dX7_divisor_17 : decode cX7_divisor 17 = .ok (.lrem, 1) := by decide +kernel
theorem dX7_divisor_18 : decode cX7_divisor 18 = .ok (.lstore 8, 2) := by decide +kernel
theorem dX7_divisor_20 : decode cX7_divisor 20 = .ok (.lload 6, 2) := by decide +kernel
theorem dX7_divisor_22 : decode cX7_divisor 22 = .ok (.lstore 4, 2) := by decide +kernel
theorem dX7_divisor_24 : decode cX7_divisor 24 = .ok (.lload 8, 2) := by decide +kernel
theorem dX7_divisor_26 : decode cX7_divisor 26 = .ok (.lstore 6, 2) := by decide +kernel
theorem dX7_divisor_28 : decode cX7_divisor 28 = .ok (.goto (-22), 3) := by decide +kernel
theorem dX7_divisor_31 : decode cX7_divisor 31 = .ok (.lload 4, 2) := by decide +kernel
theorem dX7_divisor_33 : decode cX7_divisor 33 = .ok (.lreturn, 1) := by decide +kernel
theorem dX7_partOf_0 : decode cX7_partOf 0 = .ok (.iload 4, 2) := by decide +kernel
theorem dX7_partOf_2 : decode cX7_partOf 2 = .ok (.ifCond .ne 7, 3) := by decide +kernel
theorem dX7_partOf_5 : decode cX7_partOf 5 = .ok (.lload_n 0, 1) := by decide +kernel
theorem dX7_partOf_6 : decode cX7_partOf 6 = .ok (.goto 4, 3) := by decide +kernel
theorem dX7_partOf_9 : decode cX7_partOf 9 = .ok (.lload_n 2, 1) := by decide +kernel
theorem dX7_partOf_10 : decode cX7_partOf 10 = .ok (.lload_n 0, 1) := by decide +kernel
theorem dX7_partOf_11 : decode cX7_partOf 11 = .ok (.lload_n 2, 1) := by decide +kernel
theorem dX7_partOf_12 : decode cX7_partOf 12 = .ok (.invokestatic 265, 3) := by decide +kernel
theorem dX7_partOf_15 : decode cX7_partOf 15 = .ok (.ldiv, 1) := by decide +kernel
theorem dX7_partOf_16 : decode cX7_partOf 16 = .ok (.lreturn, 1) := by decide +kernel
theorem dX7_wet_0 : decode cX7_wet 0 = .ok (.aload_n 0, 1) := by decide +kernel
theorem dX7_wet_1 : decode cX7_wet 1 = .ok (.iload_n 1, 1) := by decide +kernel
theorem dX7_wet_2 : decode cX7_wet 2 = .ok (.invokevirtual 132, 3) := by decide +kernel
theorem dX7_wet_5 : decode cX7_wet 5 = .ok (.ifCond .eq 11, 3) := by decide +kernel
theorem dX7_wet_8 : decode cX7_wet 8 = .ok (.aload_n 0, 1) := by decide +kernel
theorem dX7_wet_9 : decode cX7_wet 9 = .ok (.iload_n 2, 1) := by decide +kernel
theorem dX7_wet_10 : decode cX7_wet 10 = .ok (.invokevirtual 70, 3) := by decide +kernel
theorem dX7_wet_13 : decode cX7_wet 13 = .ok (.ifCond .ne 7, 3) := by decide +kernel
theorem dX7_wet_16 : decode cX7_wet 16 = .ok (.iconst (-1), 1) := by decide +kernel
theorem dX7_wet_17 : decode cX7_wet 17 = .ok (.goto 64, 3) := by decide +kernel
theorem dX7_wet_20 : decode cX7_wet 20 = .ok (.iload_n 3, 1) := by decide +kernel
theorem dX7_wet_21 : decode cX7_wet 21 = .ok (.ifCond .lt 14, 3) := by decide +kernel
theorem dX7_wet_24 : decode cX7_wet 24 = .ok (.iload 5, 2) := by decide +kernel
theorem dX7_wet_26 : decode cX7_wet 26 = .ok (.ifCond .lt 9, 3) := by decide +kernel
theorem dX7_wet_29 : decode cX7_wet 29 = .ok (.iload 4, 2) := by decide +kernel
theorem dX7_wet_31 : decode cX7_wet 31 = .ok (.iconst 2, 1) := by decide +kernel
theorem dX7_wet_32 : decode cX7_wet 32 = .ok (.if_icmp .ge 8, 3) := by decide +kernel
theorem dX7_wet_35 : decode cX7_wet 35 = .ok (.bipush (-4), 2) := by decide +kernel
theorem dX7_wet_37 : decode cX7_wet 37 = .ok (.goto 44, 3) := by decide +kernel
theorem dX7_wet_40 : decode cX7_wet 40 = .ok (.iload_n 3, 1) := by decide +kernel
theorem dX7_wet_41 : decode cX7_wet 41 = .ok (.bipush 7, 2) := by decide +kernel
theorem dX7_wet_43 : decode cX7_wet 43 = .ok (.if_icmp .gt 17, 3) := by decide +kernel
theorem dX7_wet_46 : decode cX7_wet 46 = .ok (.iload 4, 2) := by decide +kernel
theorem dX7_wet_48 : decode cX7_wet 48 = .ok (.bipush 20, 2) := by decide +kernel
theorem dX7_wet_50 : decode cX7_wet 50 = .ok (.if_icmp .gt 10, 3) := by decide +kernel
theorem dX7_wet_53 : decode cX7_wet 53 = .ok (.iload 5, 2) := by decide +kernel
theorem dX7_wet_55 : decode cX7_wet 55 = .ok (.bipush 20, 2) := by decide +kernel
theorem dX7_wet_57 : decode cX7_wet 57 = .ok (.if_icmp .le 8, 3) := by decide +kernel
theorem dX7_wet_60 : decode cX7_wet 60 = .ok (.bipush (-6), 2) := by decide +kernel
theorem dX7_wet_62 : decode cX7_wet 62 = .ok (.goto 19, 3) := by decide +kernel
theorem dX7_wet_65 : decode cX7_wet 65 = .ok (.iload 6, 2) := by decide +kernel
theorem dX7_wet_67 : decode cX7_wet 67 = .ok (.iconst 0, 1) := by decide +kernel
theorem dX7_wet_68 : decode cX7_wet 68 = .ok (.iconst 1, 1) := by decide +kernel
theorem dX7_wet_69 : decode cX7_wet 69 = .ok (.invokestatic 92, 3) := by decide +kernel
theorem dX7_wet_72 : decode cX7_wet 72 = .ok (.ifCond .ne 8, 3) := by decide +kernel
theorem dX7_wet_75 : decode cX7_wet 75 = .ok (.bipush (-2), 2) := by decide +kernel
theorem dX7_wet_77 : decode cX7_wet 77 = .ok (.goto 4, 3) := by decide +kernel
theorem dX7_wet_80 : decode cX7_wet 80 = .ok (.iconst 0, 1) := by decide +kernel
theorem dX7_wet_81 : decode cX7_wet 81 = .ok (.istore 7, 2) := by decide +kernel
theorem dX7_wet_83 : decode cX7_wet 83 = .ok (.iload 7, 2) := by decide +kernel
theorem dX7_wet_85 : decode cX7_wet 85 = .ok (.ifCond .eq 10, 3) := by decide +kernel
theorem dX7_wet_88 : decode cX7_wet 88 = .ok (.aload_n 0, 1) := by decide +kernel
theorem dX7_wet_89 : decode cX7_wet 89 = .ok (.iload 7, 2) := by decide +kernel
theorem dX7_wet_91 : decode cX7_wet 91 = .ok (.invokevirtual 269, 3) := by decide +kernel
theorem dX7_wet_94 : decode cX7_wet 94 = .ok (.lreturn, 1) := by decide +kernel
theorem dX7_wet_95 : decode cX7_wet 95 = .ok (.lconst 0, 1) := by decide +kernel
theorem dX7_wet_96 : decode cX7_wet 96 = .ok (.lstore 8, 2) := by decide +kernel
theorem dX7_wet_98 : decode cX7_wet 98 = .ok (.lconst 1, 1) := by decide +kernel
theorem dX7_wet_99 : decode cX7_wet 99 = .ok (.lstore 10, 2) := by decide +kernel
theorem dX7_wet_101 : decode cX7_wet 101 = .ok (.iconst 0, 1) := by decide +kernel
theorem dX7_wet_102 : decode cX7_wet 102 = .ok (.istore 12, 2) := by decide +kernel
theorem dX7_wet_104 : decode cX7_wet 104 = .ok (.iload 12, 2) := by decide +kernel
theorem dX7_wet_106 : decode cX7_wet 106 = .ok (.iload_n 3, 1) := by decide +kernel
theorem dX7_wet_107 : decode cX7_wet 107 = .ok (.if_icmp .ge 17, 3) := by decide +kernel
theorem dX7_wet_110 : decode cX7_wet 110 = .ok (.lload 10, 2) := by decide +kernel
theorem dX7_wet_112 : decode cX7_wet 112 = .ok (.iload 4, 2) := by decide +kernel
theorem dX7_wet_114 : decode cX7_wet 114 = .ok (.i2l, 1) := by decide +kernel
theorem dX7_wet_115 : decode cX7_wet 115 = .ok (.lmul, 1) := by decide +kernel
theorem dX7_wet_116 : decode cX7_wet 116 = .ok (.lstore 10, 2) := by decide +kernel
theorem dX7_wet_118 : decode cX7_wet 118 = .ok (.iinc 12 1, 3) := by decide +kernel
theorem dX7_wet_121 : decode cX7_wet 121 = .ok (.goto (-17), 3) := by decide +kernel
theorem dX7_wet_124 : decode cX7_wet 124 = .ok (.iconst 0, 1) := by decide +kernel
theorem dX7_wet_125 : decode cX7_wet 125 = .ok (.istore 12, 2) := by decide +kernel
theorem dX7_wet_127 : decode cX7_wet 127 = .ok (.iload 12, 2) := by decide +kernel
theorem dX7_wet_129 : decode cX7_wet 129 = .ok (.iconst 1, 1) := by decide +kernel
theorem dX7_wet_130 : decode cX7_wet 130 = .ok (.iload_n 3, 1) := by decide +kernel
theorem dX7_wet_131 : decode cX7_wet 131 = .ok (.ishl, 1) := by decide +kernel
theorem dX7_wet_132 : decode cX7_wet 132 = .ok (.if_icmp .ge 111, 3) := by decide +kernel
theorem dX7_wet_135 : decode cX7_wet 135 = .ok (.aload_n 0, 1) := by decide +kernel
theorem dX7_wet_136 : decode cX7_wet 136 = .ok (.invokevirtual 201, 3) := by decide +kernel
theorem dX7_wet_139 : decode cX7_wet 139 = .ok (.lconst 1, 1) := by decide +kernel
theorem dX7_wet_140 : decode cX7_wet 140 = .ok (.lstore 13, 2) := by decide +kernel
theorem dX7_wet_142 : decode cX7_wet 142 = .ok (.iconst 0, 1) := by decide +kernel
theorem dX7_wet_143 : decode cX7_wet 143 = .ok (.istore 15, 2) := by decide +kernel
theorem dX7_wet_145 : decode cX7_wet 145 = .ok (.iload 15, 2) := by decide +kernel
theorem dX7_wet_147 : decode cX7_wet 147 = .ok (.iload_n 3, 1) := by decide +kernel
theorem dX7_wet_148 : decode cX7_wet 148 = .ok (.if_icmp .ge 57, 3) := by decide +kernel
theorem dX7_wet_151 : decode cX7_wet 151 = .ok (.lload 13, 2) := by decide +kernel
theorem dX7_wet_153 : decode cX7_wet 153 = .ok (.iload 12, 2) := by decide +kernel
theorem dX7_wet_155 : decode cX7_wet 155 = .ok (.iload 15, 2) := by decide +kernel
theorem dX7_wet_157 : decode cX7_wet 157 = .ok (.invokestatic 243, 3) := by decide +kernel
theorem dX7_wet_160 : decode cX7_wet 160 = .ok (.ifCond .eq 7, 3) := by decide +kernel
theorem dX7_wet_163 : decode cX7_wet 163 = .ok (.lconst 1, 1) := by decide +kernel
theorem dX7_wet_164 : decode cX7_wet 164 = .ok (.goto 8, 3) := by decide +kernel
theorem dX7_wet_167 : decode cX7_wet 167 = .ok (.iload 4, 2) := by decide +kernel
theorem dX7_wet_169 : decode cX7_wet 169 = .ok (.iconst 1, 1) := by decide +kernel
theorem dX7_wet_170 : decode cX7_wet 170 = .ok (.isub, 1) := by decide +kernel
theorem dX7_wet_171 : decode cX7_wet 171 = .ok (.i2l, 1) := by decide +kernel
theorem dX7_wet_172 : decode cX7_wet 172 = .ok (.lmul, 1) := by decide +kernel
theorem dX7_wet_173 : decode cX7_wet 173 = .ok (.lstore 13, 2) := by decide +kernel
theorem dX7_wet_175 : decode cX7_wet 175 = .ok (.aload_n 0, 1) := by decide +kernel
theorem dX7_wet_176 : decode cX7_wet 176 = .ok (.iload 12, 2) := by decide +kernel
theorem dX7_wet_178 : decode cX7_wet 178 = .ok (.iload 15, 2) := by decide +kernel
theorem dX7_wet_180 : decode cX7_wet 180 = .ok (.invokestatic 243, 3) := by decide +kernel
theorem dX7_wet_183 : decode cX7_wet 183 = .ok (.ifCond .eq 7, 3) := by decide +kernel
theorem dX7_wet_186 : decode cX7_wet 186 = .ok (.iload_n 1, 1) := by decide +kernel
theorem dX7_wet_187 : decode cX7_wet 187 = .ok (.goto 5, 3) := by decide +kernel
theorem dX7_wet_190 : decode cX7_wet 190 = .ok (.bipush (-9), 2) := by decide +kernel
theorem dX7_wet_192 : decode cX7_wet 192 = .ok (.putfield 34, 3) := by decide +kernel
theorem dX7_wet_195 : decode cX7_wet 195 = .ok (.aload_n 0, 1) := by decide +kernel
theorem dX7_wet_196 : decode cX7_wet 196 = .ok (.invokevirtual 188, 3) := by decide +kernel
theorem dX7_wet_199 : decode cX7_wet 199 = .ok (.iinc 15 1, 3) := by decide +kernel
theorem dX7_wet_202 : decode cX7_wet 202 = .ok (.goto (-57), 3) := by decide +kernel
theorem dX7_wet_205 : decode cX7_wet 205 = .ok (.aload_n 0, 1) := by decide +kernel
theorem dX7_wet_206 : decode cX7_wet 206 = .ok (.bipush (-9), 2) := by decide +kernel
theorem dX7_wet_208 : decode cX7_wet 208 = .ok (.putfield 34, 3) := by decide +kernel
theorem dX7_wet_211 : decode cX7_wet 211 = .ok (.lload 8, 2) := by decide +kernel
theorem dX7_wet_213 : decode cX7_wet 213 = .ok (.aload_n 0, 1) := by decide +kernel
theorem dX7_wet_214 : decode cX7_wet 214 = .ok (.getfield 25, 3) := by decide +kernel
theorem dX7_wet_217 : decode cX7_wet 217 = .ok (.iload_n 2, 1) := by decide +kernel
theorem dX7_wet_218 : decode cX7_wet 218 = .ok (.iaload, 1) := by decide +kernel
theorem dX7_wet_219 : decode cX7_wet 219 = .ok (.iload 5, 2) := by decide +kernel
theorem dX7_wet_221 : decode cX7_wet 221 = .ok (.if_icmp .lt 8, 3) := by decide +kernel
theorem dX7_wet_224 : decode cX7_wet 224 = .ok (.lload 13, 2) := by decide +kernel
theorem dX7_wet_226 : decode cX7_wet 226 = .ok (.goto 4, 3) := by decide +kernel
theorem dX7_wet_229 : decode cX7_wet 229 = .ok (.lconst 0, 1) := by decide +kernel
theorem dX7_wet_230 : decode cX7_wet 230 = .ok (.ladd, 1) := by decide +kernel
theorem dX7_wet_231 : decode cX7_wet 231 = .ok (.lstore 8, 2) := by decide +kernel
theorem dX7_wet_233 : decode cX7_wet 233 = .ok (.aload_n 0, 1) := by decide +kernel
theorem dX7_wet_234 : decode cX7_wet 234 = .ok (.invokevirtual 204, 3) := by decide +kernel
theorem dX7_wet_237 : decode cX7_wet 237 = .ok (.iinc 12 1, 3) := by decide +kernel
theorem dX7_wet_240 : decode cX7_wet 240 = .ok (.goto (-113), 3) := by decide +kernel
theorem dX7_wet_243 : decode cX7_wet 243 = .ok (.lload 8, 2) := by decide +kernel
theorem dX7_wet_245 : decode cX7_wet 245 = .ok (.lload 10, 2) := by decide +kernel
theorem dX7_wet_247 : decode cX7_wet 247 = .ok (.iload 6, 2) := by decide +kernel
theorem dX7_wet_249 : decode cX7_wet 249 = .ok (.invokestatic 273, 3) := by decide +kernel
theorem dX7_wet_252 : decode cX7_wet 252 = .ok (.lreturn, 1) := by decide +kernel
theorem dX7_mean_0 : decode cX7_mean 0 = .ok (.iload_n 1, 1) := by decide +kernel
theorem dX7_mean_1 : decode cX7_mean 1 = .ok (.iconst 0, 1) := by decide +kernel
theorem dX7_mean_2 : decode cX7_mean 2 = .ok (.iconst 1, 1) := by decide +kernel
theorem dX7_mean_3 : decode cX7_mean 3 = .ok (.invokestatic 92, 3) := by decide +kernel
theorem dX7_mean_6 : decode cX7_mean 6 = .ok (.ifCond .ne 10, 3) := by decide +kernel
theorem dX7_mean_9 : decode cX7_mean 9 = .ok (.aload_n 0, 1) := by decide +kernel
theorem dX7_mean_10 : decode cX7_mean 10 = .ok (.bipush (-2), 2) := by decide +kernel
theorem dX7_mean_12 : decode cX7_mean 12 = .ok (.invokevirtual 269, 3) := by decide +kernel
theorem dX7_mean_15 : decode cX7_mean 15 = .ok (.lreturn, 1) := by decide +kernel
theorem dX7_mean_16 : decode cX7_mean 16 = .ok (.aload_n 0, 1) := by decide +kernel
theorem dX7_mean_17 : decode cX7_mean 17 = .ok (.getfield 62, 3) := by decide +kernel
theorem dX7_mean_20 : decode cX7_mean 20 = .ok (.ifCond .ne 8, 3) := by decide +kernel
theorem dX7_mean_23 : decode cX7_mean 23 = .ok (.iload_n 1, 1) := by decide +kernel
theorem dX7_mean_24 : decode cX7_mean 24 = .ok (.i2l, 1) := by decide +kernel
theorem dX7_mean_25 : decode cX7_mean 25 = .ok (.goto 17, 3) := by decide +kernel
theorem dX7_mean_28 : decode cX7_mean 28 = .ok (.aload_n 0, 1) := by decide +kernel
theorem dX7_mean_29 : decode cX7_mean 29 = .ok (.invokevirtual 195, 3) := by decide +kernel
theorem dX7_mean_32 : decode cX7_mean 32 = .ok (.i2l, 1) := by decide +kernel
theorem dX7_mean_33 : decode cX7_mean 33 = .ok (.aload_n 0, 1) := by decide +kernel
theorem dX7_mean_34 : decode cX7_mean 34 = .ok (.getfield 62, 3) := by decide +kernel
theorem dX7_mean_37 : decode cX7_mean 37 = .ok (.i2l, 1) := by decide +kernel
theorem dX7_mean_38 : decode cX7_mean 38 = .ok (.iload_n 1, 1) := by decide +kernel
theorem dX7_mean_39 : decode cX7_mean 39 = .ok (.invokestatic 273, 3) := by decide +kernel
theorem dX7_mean_42 : decode cX7_mean 42 = .ok (.lreturn, 1) := by decide +kernel
theorem dX7_isSo_0 : decode cX7_isSo 0 = .ok (.aload_n 0, 1) := by decide +kernel
theorem dX7_isSo_1 : decode cX7_isSo 1 = .ok (.invokevirtual 201, 3) := by decide +kernel
theorem dX7_isSo_4 : decode cX7_isSo 4 = .ok (.iconst 1, 1) := by decide +kernel
theorem dX7_isSo_5 : decode cX7_isSo 5 = .ok (.istore_n 2, 1) := by decide +kernel
theorem dX7_isSo_6 : decode cX7_isSo 6 = .ok (.iconst 0, 1) := by decide +kernel
theorem dX7_isSo_7 : decode cX7_isSo 7 = .ok (.istore_n 3, 1) := by decide +kernel
theorem dX7_isSo_8 : decode cX7_isSo 8 = .ok (.iload_n 3, 1) := by decide +kernel
theorem dX7_isSo_9 : decode cX7_isSo 9 = .ok (.aload_n 0, 1) := by decide +kernel
theorem dX7_isSo_10 : decode cX7_isSo 10 = .ok (.getfield 277, 3) := by decide +kernel
theorem dX7_isSo_13 : decode cX7_isSo 13 = .ok (.if_icmp .ge 38, 3) := by decide +kernel
theorem dX7_isSo_16 : decode cX7_isSo 16 = .ok (.iload_n 2, 1) := by decide +kernel
theorem dX7_isSo_17 : decode cX7_isSo 17 = .ok (.ifCond .eq 34, 3) := by decide +kernel
theorem dX7_isSo_20 : decode cX7_isSo 20 = .ok (.aload_n 0, 1) := by decide +kernel
theorem dX7_isSo_21 : decode cX7_isSo 21 = .ok (.getfield 25, 3) := by decide +kernel
theorem dX7_isSo_24 : decode cX7_isSo 24 = .ok (.iload_n 1, 1) := by decide +kernel
theorem dX7_isSo_25 : decode cX7_isSo 25 = .ok (.iaload, 1) := by decide +kernel
theorem dX7_isSo_26 : decode cX7_isSo 26 = .ok (.aload_n 0, 1) := by decide +kernel
theorem dX7_isSo_27 : decode cX7_isSo 27 = .ok (.getfield 59, 3) := by decide +kernel
theorem dX7_isSo_30 : decode cX7_isSo 30 = .ok (.iload_n 3, 1) := by decide +kernel
theorem dX7_isSo_31 : decode cX7_isSo 31 = .ok (.iaload, 1) := by decide +kernel
theorem dX7_isSo_32 : decode cX7_isSo 32 = .ok (.if_icmp .ne 7, 3) := by decide +kernel
theorem dX7_isSo_35 : decode cX7_isSo 35 = .ok (.iconst 1, 1) := by decide +kernel
theorem dX7_isSo_36 : decode cX7_isSo 36 = .ok (.goto 4, 3) := by decide +kernel
theorem dX7_isSo_39 : decode cX7_isSo 39 = .ok (.iconst 0, 1) := by decide +kernel
theorem dX7_isSo_40 : decode cX7_isSo 40 = .ok (.istore_n 2, 1) := by decide +kernel
theorem dX7_isSo_41 : decode cX7_isSo 41 = .ok (.aload_n 0, 1) := by decide +kernel
theorem dX7_isSo_42 : decode cX7_isSo 42 = .ok (.invokevirtual 188, 3) := by decide +kernel
theorem dX7_isSo_45 : decode cX7_isSo 45 = .ok (.iinc 3 1, 3) := by decide +kernel
theorem dX7_isSo_48 : decode cX7_isSo 48 = .ok (.goto (-40), 3) := by decide +kernel
theorem dX7_isSo_51 : decode cX7_isSo 51 = .ok (.aload_n 0, 1) := by decide +kernel
theorem dX7_isSo_52 : decode cX7_isSo 52 = .ok (.invokevirtual 204, 3) := by decide +kernel
theorem dX7_isSo_55 : decode cX7_isSo 55 = .ok (.iload_n 2, 1) := by decide +kernel
theorem dX7_isSo_56 : decode cX7_isSo 56 = .ok (.ireturn, 1) := by decide +kernel
theorem dX7_kindsOf_0 : decode cX7_kindsOf 0 = .ok (.aload_n 0, 1) := by decide +kernel
theorem dX7_kindsOf_1 : decode cX7_kindsOf 1 = .ok (.getfield 13, 3) := by decide +kernel
theorem dX7_kindsOf_4 : decode cX7_kindsOf 4 = .ok (.iload_n 1, 1) := by decide +kernel
theorem dX7_kindsOf_5 : decode cX7_kindsOf 5 = .ok (.iaload, 1) := by decide +kernel
theorem dX7_kindsOf_6 : decode cX7_kindsOf 6 = .ok (.istore_n 2, 1) := by decide +kernel
theorem dX7_kindsOf_7 : decode cX7_kindsOf 7 = .ok (.iconst 0, 1) := by decide +kernel
theorem dX7_kindsOf_8 : decode cX7_kindsOf 8 = .ok (.istore_n 3, 1) := by decide +kernel
theorem dX7_kindsOf_9 : decode cX7_kindsOf 9 = .ok (.iconst 0, 1) := by decide +kernel
theorem dX7_kindsOf_10 : decode cX7_kindsOf 10 = .ok (.istore 4, 2) := by decide +kernel
theorem dX7_kindsOf_12 : decode cX7_kindsOf 12 = .ok (.iload 4, 2) := by decide +kernel
theorem dX7_kindsOf_14 : decode cX7_kindsOf 14 = .ok (.bipush 6, 2) := by decide +kernel
theorem dX7_kindsOf_16 : decode cX7_kindsOf 16 = .ok (.if_icmp .ge 36, 3) := by decide +kernel
theorem dX7_kindsOf_19 : decode cX7_kindsOf 19 = .ok (.aload_n 0, 1) := by decide +kernel
theorem dX7_kindsOf_20 : decode cX7_kindsOf 20 = .ok (.getfield 13, 3) := by decide +kernel
theorem dX7_kindsOf_23 : decode cX7_kindsOf 23 = .ok (.iload_n 1, 1) := by decide +kernel
theorem dX7_kindsOf_24 : decode cX7_kindsOf 24 = .ok (.iload 4, 2) := by decide +kernel
theorem dX7_kindsOf_26 : decode cX7_kindsOf 26 = .ok (.iastore, 1) := by decide +kernel
theorem dX7_kindsOf_27 : decode cX7_kindsOf 27 = .ok (.iload_n 3, 1) := by decide +kernel
theorem dX7_kindsOf_28 : decode cX7_kindsOf 28 = .ok (.aload_n 0, 1) := by decide +kernel
theorem dX7_kindsOf_29 : decode cX7_kindsOf 29 = .ok (.iload_n 1, 1) := by decide +kernel
theorem dX7_kindsOf_30 : decode cX7_kindsOf 30 = .ok (.invokevirtual 280, 3) := by decide +kernel
theorem dX7_kindsOf_33 : decode cX7_kindsOf 33 = .ok (.ifCond .eq 10, 3) := by decide +kernel
theorem dX7_kindsOf_36 : decode cX7_kindsOf 36 = .ok (.iconst 1, 1) := by decide +kernel
theorem dX7_kindsOf_37 : decode cX7_kindsOf 37 = .ok (.iload 4, 2) := by decide +kernel
theorem dX7_kindsOf_39 : decode cX7_kindsOf 39 = .ok (.ishl, 1) := by decide +kernel
theorem dX7_kindsOf_40 : decode cX7_kindsOf 40 = .ok (.goto 4, 3) := by decide +kernel
theorem dX7_kindsOf_43 : decode cX7_kindsOf 43 = .ok (.iconst 0, 1) := by decide +kernel
theorem dX7_kindsOf_44 : decode cX7_kindsOf 44 = .ok (.ior, 1) := by decide +kernel
theorem dX7_kindsOf_45 : decode cX7_kindsOf 45 = .ok (.istore_n 3, 1) := by decide +kernel
theorem dX7_kindsOf_46 : decode cX7_kindsOf 46 = .ok (.iinc 4 1, 3) := by decide +kernel
theorem dX7_kindsOf_49 : decode cX7_kindsOf 49 = .ok (.goto (-37), 3) := by decide +kernel
theorem dX7_kindsOf_52 : decode cX7_kindsOf 52 = .ok (.aload_n 0, 1) := by decide +kernel
theorem dX7_kindsOf_53 : decode cX7_kindsOf 53 = .ok (.getfield 13, 3) := by decide +kernel
theorem dX7_kindsOf_56 : decode cX7_kindsOf 56 = .ok (.iload_n 1, 1) := by decide +kernel
theorem dX7_kindsOf_57 : decode cX7_kindsOf 57 = .ok (.iload_n 2, 1) := by decide +kernel
theorem dX7_kindsOf_58 : decode cX7_kindsOf 58 = .ok (.iastore, 1) := by decide +kernel
theorem dX7_kindsOf_59 : decode cX7_kindsOf 59 = .ok (.iload_n 3, 1) := by decide +kernel
theorem dX7_kindsOf_60 : decode cX7_kindsOf 60 = .ok (.ireturn, 1) := by decide +kernel
theorem dX7_weightsOf_0 : decode cX7_weightsOf 0 = .ok (.aload_n 0, 1) := by decide +kernel
theorem dX7_weightsOf_1 : decode cX7_weightsOf 1 = .ok (.getfield 19, 3) := by decide +kernel
theorem dX7_weightsOf_4 : decode cX7_weightsOf 4 = .ok (.iload_n 1, 1) := by decide +kernel
theorem dX7_weightsOf_5 : decode cX7_weightsOf 5 = .ok (.iaload, 1) := by decide +kernel
theorem dX7_weightsOf_6 : decode cX7_weightsOf 6 = .ok (.istore_n 2, 1) := by decide +kernel
theorem dX7_weightsOf_7 : decode cX7_weightsOf 7 = .ok (.iconst 0, 1) := by decide +kernel
theorem dX7_weightsOf_8 : decode cX7_weightsOf 8 = .ok (.istore_n 3, 1) := by decide +kernel
theorem dX7_weightsOf_9 : decode cX7_weightsOf 9 = .ok (.iconst 0, 1) := by decide +kernel
theorem dX7_weightsOf_10 : decode cX7_weightsOf 10 = .ok (.istore 4, 2) := by decide +kernel
theorem dX7_weightsOf_12 : decode cX7_weightsOf 12 = .ok (.iload 4, 2) := by decide +kernel
theorem dX7_weightsOf_14 : decode cX7_weightsOf 14 = .ok (.bipush 60, 2) := by decide +kernel
theorem dX7_weightsOf_16 : decode cX7_weightsOf 16 = .ok (.if_icmp .gt 33, 3) := by decide +kernel
theorem dX7_weightsOf_19 : decode cX7_weightsOf 19 = .ok (.aload_n 0, 1) := by decide +kernel
theorem dX7_weightsOf_20 : decode cX7_weightsOf 20 = .ok (.getfield 19, 3) := by decide +kernel
theorem dX7_weightsOf_23 : decode cX7_weightsOf 23 = .ok (.iload_n 1, 1) := by decide +kernel
theorem dX7_weightsOf_24 : decode cX7_weightsOf 24 = .ok (.iload 4, 2) := by decide +kernel
theorem dX7_weightsOf_26 : decode cX7_weightsOf 26 = .ok (.iastore, 1) := by decide +kernel
theorem dX7_weightsOf_27 : decode cX7_weightsOf 27 = .ok (.iload_n 3, 1) := by decide +kernel
theorem dX7_weightsOf_28 : decode cX7_weightsOf 28 = .ok (.aload_n 0, 1) := by decide +kernel
theorem dX7_weightsOf_29 : decode cX7_weightsOf 29 = .ok (.iload_n 1, 1) := by decide +kernel
theorem dX7_weightsOf_30 : decode cX7_weightsOf 30 = .ok (.invokevirtual 280, 3) := by decide +kernel
theorem dX7_weightsOf_33 : decode cX7_weightsOf 33 = .ok (.ifCond .eq 7, 3) := by decide +kernel
theorem dX7_weightsOf_36 : decode cX7_weightsOf 36 = .ok (.iconst 1, 1) := by decide +kernel
theorem dX7_weightsOf_37 : decode cX7_weightsOf 37 = .ok (.goto 4, 3) := by decide +kernel
theorem dX7_weightsOf_40 : decode cX7_weightsOf 40 = .ok (.iconst 0, 1) := by decide +kernel
theorem dX7_weightsOf_41 : decode cX7_weightsOf 41 = .ok (.iadd, 1) := by decide +kernel
theorem dX7_weightsOf_42 : decode cX7_weightsOf 42 = .ok (.istore_n 3, 1) := by decide +kernel
theorem dX7_weightsOf_43 : decode cX7_weightsOf 43 = .ok (.iinc 4 1, 3) := by decide +kernel
theorem dX7_weightsOf_46 : decode cX7_weightsOf 46 = .ok (.goto (-34), 3) := by decide +kernel
theorem dX7_weightsOf_49 : decode cX7_weightsOf 49 = .ok (.aload_n 0, 1) := by decide +kernel
theorem dX7_weightsOf_50 : decode cX7_weightsOf 50 = .ok (.getfield 19, 3) := by decide +kernel
theorem dX7_weightsOf_53 : decode cX7_weightsOf 53 = .ok (.iload_n 1, 1) := by decide +kernel
theorem dX7_weightsOf_54 : decode cX7_weightsOf 54 = .ok (.iload_n 2, 1) := by decide +kernel
theorem dX7_weightsOf_55 : decode cX7_weightsOf 55 = .ok (.iastore, 1) := by decide +kernel
theorem dX7_weightsOf_56 : decode cX7_weightsOf 56 = .ok (.iload_n 3, 1) := by decide +kernel
theorem dX7_weightsOf_57 : decode cX7_weightsOf 57 = .ok (.ireturn, 1) := by decide +kernel
theorem dX7_whatIs_0 : decode cX7_whatIs 0 = .ok (.aload_n 0, 1) := by decide +kernel
theorem dX7_whatIs_1 : decode cX7_whatIs 1 = .ok (.iload_n 1, 1) := by decide +kernel
theorem dX7_whatIs_2 : decode cX7_whatIs 2 = .ok (.invokevirtual 70, 3) := by decide +kernel
theorem dX7_whatIs_5 : decode cX7_whatIs 5 = .ok (.ifCond .ne 7, 3) := by decide +kernel
theorem dX7_whatIs_8 : decode cX7_whatIs 8 = .ok (.iconst (-1), 1) := by decide +kernel
theorem dX7_whatIs_9 : decode cX7_whatIs 9 = .ok (.goto 18, 3) := by decide +kernel
theorem dX7_whatIs_12 : decode cX7_whatIs 12 = .ok (.iload_n 2, 1) := by decide +kernel
theorem dX7_whatIs_13 : decode cX7_whatIs 13 = .ok (.iconst 0, 1) := by decide +kernel
theorem dX7_whatIs_14 : decode cX7_whatIs 14 = .ok (.iconst 1, 1) := by decide +kernel
theorem dX7_whatIs_15 : decode cX7_whatIs 15 = .ok (.invokestatic 92, 3) := by decide +kernel
theorem dX7_whatIs_18 : decode cX7_whatIs 18 = .ok (.ifCond .ne 8, 3) := by decide +kernel
theorem dX7_whatIs_21 : decode cX7_whatIs 21 = .ok (.bipush (-2), 2) := by decide +kernel
theorem dX7_whatIs_23 : decode cX7_whatIs 23 = .ok (.goto 4, 3) := by decide +kernel
theorem dX7_whatIs_26 : decode cX7_whatIs 26 = .ok (.iconst 0, 1) := by decide +kernel
theorem dX7_whatIs_27 : decode cX7_whatIs 27 = .ok (.istore_n 3, 1) := by decide +kernel
theorem dX7_whatIs_28 : decode cX7_whatIs 28 = .ok (.iload_n 3, 1) := by decide +kernel
theorem dX7_whatIs_29 : decode cX7_whatIs 29 = .ok (.ifCond .eq 9, 3) := by decide +kernel
theorem dX7_whatIs_32 : decode cX7_whatIs 32 = .ok (.aload_n 0, 1) := by decide +kernel
theorem dX7_whatIs_33 : decode cX7_whatIs 33 = .ok (.iload_n 3, 1) := by decide +kernel
theorem dX7_whatIs_34 : decode cX7_whatIs 34 = .ok (.invokevirtual 81, 3) := by decide +kernel
theorem dX7_whatIs_37 : decode cX7_whatIs 37 = .ok (.ireturn, 1) := by decide +kernel
theorem dX7_whatIs_38 : decode cX7_whatIs 38 = .ok (.iload_n 2, 1) := by decide +kernel
theorem dX7_whatIs_39 : decode cX7_whatIs 39 = .ok (.ifCond .ne 11, 3) := by decide +kernel
theorem dX7_whatIs_42 : decode cX7_whatIs 42 = .ok (.aload_n 0, 1) := by decide +kernel
theorem dX7_whatIs_43 : decode cX7_whatIs 43 = .ok (.iload_n 1, 1) := by decide +kernel
theorem dX7_whatIs_44 : decode cX7_whatIs 44 = .ok (.invokevirtual 283, 3) := by decide +kernel
theorem dX7_whatIs_47 : decode cX7_whatIs 47 = .ok (.goto 8, 3) := by decide +kernel
theorem dX7_whatIs_50 : decode cX7_whatIs 50 = .ok (.aload_n 0, 1) := by decide +kernel
theorem dX7_whatIs_51 : decode cX7_whatIs 51 = .ok (.iload_n 1, 1) := by decide +kernel
theorem dX7_whatIs_52 : decode cX7_whatIs 52 = .ok (.invokevirtual 286, 3) := by decide +kernel
theorem dX7_whatIs_55 : decode cX7_whatIs 55 = .ok (.ireturn, 1) := by decide +kernel
theorem dX7_row_0 : decode cX7_row 0 = .ok (.iload_n 1, 1) := by decide +kernel
theorem dX7_row_1 : decode cX7_row 1 = .ok (.iconst 0, 1) := by decide +kernel
theorem dX7_row_2 : decode cX7_row 2 = .ok (.bipush 99, 2) := by decide +kernel
theorem dX7_row_4 : decode cX7_row 4 = .ok (.invokestatic 74, 3) := by decide +kernel
theorem dX7_row_7 : decode cX7_row 7 = .ok (.istore_n 2, 1) := by decide +kernel
theorem dX7_row_8 : decode cX7_row 8 = .ok (.iload_n 2, 1) := by decide +kernel
theorem dX7_row_9 : decode cX7_row 9 = .ok (.ifCond .ne 15, 3) := by decide +kernel
theorem dX7_row_12 : decode cX7_row 12 = .ok (.aload_n 0, 1) := by decide +kernel
theorem dX7_row_13 : decode cX7_row 13 = .ok (.getfield 277, 3) := by decide +kernel
theorem dX7_row_16 : decode cX7_row 16 = .ok (.bipush 16, 2) := by decide +kernel
theorem dX7_row_18 : decode cX7_row 18 = .ok (.if_icmp .ne 6, 3) := by decide +kernel
theorem dX7_row_21 : decode cX7_row 21 = .ok (.bipush (-6), 2) := by decide +kernel
theorem dX7_row_23 : decode cX7_row 23 = .ok (.istore_n 2, 1) := by decide +kernel
theorem dX7_row_24 : decode cX7_row 24 = .ok (.iload_n 2, 1) := by decide +kernel
theorem dX7_row_25 : decode cX7_row 25 = .ok (.ifCond .eq 9, 3) := by decide +kernel
theorem dX7_row_28 : decode cX7_row 28 = .ok (.aload_n 0, 1) := by decide +kernel
theorem dX7_row_29 : decode cX7_row 29 = .ok (.iload_n 2, 1) := by decide +kernel
theorem dX7_row_30 : decode cX7_row 30 = .ok (.invokevirtual 81, 3) := by decide +kernel
theorem dX7_row_33 : decode cX7_row 33 = .ok (.ireturn, 1) := by decide +kernel
theorem dX7_row_34 : decode cX7_row 34 = .ok (.aload_n 0, 1) := by decide +kernel
theorem dX7_row_35 : decode cX7_row 35 = .ok (.getfield 59, 3) := by decide +kernel
theorem dX7_row_38 : decode cX7_row 38 = .ok (.aload_n 0, 1) := by decide +kernel
theorem dX7_row_39 : decode cX7_row 39 = .ok (.getfield 277, 3) := by decide +kernel
theorem dX7_row_42 : decode cX7_row 42 = .ok (.iload_n 1, 1) := by decide +kernel
theorem dX7_row_43 : decode cX7_row 43 = .ok (.iastore, 1) := by decide +kernel
theorem dX7_row_44 : decode cX7_row 44 = .ok (.aload_n 0, 1) := by decide +kernel
theorem dX7_row_45 : decode cX7_row 45 = .ok (.dup, 1) := by decide +kernel
theorem dX7_row_46 : decode cX7_row 46 = .ok (.getfield 277, 3) := by decide +kernel
theorem dX7_row_49 : decode cX7_row 49 = .ok (.iconst 1, 1) := by decide +kernel
theorem dX7_row_50 : decode cX7_row 50 = .ok (.iadd, 1) := by decide +kernel
theorem dX7_row_51 : decode cX7_row 51 = .ok (.putfield 277, 3) := by decide +kernel
theorem dX7_row_54 : decode cX7_row 54 = .ok (.aload_n 0, 1) := by decide +kernel
theorem dX7_row_55 : decode cX7_row 55 = .ok (.getfield 277, 3) := by decide +kernel
theorem dX7_row_58 : decode cX7_row 58 = .ok (.ireturn, 1) := by decide +kernel
theorem dX7_judge_0 : decode cX7_judge 0 = .ok (.aload_n 0, 1) := by decide +kernel
theorem dX7_judge_1 : decode cX7_judge 1 = .ok (.getfield 277, 3) := by decide +kernel
theorem dX7_judge_4 : decode cX7_judge 4 = .ok (.istore_n 1, 1) := by decide +kernel
theorem dX7_judge_5 : decode cX7_judge 5 = .ok (.aload_n 0, 1) := by decide +kernel
theorem dX7_judge_6 : decode cX7_judge 6 = .ok (.iconst 0, 1) := by decide +kernel
theorem dX7_judge_7 : decode cX7_judge 7 = .ok (.putfield 277, 3) := by decide +kernel
theorem dX7_judge_10 : decode cX7_judge 10 = .ok (.iconst 0, 1) := by decide +kernel
theorem dX7_judge_11 : decode cX7_judge 11 = .ok (.istore_n 2, 1) := by decide +kernel
theorem dX7_judge_12 : decode cX7_judge 12 = .ok (.iload_n 2, 1) := by decide +kernel
theorem dX7_judge_13 : decode cX7_judge 13 = .ok (.iload_n 1, 1) := by decide +kernel
theorem dX7_judge_14 : decode cX7_judge 14 = .ok (.if_icmp .ge 81, 3) := by decide +kernel
theorem dX7_judge_17 : decode cX7_judge 17 = .ok (.iload_n 2, 1) := by decide +kernel
theorem dX7_judge_18 : decode cX7_judge 18 = .ok (.iconst 1, 1) := by decide +kernel
theorem dX7_judge_19 : decode cX7_judge 19 = .ok (.iadd, 1) := by decide +kernel
theorem dX7_judge_20 : decode cX7_judge 20 = .ok (.iload_n 1, 1) := by decide +kernel
theorem dX7_judge_21 : decode cX7_judge 21 = .ok (.if_icmp .eq 16, 3) := by decide +kernel
theorem dX7_judge_24 : decode cX7_judge 24 = .ok (.aload_n 0, 1) := by decide +kernel
theorem dX7_judge_25 : decode cX7_judge 25 = .ok (.aload_n 0, 1) := by decide +kernel
theorem dX7_judge_26 : decode cX7_judge 26 = .ok (.getfield 59, 3) := by decide +kernel
theorem dX7_judge_29 : decode cX7_judge 29 = .ok (.iload_n 2, 1) := by decide +kernel
theorem dX7_judge_30 : decode cX7_judge 30 = .ok (.iaload, 1) := by decide +kernel
theorem dX7_judge_31 : decode cX7_judge 31 = .ok (.invokevirtual 70, 3) := by decide +kernel
theorem dX7_judge_34 : decode cX7_judge 34 = .ok (.ifCond .ne 5, 3) := by decide +kernel
theorem dX7_judge_37 : decode cX7_judge 37 = .ok (.iload_n 2, 1) := by decide +kernel
theorem dX7_judge_38 : decode cX7_judge 38 = .ok (.ireturn, 1) := by decide +kernel
theorem dX7_judge_39 : decode cX7_judge 39 = .ok (.aload_n 0, 1) := by decide +kernel
theorem dX7_judge_40 : decode cX7_judge 40 = .ok (.aload_n 0, 1) := by decide +kernel
theorem dX7_judge_41 : decode cX7_judge 41 = .ok (.getfield 59, 3) := by decide +kernel
theorem dX7_judge_44 : decode cX7_judge 44 = .ok (.iload_n 2, 1) := by decide +kernel
theorem dX7_judge_45 : decode cX7_judge 45 = .ok (.iaload, 1) := by decide +kernel
theorem dX7_judge_46 : decode cX7_judge 46 = .ok (.aload_n 0, 1) := by decide +kernel
theorem dX7_judge_47 : decode cX7_judge 47 = .ok (.getfield 59, 3) := by decide +kernel
theorem dX7_judge_50 : decode cX7_judge 50 = .ok (.iload_n 2, 1) := by decide +kernel
theorem dX7_judge_51 : decode cX7_judge 51 = .ok (.iconst 1, 1) := by decide +kernel
theorem dX7_judge_52 : decode cX7_judge 52 = .ok (.iadd, 1) := by decide +kernel
theorem dX7_judge_53 : decode cX7_judge 53 = .ok (.iaload, 1) := by decide +kernel
theorem dX7_judge_54 : decode cX7_judge 54 = .ok (.invokevirtual 112, 3) := by decide +kernel
theorem dX7_judge_57 : decode cX7_judge 57 = .ok (.ifCond .eq 28, 3) := by decide +kernel
theorem dX7_judge_60 : decode cX7_judge 60 = .ok (.aload_n 0, 1) := by decide +kernel
theorem dX7_judge_61 : decode cX7_judge 61 = .ok (.aload_n 0, 1) := by decide +kernel
theorem dX7_judge_62 : decode cX7_judge 62 = .ok (.getfield 59, 3) := by decide +kernel
theorem dX7_judge_65 : decode cX7_judge 65 = .ok (.iload_n 2, 1) := by decide +kernel
theorem dX7_judge_66 : decode cX7_judge 66 = .ok (.iaload, 1) := by decide +kernel
theorem dX7_judge_67 : decode cX7_judge 67 = .ok (.invokevirtual 176, 3) := by decide +kernel
theorem dX7_judge_70 : decode cX7_judge 70 = .ok (.aload_n 0, 1) := by decide +kernel
theorem dX7_judge_71 : decode cX7_judge 71 = .ok (.aload_n 0, 1) := by decide +kernel
theorem dX7_judge_72 : decode cX7_judge 72 = .ok (.getfield 59, 3) := by decide +kernel
theorem dX7_judge_75 : decode cX7_judge 75 = .ok (.iload_n 2, 1) := by decide +kernel
theorem dX7_judge_76 : decode cX7_judge 76 = .ok (.iconst 1, 1) := by decide +kernel
theorem dX7_judge_77 : decode cX7_judge 77 = .ok (.iadd, 1) := by decide +kernel
theorem dX7_judge_78 : decode cX7_judge 78 = .ok (.iaload, 1) := by decide +kernel
theorem dX7_judge_79 : decode cX7_judge 79 = .ok (.invokevirtual 176, 3) := by decide +kernel
theorem dX7_judge_82 : decode cX7_judge 82 = .ok (.if_icmp .lt 7, 3) := by decide +kernel
theorem dX7_judge_85 : decode cX7_judge 85 = .ok (.iload_n 2, 1) := by decide +kernel
theorem dX7_judge_86 : decode cX7_judge 86 = .ok (.iconst 1, 1) := by decide +kernel
theorem dX7_judge_87 : decode cX7_judge 87 = .ok (.iadd, 1) := by decide +kernel
theorem dX7_judge_88 : decode cX7_judge 88 = .ok (.ireturn, 1) := by decide +kernel
theorem dX7_judge_89 : decode cX7_judge 89 = .ok (.iinc 2 2, 3) := by decide +kernel
theorem dX7_judge_92 : decode cX7_judge 92 = .ok (.goto (-80), 3) := by decide +kernel
theorem dX7_judge_95 : decode cX7_judge 95 = .ok (.bipush (-9), 2) := by decide +kernel
theorem dX7_judge_97 : decode cX7_judge 97 = .ok (.ireturn, 1) := by decide +kernel
theorem dX7_clear_0 : decode cX7_clear 0 = .ok (.aload_n 0, 1) := by decide +kernel
theorem dX7_clear_1 : decode cX7_clear 1 = .ok (.getfield 277, 3) := by decide +kernel
theorem dX7_clear_4 : decode cX7_clear 4 = .ok (.istore_n 1, 1) := by decide +kernel
theorem dX7_clear_5 : decode cX7_clear 5 = .ok (.aload_n 0, 1) := by decide +kernel
theorem dX7_clear_6 : decode cX7_clear 6 = .ok (.iconst 0, 1) := by decide +kernel
theorem dX7_clear_7 : decode cX7_clear 7 = .ok (.putfield 277, 3) := by decide +kernel
theorem dX7_clear_10 : decode cX7_clear 10 = .ok (.iload_n 1, 1) := by decide +kernel
theorem dX7_clear_11 : decode cX7_clear 11 = .ok (.ireturn, 1) := by decide +kernel
theorem dX7_lots_0 : decode cX7_lots 0 = .ok (.iload_n 1, 1) := by decide +kernel
theorem dX7_lots_1 : decode cX7_lots 1 = .ok (.iconst 1, 1) := by decide +kernel
theorem dX7_lots_2 : decode cX7_lots 2 = .ok (.bipush 20, 2) := by decide +kernel
theorem dX7_lots_4 : decode cX7_lots 4 = .ok (.invokestatic 74, 3) := by decide +kernel
theorem dX7_lots_7 : decode cX7_lots 7 = .ok (.istore 4, 2) := by decide +kernel
theorem dX7_lots_9 : decode cX7_lots 9 = .ok (.iload 4, 2) := by decide +kernel
theorem dX7_lots_11 : decode cX7_lots 11 = .ok (.ifCond .ne 16, 3) := by decide +kernel
theorem dX7_lots_14 : decode cX7_lots 14 = .ok (.iload_n 3, 1) := by decide +kernel
theorem dX7_lots_15 : decode cX7_lots 15 = .ok (.iconst 0, 1) := by decide +kernel
theorem dX7_lots_16 : decode cX7_lots 16 = .ok (.iconst 1, 1) := by decide +kernel
theorem dX7_lots_17 : decode cX7_lots 17 = .ok (.invokestatic 92, 3) := by decide +kernel
theorem dX7_lots_20 : decode cX7_lots 20 = .ok (.ifCond .ne 7, 3) := by decide +kernel
theorem dX7_lots_23 : decode cX7_lots 23 = .ok (.bipush (-2), 2) := by decide +kernel
theorem dX7_lots_25 : decode cX7_lots 25 = .ok (.istore 4, 2) := by decide +kernel
theorem dX7_lots_27 : decode cX7_lots 27 = .ok (.iload 4, 2) := by decide +kernel
theorem dX7_lots_29 : decode cX7_lots 29 = .ok (.ifCond .eq 10, 3) := by decide +kernel
theorem dX7_lots_32 : decode cX7_lots 32 = .ok (.aload_n 0, 1) := by decide +kernel
theorem dX7_lots_33 : decode cX7_lots 33 = .ok (.iload 4, 2) := by decide +kernel
theorem dX7_lots_35 : decode cX7_lots 35 = .ok (.invokevirtual 81, 3) := by decide +kernel
theorem dX7_lots_38 : decode cX7_lots 38 = .ok (.ireturn, 1) := by decide +kernel
theorem dX7_lots_39 : decode cX7_lots 39 = .ok (.iload_n 2, 1) := by decide +kernel
theorem dX7_lots_40 : decode cX7_lots 40 = .ok (.istore 5, 2) := by decide +kernel
theorem dX7_lots_42 : decode cX7_lots 42 = .ok (.iconst 0, 1) := by decide +kernel
theorem dX7_lots_43 : decode cX7_lots 43 = .ok (.istore 6, 2) := by decide +kernel
theorem dX7_lots_45 : decode cX7_lots 45 = .ok (.iconst 0, 1) := by decide +kernel
theorem dX7_lots_46 : decode cX7_lots 46 = .ok (.istore 7, 2) := by decide +kernel
theorem dX7_lots_48 : decode cX7_lots 48 = .ok (.iload 7, 2) := by decide +kernel
theorem dX7_lots_50 : decode cX7_lots 50 = .ok (.iload_n 1, 1) := by decide +kernel
theorem dX7_lots_51 : decode cX7_lots 51 = .ok (.if_icmp .ge 96, 3) := by decide +kernel
theorem dX7_lots_54 : decode cX7_lots 54 = .ok (.aload_n 0, 1) := by decide +kernel
theorem dX7_lots_55 : decode cX7_lots 55 = .ok (.invokevirtual 201, 3) := by decide +kernel
theorem dX7_lots_58 : decode cX7_lots 58 = .ok (.iconst 0, 1) := by decide +kernel
theorem dX7_lots_59 : decode cX7_lots 59 = .ok (.istore 8, 2) := by decide +kernel
theorem dX7_lots_61 : decode cX7_lots 61 = .ok (.iload 8, 2) := by decide +kernel
theorem dX7_lots_63 : decode cX7_lots 63 = .ok (.aload_n 0, 1) := by decide +kernel
theorem dX7_lots_64 : decode cX7_lots 64 = .ok (.getfield 62, 3) := by decide +kernel
theorem dX7_lots_67 : decode cX7_lots 67 = .ok (.if_icmp .ge 41, 3) := by decide +kernel
theorem dX7_lots_70 : decode cX7_lots 70 = .ok (.iload 5, 2) := by decide +kernel
theorem dX7_lots_72 : decode cX7_lots 72 = .ok (.ldc_w 289, 3) := by decide +kernel
theorem dX7_lots_75 : decode cX7_lots 75 = .ok (.imul, 1) := by decide +kernel
theorem dX7_lots_76 : decode cX7_lots 76 = .ok (.ldc_w 290, 3) := by decide +kernel
theorem dX7_lots_79 : decode cX7_lots 79 = .ok (.iadd, 1) := by decide +kernel
theorem dX7_lots_80 : decode cX7_lots 80 = .ok (.istore 5, 2) := by decide +kernel
theorem dX7_lots_82 : decode cX7_lots 82 = .ok (.aload_n 0, 1) := by decide +kernel
theorem dX7_lots_83 : decode cX7_lots 83 = .ok (.getfield 22, 3) := by decide +kernel
theorem dX7_lots_86 : decode cX7_lots 86 = .ok (.iload 8, 2) := by decide +kernel
theorem dX7_lots_88 : decode cX7_lots 88 = .ok (.iload 5, 2) := by decide +kernel
theorem dX7_lots_90 : decode cX7_lots 90 = .ok (.ldc_w 291, 3) := by decide +kernel
theorem dX7_lots_93 : decode cX7_lots 93 = .ok (.iand, 1) := by decide +kernel
theorem dX7_lots_94 : decode cX7_lots 94 = .ok (.sipush 256, 3) := by decide +kernel
theorem dX7_lots_97 : decode cX7_lots 97 = .ok (.idiv, 1) := by decide +kernel
theorem dX7_lots_98 : decode cX7_lots 98 = .ok (.bipush 10, 2) := by decide +kernel
theorem dX7_lots_100 : decode cX7_lots 100 = .ok (.irem, 1) := by decide +kernel
theorem dX7_lots_101 : decode cX7_lots 101 = .ok (.iastore, 1) := by decide +kernel
theorem dX7_lots_102 : decode cX7_lots 102 = .ok (.iinc 8 1, 3) := by decide +kernel
theorem dX7_lots_105 : decode cX7_lots 105 = .ok (.goto (-44), 3) := by decide +kernel
theorem dX7_lots_108 : decode cX7_lots 108 = .ok (.aload_n 0, 1) := by decide +kernel
theorem dX7_lots_109 : decode cX7_lots 109 = .ok (.bipush 10, 2) := by decide +kernel
theorem dX7_lots_111 : decode cX7_lots 111 = .ok (.invokevirtual 122, 3) := by decide +kernel
theorem dX7_lots_114 : decode cX7_lots 114 = .ok (.iload 6, 2) := by decide +kernel
theorem dX7_lots_116 : decode cX7_lots 116 = .ok (.iload_n 3, 1) := by decide +kernel
theorem dX7_lots_117 : decode cX7_lots 117 = .ok (.ifCond .ne 10, 3) := by decide +kernel
theorem dX7_lots_120 : decode cX7_lots 120 = .ok (.aload_n 0, 1) := by decide +kernel
theorem dX7_lots_121 : decode cX7_lots 121 = .ok (.invokevirtual 195, 3) := by decide +kernel
theorem dX7_lots_124 : decode cX7_lots 124 = .ok (.goto 10, 3) := by decide +kernel
theorem dX7_lots_127 : decode cX7_lots 127 = .ok (.aload_n 0, 1) := by decide +kernel
theorem dX7_lots_128 : decode cX7_lots 128 = .ok (.invokevirtual 292, 3) := by decide +kernel
theorem dX7_lots_131 : decode cX7_lots 131 = .ok (.invokestatic 246, 3) := by decide +kernel
theorem dX7_lots_134 : decode cX7_lots 134 = .ok (.iadd, 1) := by decide +kernel
theorem dX7_lots_135 : decode cX7_lots 135 = .ok (.istore 6, 2) := by decide +kernel
theorem dX7_lots_137 : decode cX7_lots 137 = .ok (.aload_n 0, 1) := by decide +kernel
theorem dX7_lots_138 : decode cX7_lots 138 = .ok (.invokevirtual 204, 3) := by decide +kernel
theorem dX7_lots_141 : decode cX7_lots 141 = .ok (.iinc 7 1, 3) := by decide +kernel
theorem dX7_lots_144 : decode cX7_lots 144 = .ok (.goto (-96), 3) := by decide +kernel
theorem dX7_lots_147 : decode cX7_lots 147 = .ok (.iload 6, 2) := by decide +kernel
theorem dX7_lots_149 : decode cX7_lots 149 = .ok (.ireturn, 1) := by decide +kernel
theorem dX7_count_0 : decode cX7_count 0 = .ok (.iload_n 1, 1) := by decide +kernel
theorem dX7_count_1 : decode cX7_count 1 = .ok (.bipush 11, 2) := by decide +kernel
theorem dX7_count_3 : decode cX7_count 3 = .ok (.bipush 16, 2) := by decide +kernel
theorem dX7_count_5 : decode cX7_count 5 = .ok (.invokestatic 92, 3) := by decide +kernel
theorem dX7_count_8 : decode cX7_count 8 = .ok (.ifCond .eq 13, 3) := by decide +kernel
theorem dX7_count_11 : decode cX7_count 11 = .ok (.aload_n 0, 1) := by decide +kernel
theorem dX7_count_12 : decode cX7_count 12 = .ok (.getfield 7, 3) := by decide +kernel
theorem dX7_count_15 : decode cX7_count 15 = .ok (.iload_n 1, 1) := by decide +kernel
theorem dX7_count_16 : decode cX7_count 16 = .ok (.bipush 10, 2) := by decide +kernel
theorem dX7_count_18 : decode cX7_count 18 = .ok (.isub, 1) := by decide +kernel
theorem dX7_count_19 : decode cX7_count 19 = .ok (.iaload, 1) := by decide +kernel
theorem dX7_count_20 : decode cX7_count 20 = .ok (.ireturn, 1) := by decide +kernel
theorem dX7_count_21 : decode cX7_count 21 = .ok (.iconst 0, 1) := by decide +kernel
theorem dX7_count_22 : decode cX7_count 22 = .ok (.istore_n 2, 1) := by decide +kernel
theorem dX7_count_23 : decode cX7_count 23 = .ok (.iload_n 1, 1) := by decide +kernel
theorem dX7_count_24 : decode cX7_count 24 = .ok (.tableswitch 118 0 7 #[48, 53, 58, 63, 68, 95, 108, 113], 48) := by decide +kernel
theorem dX7_count_72 : decode cX7_count 72 = .ok (.aload_n 0, 1) := by decide +kernel
theorem dX7_count_73 : decode cX7_count 73 = .ok (.getfield 62, 3) := by decide +kernel
theorem dX7_count_76 : decode cX7_count 76 = .ok (.ireturn, 1) := by decide +kernel
theorem dX7_count_77 : decode cX7_count 77 = .ok (.aload_n 0, 1) := by decide +kernel
theorem dX7_count_78 : decode cX7_count 78 = .ok (.getfield 67, 3) := by decide +kernel
theorem dX7_count_81 : decode cX7_count 81 = .ok (.ireturn, 1) := by decide +kernel
theorem dX7_count_82 : decode cX7_count 82 = .ok (.aload_n 0, 1) := by decide +kernel
theorem dX7_count_83 : decode cX7_count 83 = .ok (.getfield 119, 3) := by decide +kernel
theorem dX7_count_86 : decode cX7_count 86 = .ok (.ireturn, 1) := by decide +kernel
theorem dX7_count_87 : decode cX7_count 87 = .ok (.aload_n 0, 1) := by decide +kernel
theorem dX7_count_88 : decode cX7_count 88 = .ok (.invokevirtual 195, 3) := by decide +kernel
theorem dX7_count_91 : decode cX7_count 91 = .ok (.ireturn, 1) := by decide +kernel
theorem dX7_count_92 : decode cX7_count 92 = .ok (.iconst 0, 1) := by decide +kernel
theorem dX7_count_93 : decode cX7_count 93 = .ok (.istore_n 3, 1) := by decide +kernel
theorem dX7_count_94 : decode cX7_count 94 = .ok (.iload_n 3, 1) := by decide +kernel
theorem dX7_count_95 : decode cX7_count 95 = .ok (.aload_n 0, 1) := by decide +kernel
theorem dX7_count_96 : decode cX7_count 96 = .ok (.getfield 62, 3) := by decide +kernel
theorem dX7_count_99 : decode cX7_count 99 = .ok (.if_icmp .ge 18, 3) := by decide +kernel
theorem dX7_count_102 : decode cX7_count 102 = .ok (.iload_n 2, 1) := by decide +kernel
theorem dX7_count_103 : decode cX7_count 103 = .ok (.aload_n 0, 1) := by decide +kernel
theorem dX7_count_104 : decode cX7_count 104 = .ok (.getfield 22, 3) := by decide +kernel
theorem dX7_count_107 : decode cX7_count 107 = .ok (.iload_n 3, 1) := by decide +kernel
theorem dX7_count_108 : decode cX7_count 108 = .ok (.iaload, 1) := by decide +kernel
theorem dX7_count_109 : decode cX7_count 109 = .ok (.iadd, 1) := by decide +kernel
theorem dX7_count_110 : decode cX7_count 110 = .ok (.istore_n 2, 1) := by decide +kernel
theorem dX7_count_111 : decode cX7_count 111 = .ok (.iinc 3 1, 3) := by decide +kernel
theorem dX7_count_114 : decode cX7_count 114 = .ok (.goto (-20), 3) := by decide +kernel
theorem dX7_count_117 : decode cX7_count 117 = .ok (.iload_n 2, 1) := by decide +kernel
theorem dX7_count_118 : decode cX7_count 118 = .ok (.ireturn, 1) := by decide +kernel
theorem dX7_count_119 : decode cX7_count 119 = .ok (.aload_n 0, 1) := by decide +kernel
theorem dX7_count_120 : decode cX7_count 120 = .ok (.iconst 1, 1) := by decide +kernel
theorem dX7_count_121 : decode cX7_count 121 = .ok (.aload_n 0, 1) := by decide +kernel
theorem dX7_count_122 : decode cX7_count 122 = .ok (.getfield 62, 3) := by decide +kernel
theorem dX7_count_125 : decode cX7_count 125 = .ok (.ishl, 1) := by decide +kernel
theorem dX7_count_126 : decode cX7_count 126 = .ok (.iconst 1, 1) := by decide +kernel
theorem dX7_count_127 : decode cX7_count 127 = .ok (.isub, 1) := by decide +kernel
theorem dX7_count_128 : decode cX7_count 128 = .ok (.invokevirtual 249, 3) := by decide +kernel
theorem dX7_count_131 : decode cX7_count 131 = .ok (.ireturn, 1) := by decide +kernel
theorem dX7_count_132 : decode cX7_count 132 = .ok (.aload_n 0, 1) := by decide +kernel
theorem dX7_count_133 : decode cX7_count 133 = .ok (.getfield 277, 3) := by decide +kernel
theorem dX7_count_136 : decode cX7_count 136 = .ok (.ireturn, 1) := by decide +kernel
theorem dX7_count_137 : decode cX7_count 137 = .ok (.aload_n 0, 1) := by decide +kernel
theorem dX7_count_138 : decode cX7_count 138 = .ok (.getfield 78, 3) := by decide +kernel
theorem dX7_count_141 : decode cX7_count 141 = .ok (.ireturn, 1) := by decide +kernel
theorem dX7_count_142 : decode cX7_count 142 = .ok (.bipush (-9), 2) := by decide +kernel
theorem dX7_count_144 : decode cX7_count 144 = .ok (.ireturn, 1) := by decide +kernel
theorem dJ6_numberOfTrailingZeros_0f7a4_0 : decode cJ6_numberOfTrailingZeros_0f7a4 0 = .ok (.iload_n 0, 1) := by decide +kernel
theorem dJ6_numberOfTrailingZeros_0f7a4_1 : decode cJ6_numberOfTrailingZeros_0f7a4 1 = .ok (.iconst (-1), 1) := by decide +kernel
theorem dJ6_numberOfTrailingZeros_0f7a4_2 : decode cJ6_numberOfTrailingZeros_0f7a4 2 = .ok (.ixor, 1) := by decide +kernel
theorem dJ6_numberOfTrailingZeros_0f7a4_3 : decode cJ6_numberOfTrailingZeros_0f7a4 3 = .ok (.iload_n 0, 1) := by decide +kernel
theorem dJ6_numberOfTrailingZeros_0f7a4_4 : decode cJ6_numberOfTrailingZeros_0f7a4 4 = .ok (.iconst 1, 1) := by decide +kernel
theorem dJ6_numberOfTrailingZeros_0f7a4_5 : decode cJ6_numberOfTrailingZeros_0f7a4 5 = .ok (.isub, 1) := by decide +kernel
theorem dJ6_numberOfTrailingZeros_0f7a4_6 : decode cJ6_numberOfTrailingZeros_0f7a4 6 = .ok (.iand, 1) := by decide +kernel
theorem dJ6_numberOfTrailingZeros_0f7a4_7 : decode cJ6_numberOfTrailingZeros_0f7a4 7 = .ok (.istore_n 0, 1) := by decide +kernel
theorem dJ6_numberOfTrailingZeros_0f7a4_8 : decode cJ6_numberOfTrailingZeros_0f7a4 8 = .ok (.iload_n 0, 1) := by decide +kernel
theorem dJ6_numberOfTrailingZeros_0f7a4_9 : decode cJ6_numberOfTrailingZeros_0f7a4 9 = .ok (.ifCond .gt 8, 3) := by decide +kernel
theorem dJ6_numberOfTrailingZeros_0f7a4_12 : decode cJ6_numberOfTrailingZeros_0f7a4 12 = .ok (.iload_n 0, 1) := by decide +kernel
theorem dJ6_numberOfTrailingZeros_0f7a4_13 : decode cJ6_numberOfTrailingZeros_0f7a4 13 = .ok (.bipush 32, 2) := by decide +kernel
theorem dJ6_numberOfTrailingZeros_0f7a4_15 : decode cJ6_numberOfTrailingZeros_0f7a4 15 = .ok (.iand, 1) := by decide +kernel
theorem dJ6_numberOfTrailingZeros_0f7a4_16 : decode cJ6_numberOfTrailingZeros_0f7a4 16 = .ok (.ireturn, 1) := by decide +kernel
theorem dJ6_numberOfTrailingZeros_0f7a4_17 : decode cJ6_numberOfTrailingZeros_0f7a4 17 = .ok (.iconst 1, 1) := by decide +kernel
theorem dJ6_numberOfTrailingZeros_0f7a4_18 : decode cJ6_numberOfTrailingZeros_0f7a4 18 = .ok (.istore_n 1, 1) := by decide +kernel
theorem dJ6_numberOfTrailingZeros_0f7a4_19 : decode cJ6_numberOfTrailingZeros_0f7a4 19 = .ok (.iload_n 0, 1) := by decide +kernel
theorem dJ6_numberOfTrailingZeros_0f7a4_20 : decode cJ6_numberOfTrailingZeros_0f7a4 20 = .ok (.ldc_w 264, 3) := by decide +kernel
theorem dJ6_numberOfTrailingZeros_0f7a4_23 : decode cJ6_numberOfTrailingZeros_0f7a4 23 = .ok (.if_icmp .le 11, 3) := by decide +kernel
theorem dJ6_numberOfTrailingZeros_0f7a4_26 : decode cJ6_numberOfTrailingZeros_0f7a4 26 = .ok (.iinc 1 16, 3) := by decide +kernel
theorem dJ6_numberOfTrailingZeros_0f7a4_29 : decode cJ6_numberOfTrailingZeros_0f7a4 29 = .ok (.iload_n 0, 1) := by decide +kernel
theorem dJ6_numberOfTrailingZeros_0f7a4_30 : decode cJ6_numberOfTrailingZeros_0f7a4 30 = .ok (.bipush 16, 2) := by decide +kernel
theorem dJ6_numberOfTrailingZeros_0f7a4_32 : decode cJ6_numberOfTrailingZeros_0f7a4 32 = .ok (.iushr, 1) := by decide +kernel
theorem dJ6_numberOfTrailingZeros_0f7a4_33 : decode cJ6_numberOfTrailingZeros_0f7a4 33 = .ok (.istore_n 0, 1) := by decide +kernel
theorem dJ6_numberOfTrailingZeros_0f7a4_34 : decode cJ6_numberOfTrailingZeros_0f7a4 34 = .ok (.iload_n 0, 1) := by decide +kernel
theorem dJ6_numberOfTrailingZeros_0f7a4_35 : decode cJ6_numberOfTrailingZeros_0f7a4 35 = .ok (.sipush 256, 3) := by decide +kernel
theorem dJ6_numberOfTrailingZeros_0f7a4_38 : decode cJ6_numberOfTrailingZeros_0f7a4 38 = .ok (.if_icmp .le 11, 3) := by decide +kernel
theorem dJ6_numberOfTrailingZeros_0f7a4_41 : decode cJ6_numberOfTrailingZeros_0f7a4 41 = .ok (.iinc 1 8, 3) := by decide +kernel
theorem dJ6_numberOfTrailingZeros_0f7a4_44 : decode cJ6_numberOfTrailingZeros_0f7a4 44 = .ok (.iload_n 0, 1) := by decide +kernel
theorem dJ6_numberOfTrailingZeros_0f7a4_45 : decode cJ6_numberOfTrailingZeros_0f7a4 45 = .ok (.bipush 8, 2) := by decide +kernel
theorem dJ6_numberOfTrailingZeros_0f7a4_47 : decode cJ6_numberOfTrailingZeros_0f7a4 47 = .ok (.iushr, 1) := by decide +kernel
theorem dJ6_numberOfTrailingZeros_0f7a4_48 : decode cJ6_numberOfTrailingZeros_0f7a4 48 = .ok (.istore_n 0, 1) := by decide +kernel
theorem dJ6_numberOfTrailingZeros_0f7a4_49 : decode cJ6_numberOfTrailingZeros_0f7a4 49 = .ok (.iload_n 0, 1) := by decide +kernel
theorem dJ6_numberOfTrailingZeros_0f7a4_50 : decode cJ6_numberOfTrailingZeros_0f7a4 50 = .ok (.bipush 16, 2) := by decide +kernel
theorem dJ6_numberOfTrailingZeros_0f7a4_52 : decode cJ6_numberOfTrailingZeros_0f7a4 52 = .ok (.if_icmp .le 10, 3) := by decide +kernel
theorem dJ6_numberOfTrailingZeros_0f7a4_55 : decode cJ6_numberOfTrailingZeros_0f7a4 55 = .ok (.iinc 1 4, 3) := by decide +kernel
theorem dJ6_numberOfTrailingZeros_0f7a4_58 : decode cJ6_numberOfTrailingZeros_0f7a4 58 = .ok (.iload_n 0, 1) := by decide +kernel
theorem dJ6_numberOfTrailingZeros_0f7a4_59 : decode cJ6_numberOfTrailingZeros_0f7a4 59 = .ok (.iconst 4, 1) := by decide +kernel
theorem dJ6_numberOfTrailingZeros_0f7a4_60 : decode cJ6_numberOfTrailingZeros_0f7a4 60 = .ok (.iushr, 1) := by decide +kernel
theorem dJ6_numberOfTrailingZeros_0f7a4_61 : decode cJ6_numberOfTrailingZeros_0f7a4 61 = .ok (.istore_n 0, 1) := by decide +kernel
theorem dJ6_numberOfTrailingZeros_0f7a4_62 : decode cJ6_numberOfTrailingZeros_0f7a4 62 = .ok (.iload_n 0, 1) := by decide +kernel
theorem dJ6_numberOfTrailingZeros_0f7a4_63 : decode cJ6_numberOfTrailingZeros_0f7a4 63 = .ok (.iconst 4, 1) := by decide +kernel
theorem dJ6_numberOfTrailingZeros_0f7a4_64 : decode cJ6_numberOfTrailingZeros_0f7a4 64 = .ok (.if_icmp .le 10, 3) := by decide +kernel
theorem dJ6_numberOfTrailingZeros_0f7a4_67 : decode cJ6_numberOfTrailingZeros_0f7a4 67 = .ok (.iinc 1 2, 3) := by decide +kernel
theorem dJ6_numberOfTrailingZeros_0f7a4_70 : decode cJ6_numberOfTrailingZeros_0f7a4 70 = .ok (.iload_n 0, 1) := by decide +kernel
theorem dJ6_numberOfTrailingZeros_0f7a4_71 : decode cJ6_numberOfTrailingZeros_0f7a4 71 = .ok (.iconst 2, 1) := by decide +kernel
theorem dJ6_numberOfTrailingZeros_0f7a4_72 : decode cJ6_numberOfTrailingZeros_0f7a4 72 = .ok (.iushr, 1) := by decide +kernel
theorem dJ6_numberOfTrailingZeros_0f7a4_73 : decode cJ6_numberOfTrailingZeros_0f7a4 73 = .ok (.istore_n 0, 1) := by decide +kernel
theorem dJ6_numberOfTrailingZeros_0f7a4_74 : decode cJ6_numberOfTrailingZeros_0f7a4 74 = .ok (.iload_n 1, 1) := by decide +kernel
theorem dJ6_numberOfTrailingZeros_0f7a4_75 : decode cJ6_numberOfTrailingZeros_0f7a4 75 = .ok (.iload_n 0, 1) := by decide +kernel
theorem dJ6_numberOfTrailingZeros_0f7a4_76 : decode cJ6_numberOfTrailingZeros_0f7a4 76 = .ok (.iconst 1, 1) := by decide +kernel
theorem dJ6_numberOfTrailingZeros_0f7a4_77 : decode cJ6_numberOfTrailingZeros_0f7a4 77 = .ok (.iushr, 1) := by decide +kernel
theorem dJ6_numberOfTrailingZeros_0f7a4_78 : decode cJ6_numberOfTrailingZeros_0f7a4 78 = .ok (.iadd, 1) := by decide +kernel
theorem dJ6_numberOfTrailingZeros_0f7a4_79 : decode cJ6_numberOfTrailingZeros_0f7a4 79 = .ok (.ireturn, 1) := by decide +kernel
theorem dJ6_bitCount_0f7a4_0 : decode cJ6_bitCount_0f7a4 0 = .ok (.iload_n 0, 1) := by decide +kernel
theorem dJ6_bitCount_0f7a4_1 : decode cJ6_bitCount_0f7a4 1 = .ok (.iload_n 0, 1) := by decide +kernel
theorem dJ6_bitCount_0f7a4_2 : decode cJ6_bitCount_0f7a4 2 = .ok (.iconst 1, 1) := by decide +kernel
theorem dJ6_bitCount_0f7a4_3 : decode cJ6_bitCount_0f7a4 3 = .ok (.iushr, 1) := by decide +kernel
theorem dJ6_bitCount_0f7a4_4 : decode cJ6_bitCount_0f7a4 4 = .ok (.ldc_w 265, 3) := by decide +kernel
theorem dJ6_bitCount_0f7a4_7 : decode cJ6_bitCount_0f7a4 7 = .ok (.iand, 1) := by decide +kernel
theorem dJ6_bitCount_0f7a4_8 : decode cJ6_bitCount_0f7a4 8 = .ok (.isub, 1) := by decide +kernel
theorem dJ6_bitCount_0f7a4_9 : decode cJ6_bitCount_0f7a4 9 = .ok (.istore_n 0, 1) := by decide +kernel
theorem dJ6_bitCount_0f7a4_10 : decode cJ6_bitCount_0f7a4 10 = .ok (.iload_n 0, 1) := by decide +kernel
theorem dJ6_bitCount_0f7a4_11 : decode cJ6_bitCount_0f7a4 11 = .ok (.ldc_w 266, 3) := by decide +kernel
theorem dJ6_bitCount_0f7a4_14 : decode cJ6_bitCount_0f7a4 14 = .ok (.iand, 1) := by decide +kernel
theorem dJ6_bitCount_0f7a4_15 : decode cJ6_bitCount_0f7a4 15 = .ok (.iload_n 0, 1) := by decide +kernel
theorem dJ6_bitCount_0f7a4_16 : decode cJ6_bitCount_0f7a4 16 = .ok (.iconst 2, 1) := by decide +kernel
theorem dJ6_bitCount_0f7a4_17 : decode cJ6_bitCount_0f7a4 17 = .ok (.iushr, 1) := by decide +kernel
theorem dJ6_bitCount_0f7a4_18 : decode cJ6_bitCount_0f7a4 18 = .ok (.ldc_w 266, 3) := by decide +kernel
theorem dJ6_bitCount_0f7a4_21 : decode cJ6_bitCount_0f7a4 21 = .ok (.iand, 1) := by decide +kernel
theorem dJ6_bitCount_0f7a4_22 : decode cJ6_bitCount_0f7a4 22 = .ok (.iadd, 1) := by decide +kernel
theorem dJ6_bitCount_0f7a4_23 : decode cJ6_bitCount_0f7a4 23 = .ok (.istore_n 0, 1) := by decide +kernel
theorem dJ6_bitCount_0f7a4_24 : decode cJ6_bitCount_0f7a4 24 = .ok (.iload_n 0, 1) := by decide +kernel
theorem dJ6_bitCount_0f7a4_25 : decode cJ6_bitCount_0f7a4 25 = .ok (.iload_n 0, 1) := by decide +kernel
theorem dJ6_bitCount_0f7a4_26 : decode cJ6_bitCount_0f7a4 26 = .ok (.iconst 4, 1) := by decide +kernel
theorem dJ6_bitCount_0f7a4_27 : decode cJ6_bitCount_0f7a4 27 = .ok (.iushr, 1) := by decide +kernel
theorem dJ6_bitCount_0f7a4_28 : decode cJ6_bitCount_0f7a4 28 = .ok (.iadd, 1) := by decide +kernel
theorem dJ6_bitCount_0f7a4_29 : decode cJ6_bitCount_0f7a4 29 = .ok (.ldc_w 267, 3) := by decide +kernel
theorem dJ6_bitCount_0f7a4_32 : decode cJ6_bitCount_0f7a4 32 = .ok (.iand, 1) := by decide +kernel
theorem dJ6_bitCount_0f7a4_33 : decode cJ6_bitCount_0f7a4 33 = .ok (.istore_n 0, 1) := by decide +kernel
theorem dJ6_bitCount_0f7a4_34 : decode cJ6_bitCount_0f7a4 34 = .ok (.iload_n 0, 1) := by decide +kernel
theorem dJ6_bitCount_0f7a4_35 : decode cJ6_bitCount_0f7a4 35 = .ok (.iload_n 0, 1) := by decide +kernel
theorem dJ6_bitCount_0f7a4_36 : decode cJ6_bitCount_0f7a4 36 = .ok (.bipush 8, 2) := by decide +kernel
theorem dJ6_bitCount_0f7a4_38 : decode cJ6_bitCount_0f7a4 38 = .ok (.iushr, 1) := by decide +kernel
theorem dJ6_bitCount_0f7a4_39 : decode cJ6_bitCount_0f7a4 39 = .ok (.iadd, 1) := by decide +kernel
theorem dJ6_bitCount_0f7a4_40 : decode cJ6_bitCount_0f7a4 40 = .ok (.istore_n 0, 1) := by decide +kernel
theorem dJ6_bitCount_0f7a4_41 : decode cJ6_bitCount_0f7a4 41 = .ok (.iload_n 0, 1) := by decide +kernel
theorem dJ6_bitCount_0f7a4_42 : decode cJ6_bitCount_0f7a4 42 = .ok (.iload_n 0, 1) := by decide +kernel
theorem dJ6_bitCount_0f7a4_43 : decode cJ6_bitCount_0f7a4 43 = .ok (.bipush 16, 2) := by decide +kernel
theorem dJ6_bitCount_0f7a4_45 : decode cJ6_bitCount_0f7a4 45 = .ok (.iushr, 1) := by decide +kernel
theorem dJ6_bitCount_0f7a4_46 : decode cJ6_bitCount_0f7a4 46 = .ok (.iadd, 1) := by decide +kernel
theorem dJ6_bitCount_0f7a4_47 : decode cJ6_bitCount_0f7a4 47 = .ok (.istore_n 0, 1) := by decide +kernel
theorem dJ6_bitCount_0f7a4_48 : decode cJ6_bitCount_0f7a4 48 = .ok (.iload_n 0, 1) := by decide +kernel
theorem dJ6_bitCount_0f7a4_49 : decode cJ6_bitCount_0f7a4 49 = .ok (.bipush 63, 2) := by decide +kernel
theorem dJ6_bitCount_0f7a4_51 : decode cJ6_bitCount_0f7a4 51 = .ok (.iand, 1) := by decide +kernel
theorem dJ6_bitCount_0f7a4_52 : decode cJ6_bitCount_0f7a4 52 = .ok (.ireturn, 1) := by decide +kernel
theorem dJ9_abs_0f7a4_0 : decode cJ9_abs_0f7a4 0 = .ok (.iload_n 0, 1) := by decide +kernel
theorem dJ9_abs_0f7a4_1 : decode cJ9_abs_0f7a4 1 = .ok (.ifCond .ge 8, 3) := by decide +kernel
theorem dJ9_abs_0f7a4_4 : decode cJ9_abs_0f7a4 4 = .ok (.iload_n 0, 1) := by decide +kernel
theorem dJ9_abs_0f7a4_5 : decode cJ9_abs_0f7a4 5 = .ok (.ineg, 1) := by decide +kernel
theorem dJ9_abs_0f7a4_6 : decode cJ9_abs_0f7a4 6 = .ok (.goto 4, 3) := by decide +kernel
theorem dJ9_abs_0f7a4_9 : decode cJ9_abs_0f7a4 9 = .ok (.iload_n 0, 1) := by decide +kernel
theorem dJ9_abs_0f7a4_10 : decode cJ9_abs_0f7a4 10 = .ok (.ireturn, 1) := by decide +kernel
theorem dJ9_max_7cf53_0 : decode cJ9_max_7cf53 0 = .ok (.iload_n 0, 1) := by decide +kernel
theorem dJ9_max_7cf53_1 : decode cJ9_max_7cf53 1 = .ok (.iload_n 1, 1) := by decide +kernel
theorem dJ9_max_7cf53_2 : decode cJ9_max_7cf53 2 = .ok (.if_icmp .lt 7, 3) := by decide +kernel
theorem dJ9_max_7cf53_5 : decode cJ9_max_7cf53 5 = .ok (.iload_n 0, 1) := by decide +kernel
theorem dJ9_max_7cf53_6 : decode cJ9_max_7cf53 6 = .ok (.goto 4, 3) := by decide +kernel
theorem dJ9_max_7cf53_9 : decode cJ9_max_7cf53 9 = .ok (.iload_n 1, 1) := by decide +kernel
theorem dJ9_max_7cf53_10 : decode cJ9_max_7cf53 10 = .ok (.ireturn, 1) := by decide +kernel
theorem dJ9_min_7cf53_0 : decode cJ9_min_7cf53 0 = .ok (.iload_n 0, 1) := by decide +kernel
theorem dJ9_min_7cf53_1 : decode cJ9_min_7cf53 1 = .ok (.iload_n 1, 1) := by decide +kernel
theorem dJ9_min_7cf53_2 : decode cJ9_min_7cf53 2 = .ok (.if_icmp .gt 7, 3) := by decide +kernel
theorem dJ9_min_7cf53_5 : decode cJ9_min_7cf53 5 = .ok (.iload_n 0, 1) := by decide +kernel
theorem dJ9_min_7cf53_6 : decode cJ9_min_7cf53 6 = .ok (.goto 4, 3) := by decide +kernel
theorem dJ9_min_7cf53_9 : decode cJ9_min_7cf53 9 = .ok (.iload_n 1, 1) := by decide +kernel
theorem dJ9_min_7cf53_10 : decode cJ9_min_7cf53 10 = .ok (.ireturn, 1) := by decide +kernel
theorem dJ0_length_8abf5_0 : decode cJ0_length_8abf5 0 = .ok (.aload_n 0, 1) := by decide +kernel
theorem dJ0_length_8abf5_1 : decode cJ0_length_8abf5 1 = .ok (.getfield 9, 3) := by decide +kernel
theorem dJ0_length_8abf5_4 : decode cJ0_length_8abf5 4 = .ok (.arraylength, 1) := by decide +kernel
theorem dJ0_length_8abf5_5 : decode cJ0_length_8abf5 5 = .ok (.aload_n 0, 1) := by decide +kernel
theorem dJ0_length_8abf5_6 : decode cJ0_length_8abf5 6 = .ok (.invokevirtual 335, 3) := by decide +kernel
theorem dJ0_length_8abf5_9 : decode cJ0_length_8abf5 9 = .ok (.ishr, 1) := by decide +kernel
theorem dJ0_length_8abf5_10 : decode cJ0_length_8abf5 10 = .ok (.ireturn, 1) := by decide +kernel
theorem dJ0_isEmpty_aae02_0 : decode cJ0_isEmpty_aae02 0 = .ok (.aload_n 0, 1) := by decide +kernel
theorem dJ0_isEmpty_aae02_1 : decode cJ0_isEmpty_aae02 1 = .ok (.getfield 9, 3) := by decide +kernel
theorem dJ0_isEmpty_aae02_4 : decode cJ0_isEmpty_aae02 4 = .ok (.arraylength, 1) := by decide +kernel
theorem dJ0_isEmpty_aae02_5 : decode cJ0_isEmpty_aae02 5 = .ok (.ifCond .ne 7, 3) := by decide +kernel
theorem dJ0_isEmpty_aae02_8 : decode cJ0_isEmpty_aae02 8 = .ok (.iconst 1, 1) := by decide +kernel
theorem dJ0_isEmpty_aae02_9 : decode cJ0_isEmpty_aae02 9 = .ok (.goto 4, 3) := by decide +kernel
theorem dJ0_isEmpty_aae02_12 : decode cJ0_isEmpty_aae02 12 = .ok (.iconst 0, 1) := by decide +kernel
theorem dJ0_isEmpty_aae02_13 : decode cJ0_isEmpty_aae02 13 = .ok (.ireturn, 1) := by decide +kernel
theorem dJ0_charAt_5068e_0 : decode cJ0_charAt_5068e 0 = .ok (.aload_n 0, 1) := by decide +kernel
theorem dJ0_charAt_5068e_1 : decode cJ0_charAt_5068e 1 = .ok (.invokevirtual 492, 3) := by decide +kernel
theorem dJ0_charAt_5068e_4 : decode cJ0_charAt_5068e 4 = .ok (.ifCond .eq 12, 3) := by decide +kernel
theorem dJ0_charAt_5068e_7 : decode cJ0_charAt_5068e 7 = .ok (.aload_n 0, 1) := by decide +kernel
theorem dJ0_charAt_5068e_8 : decode cJ0_charAt_5068e 8 = .ok (.getfield 9, 3) := by decide +kernel
theorem dJ0_charAt_5068e_11 : decode cJ0_charAt_5068e 11 = .ok (.iload_n 1, 1) := by decide +kernel
theorem dJ0_charAt_5068e_12 : decode cJ0_charAt_5068e 12 = .ok (.invokestatic 495, 3) := by decide +kernel
theorem dJ0_charAt_5068e_15 : decode cJ0_charAt_5068e 15 = .ok (.ireturn, 1) := by decide +kernel
theorem dJ0_charAt_5068e_16 : decode cJ0_charAt_5068e 16 = .ok (.aload_n 0, 1) := by decide +kernel
theorem dJ0_charAt_5068e_17 : decode cJ0_charAt_5068e 17 = .ok (.getfield 9, 3) := by decide +kernel
theorem dJ0_charAt_5068e_20 : decode cJ0_charAt_5068e 20 = .ok (.iload_n 1, 1) := by decide +kernel
theorem dJ0_charAt_5068e_21 : decode cJ0_charAt_5068e 21 = .ok (.invokestatic 498, 3) := by decide +kernel
theorem dJ0_charAt_5068e_24 : decode cJ0_charAt_5068e 24 = .ok (.ireturn, 1) := by decide +kernel
theorem dJ0_coder_7d493_0 : decode cJ0_coder_7d493 0 = .ok (.getstatic 38, 3) := by decide +kernel
theorem dJ0_coder_7d493_3 : decode cJ0_coder_7d493 3 = .ok (.ifCond .eq 10, 3) := by decide +kernel
theorem dJ0_coder_7d493_6 : decode cJ0_coder_7d493 6 = .ok (.aload_n 0, 1) := by decide +kernel
theorem dJ0_coder_7d493_7 : decode cJ0_coder_7d493 7 = .ok (.getfield 15, 3) := by decide +kernel
theorem dJ0_coder_7d493_10 : decode cJ0_coder_7d493 10 = .ok (.goto 4, 3) := by decide +kernel
theorem dJ0_coder_7d493_13 : decode cJ0_coder_7d493 13 = .ok (.iconst 1, 1) := by decide +kernel
theorem dJ0_coder_7d493_14 : decode cJ0_coder_7d493 14 = .ok (.ireturn, 1) := by decide +kernel
theorem dJ0_isLatin1_aae02_0 : decode cJ0_isLatin1_aae02 0 = .ok (.getstatic 38, 3) := by decide +kernel
theorem dJ0_isLatin1_aae02_3 : decode cJ0_isLatin1_aae02 3 = .ok (.ifCond .eq 14, 3) := by decide +kernel
theorem dJ0_isLatin1_aae02_6 : decode cJ0_isLatin1_aae02 6 = .ok (.aload_n 0, 1) := by decide +kernel
theorem dJ0_isLatin1_aae02_7 : decode cJ0_isLatin1_aae02 7 = .ok (.getfield 15, 3) := by decide +kernel
theorem dJ0_isLatin1_aae02_10 : decode cJ0_isLatin1_aae02 10 = .ok (.ifCond .ne 7, 3) := by decide +kernel
theorem dJ0_isLatin1_aae02_13 : decode cJ0_isLatin1_aae02 13 = .ok (.iconst 1, 1) := by decide +kernel
theorem dJ0_isLatin1_aae02_14 : decode cJ0_isLatin1_aae02 14 = .ok (.goto 4, 3) := by decide +kernel
theorem dJ0_isLatin1_aae02_17 : decode cJ0_isLatin1_aae02 17 = .ok (.iconst 0, 1) := by decide +kernel
theorem dJ0_isLatin1_aae02_18 : decode cJ0_isLatin1_aae02 18 = .ok (.ireturn, 1) := by decide +kernel
theorem dJ0_checkIndex_df160_0 : decode cJ0_checkIndex_df160 0 = .ok (.iload_n 0, 1) := by decide +kernel
theorem dJ0_checkIndex_df160_1 : decode cJ0_checkIndex_df160 1 = .ok (.iload_n 1, 1) := by decide +kernel
theorem dJ0_checkIndex_df160_2 : decode cJ0_checkIndex_df160 2 = .ok (.getstatic 1053, 3) := by decide +kernel
theorem dJ0_checkIndex_df160_5 : decode cJ0_checkIndex_df160 5 = .ok (.invokestatic 1059, 3) := by decide +kernel
theorem dJ0_checkIndex_df160_8 : decode cJ0_checkIndex_df160 8 = .ok (.pop, 1) := by decide +kernel
theorem dJ0_checkIndex_df160_9 : decode cJ0_checkIndex_df160 9 = .ok (.return_, 1) := by decide +kernel
theorem dJ1_charAt_3b067_0 : decode cJ1_charAt_3b067 0 = .ok (.iload_n 1, 1) := by decide +kernel
theorem dJ1_charAt_3b067_1 : decode cJ1_charAt_3b067 1 = .ok (.aload_n 0, 1) := by decide +kernel
theorem dJ1_charAt_3b067_2 : decode cJ1_charAt_3b067 2 = .ok (.arraylength, 1) := by decide +kernel
theorem dJ1_charAt_3b067_3 : decode cJ1_charAt_3b067 3 = .ok (.invokestatic 9, 3) := by decide +kernel
theorem dJ1_charAt_3b067_6 : decode cJ1_charAt_3b067 6 = .ok (.aload_n 0, 1) := by decide +kernel
theorem dJ1_charAt_3b067_7 : decode cJ1_charAt_3b067 7 = .ok (.iload_n 1, 1) := by decide +kernel
theorem dJ1_charAt_3b067_8 : decode cJ1_charAt_3b067 8 = .ok (.baload, 1) := by decide +kernel
theorem dJ1_charAt_3b067_9 : decode cJ1_charAt_3b067 9 = .ok (.sipush 255, 3) := by decide +kernel
theorem dJ1_charAt_3b067_12 : decode cJ1_charAt_3b067 12 = .ok (.iand, 1) := by decide +kernel
theorem dJ1_charAt_3b067_13 : decode cJ1_charAt_3b067 13 = .ok (.i2c, 1) := by decide +kernel
theorem dJ1_charAt_3b067_14 : decode cJ1_charAt_3b067 14 = .ok (.ireturn, 1) := by decide +kernel
theorem dJ2_getChar_3b067_0 : decode cJ2_getChar_3b067 0 = .ok (.getstatic 44, 3) := by decide +kernel
theorem dJ2_getChar_3b067_3 : decode cJ2_getChar_3b067 3 = .ok (.ifCond .ne 25, 3) := by decide +kernel
theorem dJ2_getChar_3b067_6 : decode cJ2_getChar_3b067 6 = .ok (.iload_n 1, 1) := by decide +kernel
theorem dJ2_getChar_3b067_7 : decode cJ2_getChar_3b067 7 = .ok (.ifCond .lt 11, 3) := by decide +kernel
theorem dJ2_getChar_3b067_10 : decode cJ2_getChar_3b067 10 = .ok (.iload_n 1, 1) := by decide +kernel
theorem dJ2_getChar_3b067_11 : decode cJ2_getChar_3b067 11 = .ok (.aload_n 0, 1) := by decide +kernel
theorem dJ2_getChar_3b067_12 : decode cJ2_getChar_3b067 12 = .ok (.invokestatic 48, 3) := by decide +kernel
theorem dJ2_getChar_3b067_15 : decode cJ2_getChar_3b067 15 = .ok (.if_icmp .lt 13, 3) := by decide +kernel
theorem dJ2_getChar_3b067_18 : decode cJ2_getChar_3b067 18 = .ok (.new 52, 3) := by decide +kernel
theorem dJ2_getChar_3b067_21 : decode cJ2_getChar_3b067 21 = .ok (.dup, 1) := by decide +kernel
theorem dJ2_getChar_3b067_22 : decode cJ2_getChar_3b067 22 = .ok (.ldc 54, 2) := by decide +kernel
theorem dJ2_getChar_3b067_24 : decode cJ2_getChar_3b067 24 = .ok (.invokespecial 56, 3) := by decide +kernel
theorem dJ2_getChar_3b067_27 : decode cJ2_getChar_3b067 27 = .ok (.athrow, 1) := by decide +kernel
theorem dJ2_getChar_3b067_28 : decode cJ2_getChar_3b067 28 = .ok (.iload_n 1, 1) := by decide +kernel
theorem dJ2_getChar_3b067_29 : decode cJ2_getChar_3b067 29 = .ok (.iconst 1, 1) := by decide +kernel
theorem dJ2_getChar_3b067_30 : decode cJ2_getChar_3b067 30 = .ok (.ishl, 1) := by decide +kernel
theorem dJ2_getChar_3b067_31 : decode cJ2_getChar_3b067 31 = .ok (.istore_n 1, 1) := by decide +kernel
theorem dJ2_getChar_3b067_32 : decode cJ2_getChar_3b067 32 = .ok (.aload_n 0, 1) := by decide +kernel
theorem dJ2_getChar_3b067_33 : decode cJ2_getChar_3b067 33 = .ok (.iload_n 1, 1) := by decide +kernel
theorem dJ2_getChar_3b067_34 : decode cJ2_getChar_3b067 34 = .ok (.iinc 1 1, 3) := by decide +kernel
theorem dJ2_getChar_3b067_37 : decode cJ2_getChar_3b067 37 = .ok (.baload, 1) := by decide +kernel
theorem dJ2_getChar_3b067_38 : decode cJ2_getChar_3b067 38 = .ok (.sipush 255, 3) := by decide +kernel
theorem dJ2_getChar_3b067_41 : decode cJ2_getChar_3b067 41 = .ok (.iand, 1) := by decide +kernel
theorem dJ2_getChar_3b067_42 : decode cJ2_getChar_3b067 42 = .ok (.getstatic 59, 3) := by decide +kernel
theorem dJ2_getChar_3b067_45 : decode cJ2_getChar_3b067 45 = .ok (.ishl, 1) := by decide +kernel
theorem dJ2_getChar_3b067_46 : decode cJ2_getChar_3b067 46 = .ok (.aload_n 0, 1) := by decide +kernel
theorem dJ2_getChar_3b067_47 : decode cJ2_getChar_3b067 47 = .ok (.iload_n 1, 1) := by decide +kernel
theorem dJ2_getChar_3b067_48 : decode cJ2_getChar_3b067 48 = .ok (.baload, 1) := by decide +kernel
theorem dJ2_getChar_3b067_49 : decode cJ2_getChar_3b067 49 = .ok (.sipush 255, 3) := by decide +kernel
theorem dJ2_getChar_3b067_52 : decode cJ2_getChar_3b067 52 = .ok (.iand, 1) := by decide +kernel
theorem dJ2_getChar_3b067_53 : decode cJ2_getChar_3b067 53 = .ok (.getstatic 63, 3) := by decide +kernel
theorem dJ2_getChar_3b067_56 : decode cJ2_getChar_3b067 56 = .ok (.ishl, 1) := by decide +kernel
theorem dJ2_getChar_3b067_57 : decode cJ2_getChar_3b067 57 = .ok (.ior, 1) := by decide +kernel
theorem dJ2_getChar_3b067_58 : decode cJ2_getChar_3b067 58 = .ok (.i2c, 1) := by decide +kernel
theorem dJ2_getChar_3b067_59 : decode cJ2_getChar_3b067 59 = .ok (.ireturn, 1) := by decide +kernel
theorem dJ2_length_9d52b_0 : decode cJ2_length_9d52b 0 = .ok (.aload_n 0, 1) := by decide +kernel
theorem dJ2_length_9d52b_1 : decode cJ2_length_9d52b 1 = .ok (.arraylength, 1) := by decide +kernel
theorem dJ2_length_9d52b_2 : decode cJ2_length_9d52b 2 = .ok (.iconst 1, 1) := by decide +kernel
theorem dJ2_length_9d52b_3 : decode cJ2_length_9d52b 3 = .ok (.ishr, 1) := by decide +kernel
theorem dJ2_length_9d52b_4 : decode cJ2_length_9d52b 4 = .ok (.ireturn, 1) := by decide +kernel
theorem dJ2_charAt_3b067_0 : decode cJ2_charAt_3b067 0 = .ok (.iload_n 1, 1) := by decide +kernel
theorem dJ2_charAt_3b067_1 : decode cJ2_charAt_3b067 1 = .ok (.aload_n 0, 1) := by decide +kernel
theorem dJ2_charAt_3b067_2 : decode cJ2_charAt_3b067 2 = .ok (.invokestatic 67, 3) := by decide +kernel
theorem dJ2_charAt_3b067_5 : decode cJ2_charAt_3b067 5 = .ok (.aload_n 0, 1) := by decide +kernel
theorem dJ2_charAt_3b067_6 : decode cJ2_charAt_3b067 6 = .ok (.iload_n 1, 1) := by decide +kernel
theorem dJ2_charAt_3b067_7 : decode cJ2_charAt_3b067 7 = .ok (.invokestatic 71, 3) := by decide +kernel
theorem dJ2_charAt_3b067_10 : decode cJ2_charAt_3b067 10 = .ok (.ireturn, 1) := by decide +kernel
theorem dJ2_checkIndex_2214a_0 : decode cJ2_checkIndex_2214a 0 = .ok (.iload_n 0, 1) := by decide +kernel
theorem dJ2_checkIndex_2214a_1 : decode cJ2_checkIndex_2214a 1 = .ok (.aload_n 1, 1) := by decide +kernel
theorem dJ2_checkIndex_2214a_2 : decode cJ2_checkIndex_2214a 2 = .ok (.invokestatic 48, 3) := by decide +kernel
theorem dJ2_checkIndex_2214a_5 : decode cJ2_checkIndex_2214a 5 = .ok (.invokestatic 414, 3) := by decide +kernel
theorem dJ2_checkIndex_2214a_8 : decode cJ2_checkIndex_2214a 8 = .ok (.return_, 1) := by decide +kernel
theorem dJ3_checkIndex_8e157_0 : decode cJ3_checkIndex_8e157 0 = .ok (.iload_n 0, 1) := by decide +kernel
theorem dJ3_checkIndex_8e157_1 : decode cJ3_checkIndex_8e157 1 = .ok (.ifCond .lt 8, 3) := by decide +kernel
theorem dJ3_checkIndex_8e157_4 : decode cJ3_checkIndex_8e157 4 = .ok (.iload_n 0, 1) := by decide +kernel
theorem dJ3_checkIndex_8e157_5 : decode cJ3_checkIndex_8e157 5 = .ok (.iload_n 1, 1) := by decide +kernel
theorem dJ3_checkIndex_8e157_6 : decode cJ3_checkIndex_8e157 6 = .ok (.if_icmp .lt 10, 3) := by decide +kernel
theorem dJ3_checkIndex_8e157_9 : decode cJ3_checkIndex_8e157 9 = .ok (.aload_n 2, 1) := by decide +kernel
theorem dJ3_checkIndex_8e157_10 : decode cJ3_checkIndex_8e157 10 = .ok (.iload_n 0, 1) := by decide +kernel
theorem dJ3_checkIndex_8e157_11 : decode cJ3_checkIndex_8e157 11 = .ok (.iload_n 1, 1) := by decide +kernel
theorem dJ3_checkIndex_8e157_12 : decode cJ3_checkIndex_8e157 12 = .ok (.invokestatic 95, 3) := by decide +kernel
theorem dJ3_checkIndex_8e157_15 : decode cJ3_checkIndex_8e157 15 = .ok (.athrow, 1) := by decide +kernel
theorem dJ3_checkIndex_8e157_16 : decode cJ3_checkIndex_8e157 16 = .ok (.iload_n 0, 1) := by decide +kernel
theorem dJ3_checkIndex_8e157_17 : decode cJ3_checkIndex_8e157 17 = .ok (.ireturn, 1) := by decide +kernel
theorem dL_law_0 : decode cL_law 0 = .ok (.new 7, 3) := by decide +kernel
theorem dL_law_3 : decode cL_law 3 = .ok (.dup, 1) := by decide +kernel
theorem dL_law_4 : decode cL_law 4 = .ok (.invokespecial 9, 3) := by decide +kernel
theorem dL_law_7 : decode cL_law 7 = .ok (.astore_n 1, 1) := by decide +kernel
theorem dL_law_8 : decode cL_law 8 = .ok (.new 10, 3) := by decide +kernel
theorem dL_law_11 : decode cL_law 11 = .ok (.dup, 1) := by decide +kernel
theorem dL_law_12 : decode cL_law 12 = .ok (.invokespecial 12, 3) := by decide +kernel
theorem dL_law_15 : decode cL_law 15 = .ok (.astore_n 2, 1) := by decide +kernel
theorem dL_law_16 : decode cL_law 16 = .ok (.iconst 0, 1) := by decide +kernel
theorem dL_law_17 : decode cL_law 17 = .ok (.istore_n 3, 1) := by decide +kernel
theorem dL_law_18 : decode cL_law 18 = .ok (.iload_n 3, 1) := by decide +kernel
theorem dL_law_19 : decode cL_law 19 = .ok (.aload_n 0, 1) := by decide +kernel
theorem dL_law_20 : decode cL_law 20 = .ok (.arraylength, 1) := by decide +kernel
theorem dL_law_21 : decode cL_law 21 = .ok (.bipush 7, 2) := by decide +kernel
theorem dL_law_23 : decode cL_law 23 = .ok (.isub, 1) := by decide +kernel
theorem dL_law_24 : decode cL_law 24 = .ok (.if_icmp .gt 1445, 3) := by decide +kernel
theorem dL_law_27 : decode cL_law 27 = .ok (.aload_n 0, 1) := by decide +kernel
theorem dL_law_28 : decode cL_law 28 = .ok (.iload_n 3, 1) := by decide +kernel
theorem dL_law_29 : decode cL_law 29 = .ok (.iaload, 1) := by decide +kernel
theorem dL_law_30 : decode cL_law 30 = .ok (.bipush 63, 2) := by decide +kernel
theorem dL_law_32 : decode cL_law 32 = .ok (.iand, 1) := by decide +kernel
theorem dL_law_33 : decode cL_law 33 = .ok (.tableswitch 1430 0 42 #[187, 210, 223, 256, 289, 322, 345, 378, 411, 444, 487, 510, 553, 586, 619, 642, 665, 708, 751, 784, 817, 840, 863, 896, 919, 942, 965, 988, 1011, 1044, 1067, 1080, 1113, 1156, 1232, 1256, 1289, 1312, 1325, 1338, 1381, 1394, 1407], 187) := by decide +kernel
theorem dL_law_220 : decode cL_law 220 = .ok (.aload_n 1, 1) := by decide +kernel
theorem dL_law_221 : decode cL_law 221 = .ok (.aload_n 0, 1) := by decide +kernel
theorem dL_law_222 : decode cL_law 222 = .ok (.iload_n 3, 1) := by decide +kernel
theorem dL_law_223 : decode cL_law 223 = .ok (.iconst 1, 1) := by decide +kernel
theorem dL_law_224 : decode cL_law 224 = .ok (.iadd, 1) := by decide +kernel
theorem dL_law_225 : decode cL_law 225 = .ok (.iaload, 1) := by decide +kernel
theorem dL_law_226 : decode cL_law 226 = .ok (.invokevirtual 13, 3) := by decide +kernel
theorem dL_law_229 : decode cL_law 229 = .ok (.aload_n 2, 1) := by decide +kernel
theorem dL_law_230 : decode cL_law 230 = .ok (.aload_n 0, 1) := by decide +kernel
theorem dL_law_231 : decode cL_law 231 = .ok (.iload_n 3, 1) := by decide +kernel
theorem dL_law_232 : decode cL_law 232 = .ok (.iconst 1, 1) := by decide +kernel
theorem dL_law_233 : decode cL_law 233 = .ok (.iadd, 1) := by decide +kernel
theorem dL_law_234 : decode cL_law 234 = .ok (.iaload, 1) := by decide +kernel
theorem dL_law_235 : decode cL_law 235 = .ok (.invokevirtual 17, 3) := by decide +kernel
theorem dL_law_238 : decode cL_law 238 = .ok (.if_icmp .eq 1225, 3) := by decide +kernel
theorem dL_law_241 : decode cL_law 241 = .ok (.iconst 0, 1) := by decide +kernel
theorem dL_law_242 : decode cL_law 242 = .ok (.ireturn, 1) := by decide +kernel
theorem dL_law_243 : decode cL_law 243 = .ok (.aload_n 1, 1) := by decide +kernel
theorem dL_law_244 : decode cL_law 244 = .ok (.invokevirtual 18, 3) := by decide +kernel
theorem dL_law_247 : decode cL_law 247 = .ok (.aload_n 2, 1) := by decide +kernel
theorem dL_law_248 : decode cL_law 248 = .ok (.invokevirtual 22, 3) := by decide +kernel
theorem dL_law_251 : decode cL_law 251 = .ok (.if_icmp .eq 1212, 3) := by decide +kernel
theorem dL_law_254 : decode cL_law 254 = .ok (.iconst 0, 1) := by decide +kernel
theorem dL_law_255 : decode cL_law 255 = .ok (.ireturn, 1) := by decide +kernel
theorem dL_law_256 : decode cL_law 256 = .ok (.aload_n 1, 1) := by decide +kernel
theorem dL_law_257 : decode cL_law 257 = .ok (.aload_n 0, 1) := by decide +kernel
theorem dL_law_258 : decode cL_law 258 = .ok (.iload_n 3, 1) := by decide +kernel
theorem dL_law_259 : decode cL_law 259 = .ok (.iconst 1, 1) := by decide +kernel
theorem dL_law_260 : decode cL_law 260 = .ok (.iadd, 1) := by decide +kernel
theorem dL_law_261 : decode cL_law 261 = .ok (.iaload, 1) := by decide +kernel
theorem dL_law_262 : decode cL_law 262 = .ok (.aload_n 0, 1) := by decide +kernel
theorem dL_law_263 : decode cL_law 263 = .ok (.iload_n 3, 1) := by decide +kernel
theorem dL_law_264 : decode cL_law 264 = .ok (.iconst 2, 1) := by decide +kernel
theorem dL_law_265 : decode cL_law 265 = .ok (.iadd, 1) := by decide +kernel
theorem dL_law_266 : decode cL_law 266 = .ok (.iaload, 1) := by decide +kernel
theorem dL_law_267 : decode cL_law 267 = .ok (.invokevirtual 23, 3) := by decide +kernel
theorem dL_law_270 : decode cL_law 270 = .ok (.aload_n 2, 1) := by decide +kernel
theorem dL_law_271 : decode cL_law 271 = .ok (.aload_n 0, 1) := by decide +kernel
theorem dL_law_272 : decode cL_law 272 = .ok (.iload_n 3, 1) := by decide +kernel
theorem dL_law_273 : decode cL_law 273 = .ok (.iconst 1, 1) := by decide +kernel
theorem dL_law_274 : decode cL_law 274 = .ok (.iadd, 1) := by decide +kernel
theorem dL_law_275 : decode cL_law 275 = .ok (.iaload, 1) := by decide +kernel
theorem dL_law_276 : decode cL_law 276 = .ok (.aload_n 0, 1) := by decide +kernel
theorem dL_law_277 : decode cL_law 277 = .ok (.iload_n 3, 1) := by decide +kernel
theorem dL_law_278 : decode cL_law 278 = .ok (.iconst 2, 1) := by decide +kernel
theorem dL_law_279 : decode cL_law 279 = .ok (.iadd, 1) := by decide +kernel
theorem dL_law_280 : decode cL_law 280 = .ok (.iaload, 1) := by decide +kernel
theorem dL_law_281 : decode cL_law 281 = .ok (.invokevirtual 27, 3) := by decide +kernel
theorem dL_law_284 : decode cL_law 284 = .ok (.if_icmp .eq 1179, 3) := by decide +kernel
theorem dL_law_287 : decode cL_law 287 = .ok (.iconst 0, 1) := by decide +kernel
theorem dL_law_288 : decode cL_law 288 = .ok (.ireturn, 1) := by decide +kernel
theorem dL_law_289 : decode cL_law 289 = .ok (.aload_n 1, 1) := by decide +kernel
theorem dL_law_290 : decode cL_law 290 = .ok (.aload_n 0, 1) := by decide +kernel
theorem dL_law_291 : decode cL_law 291 = .ok (.iload_n 3, 1) := by decide +kernel
theorem dL_law_292 : decode cL_law 292 = .ok (.iconst 1, 1) := by decide +kernel
theorem dL_law_293 : decode cL_law 293 = .ok (.iadd, 1) := by decide +kernel
theorem dL_law_294 : decode cL_law 294 = .ok (.iaload, 1) := by decide +kernel
theorem dL_law_295 : decode cL_law 295 = .ok (.aload_n 0, 1) := by decide +kernel
theorem dL_law_296 : decode cL_law 296 = .ok (.iload_n 3, 1) := by decide +kernel
theorem dL_law_297 : decode cL_law 297 = .ok (.iconst 2, 1) := by decide +kernel
theorem dL_law_298 : decode cL_law 298 = .ok (.iadd, 1) := by decide +kernel
theorem dL_law_299 : decode cL_law 299 = .ok (.iaload, 1) := by decide +kernel
theorem dL_law_300 : decode cL_law 300 = .ok (.invokevirtual 28, 3) := by decide +kernel
theorem dL_law_303 : decode cL_law 303 = .ok (.aload_n 2, 1) := by decide +kernel
theorem dL_law_304 : decode cL_law 304 = .ok (.aload_n 0, 1) := by decide +kernel
theorem dL_law_305 : decode cL_law 305 = .ok (.iload_n 3, 1) := by decide +kernel
theorem dL_law_306 : decode cL_law 306 = .ok (.iconst 1, 1) := by decide +kernel
theorem dL_law_307 : decode cL_law 307 = .ok (.iadd, 1) := by decide +kernel
theorem dL_law_308 : decode cL_law 308 = .ok (.iaload, 1) := by decide +kernel
theorem dL_law_309 : decode cL_law 309 = .ok (.aload_n 0, 1) := by decide +kernel
theorem dL_law_310 : decode cL_law 310 = .ok (.iload_n 3, 1) := by decide +kernel
theorem dL_law_311 : decode cL_law 311 = .ok (.iconst 2, 1) := by decide +kernel
theorem dL_law_312 : decode cL_law 312 = .ok (.iadd, 1) := by decide +kernel
theorem dL_law_313 : decode cL_law 313 = .ok (.iaload, 1) := by decide +kernel
theorem dL_law_314 : decode cL_law 314 = .ok (.invokevirtual 31, 3) := by decide +kernel
theorem dL_law_317 : decode cL_law 317 = .ok (.if_icmp .eq 1146, 3) := by decide +kernel
theorem dL_law_320 : decode cL_law 320 = .ok (.iconst 0, 1) := by decide +kernel
theorem dL_law_321 : decode cL_law 321 = .ok (.ireturn, 1) := by decide +kernel
theorem dL_law_322 : decode cL_law 322 = .ok (.aload_n 1, 1) := by decide +kernel
theorem dL_law_323 : decode cL_law 323 = .ok (.aload_n 0, 1) := by decide +kernel
theorem dL_law_324 : decode cL_law 324 = .ok (.iload_n 3, 1) := by decide +kernel
theorem dL_law_325 : decode cL_law 325 = .ok (.iconst 1, 1) := by decide +kernel
theorem dL_law_326 : decode cL_law 326 = .ok (.iadd, 1) := by decide +kernel
theorem dL_law_327 : decode cL_law 327 = .ok (.iaload, 1) := by decide +kernel
theorem dL_law_328 : decode cL_law 328 = .ok (.aload_n 0, 1) := by decide +kernel
theorem dL_law_329 : decode cL_law 329 = .ok (.iload_n 3, 1) := by decide +kernel
theorem dL_law_330 : decode cL_law 330 = .ok (.iconst 2, 1) := by decide +kernel
theorem dL_law_331 : decode cL_law 331 = .ok (.iadd, 1) := by decide +kernel
theorem dL_law_332 : decode cL_law 332 = .ok (.iaload, 1) := by decide +kernel
theorem dL_law_333 : decode cL_law 333 = .ok (.invokevirtual 32, 3) := by decide +kernel
theorem dL_law_336 : decode cL_law 336 = .ok (.aload_n 2, 1) := by decide +kernel
theorem dL_law_337 : decode cL_law 337 = .ok (.aload_n 0, 1) := by decide +kernel
theorem dL_law_338 : decode cL_law 338 = .ok (.iload_n 3, 1) := by decide +kernel
theorem dL_law_339 : decode cL_law 339 = .ok (.iconst 1, 1) := by decide +kernel
theorem dL_law_340 : decode cL_law 340 = .ok (.iadd, 1) := by decide +kernel
theorem dL_law_341 : decode cL_law 341 = .ok (.iaload, 1) := by decide +kernel
theorem dL_law_342 : decode cL_law 342 = .ok (.aload_n 0, 1) := by decide +kernel
theorem dL_law_343 : decode cL_law 343 = .ok (.iload_n 3, 1) := by decide +kernel
theorem dL_law_344 : decode cL_law 344 = .ok (.iconst 2, 1) := by decide +kernel
theorem dL_law_345 : decode cL_law 345 = .ok (.iadd, 1) := by decide +kernel
theorem dL_law_346 : decode cL_law 346 = .ok (.iaload, 1) := by decide +kernel
theorem dL_law_347 : decode cL_law 347 = .ok (.invokevirtual 35, 3) := by decide +kernel
theorem dL_law_350 : decode cL_law 350 = .ok (.if_icmp .eq 1113, 3) := by decide +kernel
theorem dL_law_353 : decode cL_law 353 = .ok (.iconst 0, 1) := by decide +kernel
theorem dL_law_354 : decode cL_law 354 = .ok (.ireturn, 1) := by decide +kernel
theorem dL_law_355 : decode cL_law 355 = .ok (.aload_n 1, 1) := by decide +kernel
theorem dL_law_356 : decode cL_law 356 = .ok (.aload_n 0, 1) := by decide +kernel
theorem dL_law_357 : decode cL_law 357 = .ok (.iload_n 3, 1) := by decide +kernel
theorem dL_law_358 : decode cL_law 358 = .ok (.iconst 1, 1) := by decide +kernel
theorem dL_law_359 : decode cL_law 359 = .ok (.iadd, 1) := by decide +kernel
theorem dL_law_360 : decode cL_law 360 = .ok (.iaload, 1) := by decide +kernel
theorem dL_law_361 : decode cL_law 361 = .ok (.invokevirtual 36, 3) := by decide +kernel
theorem dL_law_364 : decode cL_law 364 = .ok (.aload_n 2, 1) := by decide +kernel
theorem dL_law_365 : decode cL_law 365 = .ok (.aload_n 0, 1) := by decide +kernel
theorem dL_law_366 : decode cL_law 366 = .ok (.iload_n 3, 1) := by decide +kernel
theorem dL_law_367 : decode cL_law 367 = .ok (.iconst 1, 1) := by decide +kernel
theorem dL_law_368 : decode cL_law 368 = .ok (.iadd, 1) := by decide +kernel
theorem dL_law_369 : decode cL_law 369 = .ok (.iaload, 1) := by decide +kernel
theorem dL_law_370 : decode cL_law 370 = .ok (.invokevirtual 39, 3) := by decide +kernel
theorem dL_law_373 : decode cL_law 373 = .ok (.if_icmp .eq 1090, 3) := by decide +kernel
theorem dL_law_376 : decode cL_law 376 = .ok (.iconst 0, 1) := by decide +kernel
theorem dL_law_377 : decode cL_law 377 = .ok (.ireturn, 1) := by decide +kernel
theorem dL_law_378 : decode cL_law 378 = .ok (.aload_n 1, 1) := by decide +kernel
theorem dL_law_379 : decode cL_law 379 = .ok (.aload_n 0, 1) := by decide +kernel
theorem dL_law_380 : decode cL_law 380 = .ok (.iload_n 3, 1) := by decide +kernel
theorem dL_law_381 : decode cL_law 381 = .ok (.iconst 1, 1) := by decide +kernel
theorem dL_law_382 : decode cL_law 382 = .ok (.iadd, 1) := by decide +kernel
theorem dL_law_383 : decode cL_law 383 = .ok (.iaload, 1) := by decide +kernel
theorem dL_law_384 : decode cL_law 384 = .ok (.aload_n 0, 1) := by decide +kernel
theorem dL_law_385 : decode cL_law 385 = .ok (.iload_n 3, 1) := by decide +kernel
theorem dL_law_386 : decode cL_law 386 = .ok (.iconst 2, 1) := by decide +kernel
theorem dL_law_387 : decode cL_law 387 = .ok (.iadd, 1) := by decide +kernel
theorem dL_law_388 : decode cL_law 388 = .ok (.iaload, 1) := by decide +kernel
theorem dL_law_389 : decode cL_law 389 = .ok (.invokevirtual 40, 3) := by decide +kernel
theorem dL_law_392 : decode cL_law 392 = .ok (.aload_n 2, 1) := by decide +kernel
theorem dL_law_393 : decode cL_law 393 = .ok (.aload_n 0, 1) := by decide +kernel
theorem dL_law_394 : decode cL_law 394 = .ok (.iload_n 3, 1) := by decide +kernel
theorem dL_law_395 : decode cL_law 395 = .ok (.iconst 1, 1) := by decide +kernel
theorem dL_law_396 : decode cL_law 396 = .ok (.iadd, 1) := by decide +kernel
theorem dL_law_397 : decode cL_law 397 = .ok (.iaload, 1) := by decide +kernel
theorem dL_law_398 : decode cL_law 398 = .ok (.aload_n 0, 1) := by decide +kernel
theorem dL_law_399 : decode cL_law 399 = .ok (.iload_n 3, 1) := by decide +kernel
theorem dL_law_400 : decode cL_law 400 = .ok (.iconst 2, 1) := by decide +kernel
theorem dL_law_401 : decode cL_law 401 = .ok (.iadd, 1) := by decide +kernel
theorem dL_law_402 : decode cL_law 402 = .ok (.iaload, 1) := by decide +kernel
theorem dL_law_403 : decode cL_law 403 = .ok (.invokevirtual 43, 3) := by decide +kernel
theorem dL_law_406 : decode cL_law 406 = .ok (.if_icmp .eq 1057, 3) := by decide +kernel
theorem dL_law_409 : decode cL_law 409 = .ok (.iconst 0, 1) := by decide +kernel
theorem dL_law_410 : decode cL_law 410 = .ok (.ireturn, 1) := by decide +kernel
theorem dL_law_411 : decode cL_law 411 = .ok (.aload_n 1, 1) := by decide +kernel
theorem dL_law_412 : decode cL_law 412 = .ok (.aload_n 0, 1) := by decide +kernel
theorem dL_law_413 : decode cL_law 413 = .ok (.iload_n 3, 1) := by decide +kernel
theorem dL_law_414 : decode cL_law 414 = .ok (.iconst 1, 1) := by decide +kernel
theorem dL_law_415 : decode cL_law 415 = .ok (.iadd, 1) := by decide +kernel
theorem dL_law_416 : decode cL_law 416 = .ok (.iaload, 1) := by decide +kernel
theorem dL_law_417 : decode cL_law 417 = .ok (.aload_n 0, 1) := by decide +kernel
theorem dL_law_418 : decode cL_law 418 = .ok (.iload_n 3, 1) := by decide +kernel
theorem dL_law_419 : decode cL_law 419 = .ok (.iconst 2, 1) := by decide +kernel
theorem dL_law_420 : decode cL_law 420 = .ok (.iadd, 1) := by decide +kernel
theorem dL_law_421 : decode cL_law 421 = .ok (.iaload, 1) := by decide +kernel
theorem dL_law_422 : decode cL_law 422 = .ok (.invokevirtual 44, 3) := by decide +kernel
theorem dL_law_425 : decode cL_law 425 = .ok (.aload_n 2, 1) := by decide +kernel
theorem dL_law_426 : decode cL_law 426 = .ok (.aload_n 0, 1) := by decide +kernel
theorem dL_law_427 : decode cL_law 427 = .ok (.iload_n 3, 1) := by decide +kernel
theorem dL_law_428 : decode cL_law 428 = .ok (.iconst 1, 1) := by decide +kernel
theorem dL_law_429 : decode cL_law 429 = .ok (.iadd, 1) := by decide +kernel
theorem dL_law_430 : decode cL_law 430 = .ok (.iaload, 1) := by decide +kernel
theorem dL_law_431 : decode cL_law 431 = .ok (.aload_n 0, 1) := by decide +kernel
theorem dL_law_432 : decode cL_law 432 = .ok (.iload_n 3, 1) := by decide +kernel
theorem dL_law_433 : decode cL_law 433 = .ok (.iconst 2, 1) := by decide +kernel
theorem dL_law_434 : decode cL_law 434 = .ok (.iadd, 1) := by decide +kernel
theorem dL_law_435 : decode cL_law 435 = .ok (.iaload, 1) := by decide +kernel
theorem dL_law_436 : decode cL_law 436 = .ok (.invokevirtual 47, 3) := by decide +kernel
theorem dL_law_439 : decode cL_law 439 = .ok (.if_icmp .eq 1024, 3) := by decide +kernel
theorem dL_law_442 : decode cL_law 442 = .ok (.iconst 0, 1) := by decide +kernel
theorem dL_law_443 : decode cL_law 443 = .ok (.ireturn, 1) := by decide +kernel
theorem dL_law_444 : decode cL_law 444 = .ok (.aload_n 1, 1) := by decide +kernel
theorem dL_law_445 : decode cL_law 445 = .ok (.aload_n 0, 1) := by decide +kernel
theorem dL_law_446 : decode cL_law 446 = .ok (.iload_n 3, 1) := by decide +kernel
theorem dL_law_447 : decode cL_law 447 = .ok (.iconst 1, 1) := by decide +kernel
theorem dL_law_448 : decode cL_law 448 = .ok (.iadd, 1) := by decide +kernel
theorem dL_law_449 : decode cL_law 449 = .ok (.iaload, 1) := by decide +kernel
theorem dL_law_450 : decode cL_law 450 = .ok (.aload_n 0, 1) := by decide +kernel
theorem dL_law_451 : decode cL_law 451 = .ok (.iload_n 3, 1) := by decide +kernel
theorem dL_law_452 : decode cL_law 452 = .ok (.iconst 2, 1) := by decide +kernel
theorem dL_law_453 : decode cL_law 453 = .ok (.iadd, 1) := by decide +kernel
theorem dL_law_454 : decode cL_law 454 = .ok (.iaload, 1) := by decide +kernel
theorem dL_law_455 : decode cL_law 455 = .ok (.invokevirtual 48, 3) := by decide +kernel
theorem dL_law_458 : decode cL_law 458 = .ok (.aload_n 2, 1) := by decide +kernel
theorem dL_law_459 : decode cL_law 459 = .ok (.aload_n 0, 1) := by decide +kernel
theorem dL_law_460 : decode cL_law 460 = .ok (.iload_n 3, 1) := by decide +kernel
theorem dL_law_461 : decode cL_law 461 = .ok (.iconst 1, 1) := by decide +kernel
theorem dL_law_462 : decode cL_law 462 = .ok (.iadd, 1) := by decide +kernel
theorem dL_law_463 : decode cL_law 463 = .ok (.iaload, 1) := by decide +kernel
theorem dL_law_464 : decode cL_law 464 = .ok (.aload_n 0, 1) := by decide +kernel
theorem dL_law_465 : decode cL_law 465 = .ok (.iload_n 3, 1) := by decide +kernel
theorem dL_law_466 : decode cL_law 466 = .ok (.iconst 2, 1) := by decide +kernel
theorem dL_law_467 : decode cL_law 467 = .ok (.iadd, 1) := by decide +kernel
theorem dL_law_468 : decode cL_law 468 = .ok (.iaload, 1) := by decide +kernel
theorem dL_law_469 : decode cL_law 469 = .ok (.invokevirtual 51, 3) := by decide +kernel
theorem dL_law_472 : decode cL_law 472 = .ok (.if_icmp .eq 991, 3) := by decide +kernel
theorem dL_law_475 : decode cL_law 475 = .ok (.iconst 0, 1) := by decide +kernel
theorem dL_law_476 : decode cL_law 476 = .ok (.ireturn, 1) := by decide +kernel
theorem dL_law_477 : decode cL_law 477 = .ok (.aload_n 1, 1) := by decide +kernel
theorem dL_law_478 : decode cL_law 478 = .ok (.aload_n 0, 1) := by decide +kernel
theorem dL_law_479 : decode cL_law 479 = .ok (.iload_n 3, 1) := by decide +kernel
theorem dL_law_480 : decode cL_law 480 = .ok (.iconst 1, 1) := by decide +kernel
theorem dL_law_481 : decode cL_law 481 = .ok (.iadd, 1) := by decide +kernel
theorem dL_law_482 : decode cL_law 482 = .ok (.iaload, 1) := by decide +kernel
theorem dL_law_483 : decode cL_law 483 = .ok (.aload_n 0, 1) := by decide +kernel
theorem dL_law_484 : decode cL_law 484 = .ok (.iload_n 3, 1) := by decide +kernel
theorem dL_law_485 : decode cL_law 485 = .ok (.iconst 2, 1) := by decide +kernel
theorem dL_law_486 : decode cL_law 486 = .ok (.iadd, 1) := by decide +kernel
theorem dL_law_487 : decode cL_law 487 = .ok (.iaload, 1) := by decide +kernel
theorem dL_law_488 : decode cL_law 488 = .ok (.aload_n 0, 1) := by decide +kernel
theorem dL_law_489 : decode cL_law 489 = .ok (.iload_n 3, 1) := by decide +kernel
theorem dL_law_490 : decode cL_law 490 = .ok (.iconst 3, 1) := by decide +kernel
theorem dL_law_491 : decode cL_law 491 = .ok (.iadd, 1) := by decide +kernel
theorem dL_law_492 : decode cL_law 492 = .ok (.iaload, 1) := by decide +kernel
theorem dL_law_493 : decode cL_law 493 = .ok (.invokevirtual 52, 3) := by decide +kernel
theorem dL_law_496 : decode cL_law 496 = .ok (.aload_n 2, 1) := by decide +kernel
theorem dL_law_497 : decode cL_law 497 = .ok (.aload_n 0, 1) := by decide +kernel
theorem dL_law_498 : decode cL_law 498 = .ok (.iload_n 3, 1) := by decide +kernel
theorem dL_law_499 : decode cL_law 499 = .ok (.iconst 1, 1) := by decide +kernel
theorem dL_law_500 : decode cL_law 500 = .ok (.iadd, 1) := by decide +kernel
theorem dL_law_501 : decode cL_law 501 = .ok (.iaload, 1) := by decide +kernel
theorem dL_law_502 : decode cL_law 502 = .ok (.aload_n 0, 1) := by decide +kernel
theorem dL_law_503 : decode cL_law 503 = .ok (.iload_n 3, 1) := by decide +kernel
theorem dL_law_504 : decode cL_law 504 = .ok (.iconst 2, 1) := by decide +kernel
theorem dL_law_505 : decode cL_law 505 = .ok (.iadd, 1) := by decide +kernel
theorem dL_law_506 : decode cL_law 506 = .ok (.iaload, 1) := by decide +kernel
theorem dL_law_507 : decode cL_law 507 = .ok (.aload_n 0, 1) := by decide +kernel
theorem dL_law_508 : decode cL_law 508 = .ok (.iload_n 3, 1) := by decide +kernel
theorem dL_law_509 : decode cL_law 509 = .ok (.iconst 3, 1) := by decide +kernel
theorem dL_law_510 : decode cL_law 510 = .ok (.iadd, 1) := by decide +kernel
theorem dL_law_511 : decode cL_law 511 = .ok (.iaload, 1) := by decide +kernel
theorem dL_law_512 : decode cL_law 512 = .ok (.invokevirtual 56, 3) := by decide +kernel
theorem dL_law_515 : decode cL_law 515 = .ok (.if_icmp .eq 948, 3) := by decide +kernel
theorem dL_law_518 : decode cL_law 518 = .ok (.iconst 0, 1) := by decide +kernel
theorem dL_law_519 : decode cL_law 519 = .ok (.ireturn, 1) := by decide +kernel
theorem dL_law_520 : decode cL_law 520 = .ok (.aload_n 1, 1) := by decide +kernel
theorem dL_law_521 : decode cL_law 521 = .ok (.aload_n 0, 1) := by decide +kernel
theorem dL_law_522 : decode cL_law 522 = .ok (.iload_n 3, 1) := by decide +kernel
theorem dL_law_523 : decode cL_law 523 = .ok (.iconst 1, 1) := by decide +kernel
theorem dL_law_524 : decode cL_law 524 = .ok (.iadd, 1) := by decide +kernel
theorem dL_law_525 : decode cL_law 525 = .ok (.iaload, 1) := by decide +kernel
theorem dL_law_526 : decode cL_law 526 = .ok (.invokevirtual 57, 3) := by decide +kernel
theorem dL_law_529 : decode cL_law 529 = .ok (.aload_n 2, 1) := by decide +kernel
theorem dL_law_530 : decode cL_law 530 = .ok (.aload_n 0, 1) := by decide +kernel
theorem dL_law_531 : decode cL_law 531 = .ok (.iload_n 3, 1) := by decide +kernel
theorem dL_law_532 : decode cL_law 532 = .ok (.iconst 1, 1) := by decide +kernel
theorem dL_law_533 : decode cL_law 533 = .ok (.iadd, 1) := by decide +kernel
theorem dL_law_534 : decode cL_law 534 = .ok (.iaload, 1) := by decide +kernel
theorem dL_law_535 : decode cL_law 535 = .ok (.invokevirtual 60, 3) := by decide +kernel
theorem dL_law_538 : decode cL_law 538 = .ok (.if_icmp .eq 925, 3) := by decide +kernel
theorem dL_law_541 : decode cL_law 541 = .ok (.iconst 0, 1) := by decide +kernel
theorem dL_law_542 : decode cL_law 542 = .ok (.ireturn, 1) := by decide +kernel
theorem dL_law_543 : decode cL_law 543 = .ok (.aload_n 1, 1) := by decide +kernel
theorem dL_law_544 : decode cL_law 544 = .ok (.aload_n 0, 1) := by decide +kernel
theorem dL_law_545 : decode cL_law 545 = .ok (.iload_n 3, 1) := by decide +kernel
theorem dL_law_546 : decode cL_law 546 = .ok (.iconst 1, 1) := by decide +kernel
theorem dL_law_547 : decode cL_law 547 = .ok (.iadd, 1) := by decide +kernel
theorem dL_law_548 : decode cL_law 548 = .ok (.iaload, 1) := by decide +kernel
theorem dL_law_549 : decode cL_law 549 = .ok (.aload_n 0, 1) := by decide +kernel
theorem dL_law_550 : decode cL_law 550 = .ok (.iload_n 3, 1) := by decide +kernel
theorem dL_law_551 : decode cL_law 551 = .ok (.iconst 2, 1) := by decide +kernel
theorem dL_law_552 : decode cL_law 552 = .ok (.iadd, 1) := by decide +kernel
theorem dL_law_553 : decode cL_law 553 = .ok (.iaload, 1) := by decide +kernel
theorem dL_law_554 : decode cL_law 554 = .ok (.aload_n 0, 1) := by decide +kernel
theorem dL_law_555 : decode cL_law 555 = .ok (.iload_n 3, 1) := by decide +kernel
theorem dL_law_556 : decode cL_law 556 = .ok (.iconst 3, 1) := by decide +kernel
theorem dL_law_557 : decode cL_law 557 = .ok (.iadd, 1) := by decide +kernel
theorem dL_law_558 : decode cL_law 558 = .ok (.iaload, 1) := by decide +kernel
theorem dL_law_559 : decode cL_law 559 = .ok (.invokevirtual 61, 3) := by decide +kernel
theorem dL_law_562 : decode cL_law 562 = .ok (.aload_n 2, 1) := by decide +kernel
theorem dL_law_563 : decode cL_law 563 = .ok (.aload_n 0, 1) := by decide +kernel
theorem dL_law_564 : decode cL_law 564 = .ok (.iload_n 3, 1) := by decide +kernel
theorem dL_law_565 : decode cL_law 565 = .ok (.iconst 1, 1) := by decide +kernel
theorem dL_law_566 : decode cL_law 566 = .ok (.iadd, 1) := by decide +kernel
theorem dL_law_567 : decode cL_law 567 = .ok (.iaload, 1) := by decide +kernel
theorem dL_law_568 : decode cL_law 568 = .ok (.aload_n 0, 1) := by decide +kernel
theorem dL_law_569 : decode cL_law 569 = .ok (.iload_n 3, 1) := by decide +kernel
theorem dL_law_570 : decode cL_law 570 = .ok (.iconst 2, 1) := by decide +kernel
theorem dL_law_571 : decode cL_law 571 = .ok (.iadd, 1) := by decide +kernel
theorem dL_law_572 : decode cL_law 572 = .ok (.iaload, 1) := by decide +kernel
theorem dL_law_573 : decode cL_law 573 = .ok (.aload_n 0, 1) := by decide +kernel
theorem dL_law_574 : decode cL_law 574 = .ok (.iload_n 3, 1) := by decide +kernel
theorem dL_law_575 : decode cL_law 575 = .ok (.iconst 3, 1) := by decide +kernel
theorem dL_law_576 : decode cL_law 576 = .ok (.iadd, 1) := by decide +kernel
theorem dL_law_577 : decode cL_law 577 = .ok (.iaload, 1) := by decide +kernel
theorem dL_law_578 : decode cL_law 578 = .ok (.invokevirtual 64, 3) := by decide +kernel
theorem dL_law_581 : decode cL_law 581 = .ok (.if_icmp .eq 882, 3) := by decide +kernel
theorem dL_law_584 : decode cL_law 584 = .ok (.iconst 0, 1) := by decide +kernel
theorem dL_law_585 : decode cL_law 585 = .ok (.ireturn, 1) := by decide +kernel
theorem dL_law_586 : decode cL_law 586 = .ok (.aload_n 1, 1) := by decide +kernel
theorem dL_law_587 : decode cL_law 587 = .ok (.aload_n 0, 1) := by decide +kernel
theorem dL_law_588 : decode cL_law 588 = .ok (.iload_n 3, 1) := by decide +kernel
theorem dL_law_589 : decode cL_law 589 = .ok (.iconst 1, 1) := by decide +kernel
theorem dL_law_590 : decode cL_law 590 = .ok (.iadd, 1) := by decide +kernel
theorem dL_law_591 : decode cL_law 591 = .ok (.iaload, 1) := by decide +kernel
theorem dL_law_592 : decode cL_law 592 = .ok (.aload_n 0, 1) := by decide +kernel
theorem dL_law_593 : decode cL_law 593 = .ok (.iload_n 3, 1) := by decide +kernel
theorem dL_law_594 : decode cL_law 594 = .ok (.iconst 2, 1) := by decide +kernel
theorem dL_law_595 : decode cL_law 595 = .ok (.iadd, 1) := by decide +kernel
theorem dL_law_596 : decode cL_law 596 = .ok (.iaload, 1) := by decide +kernel
theorem dL_law_597 : decode cL_law 597 = .ok (.invokevirtual 65, 3) := by decide +kernel
theorem dL_law_600 : decode cL_law 600 = .ok (.aload_n 2, 1) := by decide +kernel
theorem dL_law_601 : decode cL_law 601 = .ok (.aload_n 0, 1) := by decide +kernel
theorem dL_law_602 : decode cL_law 602 = .ok (.iload_n 3, 1) := by decide +kernel
theorem dL_law_603 : decode cL_law 603 = .ok (.iconst 1, 1) := by decide +kernel
theorem dL_law_604 : decode cL_law 604 = .ok (.iadd, 1) := by decide +kernel
theorem dL_law_605 : decode cL_law 605 = .ok (.iaload, 1) := by decide +kernel
theorem dL_law_606 : decode cL_law 606 = .ok (.aload_n 0, 1) := by decide +kernel
theorem dL_law_607 : decode cL_law 607 = .ok (.iload_n 3, 1) := by decide +kernel
theorem dL_law_608 : decode cL_law 608 = .ok (.iconst 2, 1) := by decide +kernel
theorem dL_law_609 : decode cL_law 609 = .ok (.iadd, 1) := by decide +kernel
theorem dL_law_610 : decode cL_law 610 = .ok (.iaload, 1) := by decide +kernel
theorem dL_law_611 : decode cL_law 611 = .ok (.invokevirtual 68, 3) := by decide +kernel
theorem dL_law_614 : decode cL_law 614 = .ok (.if_icmp .eq 849, 3) := by decide +kernel
theorem dL_law_617 : decode cL_law 617 = .ok (.iconst 0, 1) := by decide +kernel
theorem dL_law_618 : decode cL_law 618 = .ok (.ireturn, 1) := by decide +kernel
theorem dL_law_619 : decode cL_law 619 = .ok (.aload_n 1, 1) := by decide +kernel
theorem dL_law_620 : decode cL_law 620 = .ok (.aload_n 0, 1) := by decide +kernel
theorem dL_law_621 : decode cL_law 621 = .ok (.iload_n 3, 1) := by decide +kernel
theorem dL_law_622 : decode cL_law 622 = .ok (.iconst 1, 1) := by decide +kernel
theorem dL_law_623 : decode cL_law 623 = .ok (.iadd, 1) := by decide +kernel
theorem dL_law_624 : decode cL_law 624 = .ok (.iaload, 1) := by decide +kernel
theorem dL_law_625 : decode cL_law 625 = .ok (.aload_n 0, 1) := by decide +kernel
theorem dL_law_626 : decode cL_law 626 = .ok (.iload_n 3, 1) := by decide +kernel
theorem dL_law_627 : decode cL_law 627 = .ok (.iconst 2, 1) := by decide +kernel
theorem dL_law_628 : decode cL_law 628 = .ok (.iadd, 1) := by decide +kernel
theorem dL_law_629 : decode cL_law 629 = .ok (.iaload, 1) := by decide +kernel
theorem dL_law_630 : decode cL_law 630 = .ok (.invokevirtual 69, 3) := by decide +kernel
theorem dL_law_633 : decode cL_law 633 = .ok (.aload_n 2, 1) := by decide +kernel
theorem dL_law_634 : decode cL_law 634 = .ok (.aload_n 0, 1) := by decide +kernel
theorem dL_law_635 : decode cL_law 635 = .ok (.iload_n 3, 1) := by decide +kernel
theorem dL_law_636 : decode cL_law 636 = .ok (.iconst 1, 1) := by decide +kernel
theorem dL_law_637 : decode cL_law 637 = .ok (.iadd, 1) := by decide +kernel
theorem dL_law_638 : decode cL_law 638 = .ok (.iaload, 1) := by decide +kernel
theorem dL_law_639 : decode cL_law 639 = .ok (.aload_n 0, 1) := by decide +kernel
theorem dL_law_640 : decode cL_law 640 = .ok (.iload_n 3, 1) := by decide +kernel
theorem dL_law_641 : decode cL_law 641 = .ok (.iconst 2, 1) := by decide +kernel
theorem dL_law_642 : decode cL_law 642 = .ok (.iadd, 1) := by decide +kernel
theorem dL_law_643 : decode cL_law 643 = .ok (.iaload, 1) := by decide +kernel
theorem dL_law_644 : decode cL_law 644 = .ok (.invokevirtual 72, 3) := by decide +kernel
theorem dL_law_647 : decode cL_law 647 = .ok (.if_icmp .eq 816, 3) := by decide +kernel
theorem dL_law_650 : decode cL_law 650 = .ok (.iconst 0, 1) := by decide +kernel
theorem dL_law_651 : decode cL_law 651 = .ok (.ireturn, 1) := by decide +kernel
theorem dL_law_652 : decode cL_law 652 = .ok (.aload_n 1, 1) := by decide +kernel
theorem dL_law_653 : decode cL_law 653 = .ok (.aload_n 0, 1) := by decide +kernel
theorem dL_law_654 : decode cL_law 654 = .ok (.iload_n 3, 1) := by decide +kernel
theorem dL_law_655 : decode cL_law 655 = .ok (.iconst 1, 1) := by decide +kernel
theorem dL_law_656 : decode cL_law 656 = .ok (.iadd, 1) := by decide +kernel
theorem dL_law_657 : decode cL_law 657 = .ok (.iaload, 1) := by decide +kernel
theorem dL_law_658 : decode cL_law 658 = .ok (.invokevirtual 73, 3) := by decide +kernel
theorem dL_law_661 : decode cL_law 661 = .ok (.aload_n 2, 1) := by decide +kernel
theorem dL_law_662 : decode cL_law 662 = .ok (.aload_n 0, 1) := by decide +kernel
theorem dL_law_663 : decode cL_law 663 = .ok (.iload_n 3, 1) := by decide +kernel
theorem dL_law_664 : decode cL_law 664 = .ok (.iconst 1, 1) := by decide +kernel
theorem dL_law_665 : decode cL_law 665 = .ok (.iadd, 1) := by decide +kernel
theorem dL_law_666 : decode cL_law 666 = .ok (.iaload, 1) := by decide +kernel
theorem dL_law_667 : decode cL_law 667 = .ok (.invokevirtual 76, 3) := by decide +kernel
theorem dL_law_670 : decode cL_law 670 = .ok (.if_icmp .eq 793, 3) := by decide +kernel
theorem dL_law_673 : decode cL_law 673 = .ok (.iconst 0, 1) := by decide +kernel
theorem dL_law_674 : decode cL_law 674 = .ok (.ireturn, 1) := by decide +kernel
theorem dL_law_675 : decode cL_law 675 = .ok (.aload_n 1, 1) := by decide +kernel
theorem dL_law_676 : decode cL_law 676 = .ok (.aload_n 0, 1) := by decide +kernel
theorem dL_law_677 : decode cL_law 677 = .ok (.iload_n 3, 1) := by decide +kernel
theorem dL_law_678 : decode cL_law 678 = .ok (.iconst 1, 1) := by decide +kernel
theorem dL_law_679 : decode cL_law 679 = .ok (.iadd, 1) := by decide +kernel
theorem dL_law_680 : decode cL_law 680 = .ok (.iaload, 1) := by decide +kernel
theorem dL_law_681 : decode cL_law 681 = .ok (.invokevirtual 77, 3) := by decide +kernel
theorem dL_law_684 : decode cL_law 684 = .ok (.aload_n 2, 1) := by decide +kernel
theorem dL_law_685 : decode cL_law 685 = .ok (.aload_n 0, 1) := by decide +kernel
theorem dL_law_686 : decode cL_law 686 = .ok (.iload_n 3, 1) := by decide +kernel
theorem dL_law_687 : decode cL_law 687 = .ok (.iconst 1, 1) := by decide +kernel
theorem dL_law_688 : decode cL_law 688 = .ok (.iadd, 1) := by decide +kernel
theorem dL_law_689 : decode cL_law 689 = .ok (.iaload, 1) := by decide +kernel
theorem dL_law_690 : decode cL_law 690 = .ok (.invokevirtual 80, 3) := by decide +kernel
theorem dL_law_693 : decode cL_law 693 = .ok (.if_icmp .eq 770, 3) := by decide +kernel
theorem dL_law_696 : decode cL_law 696 = .ok (.iconst 0, 1) := by decide +kernel
theorem dL_law_697 : decode cL_law 697 = .ok (.ireturn, 1) := by decide +kernel
theorem dL_law_698 : decode cL_law 698 = .ok (.aload_n 1, 1) := by decide +kernel
theorem dL_law_699 : decode cL_law 699 = .ok (.aload_n 0, 1) := by decide +kernel
theorem dL_law_700 : decode cL_law 700 = .ok (.iload_n 3, 1) := by decide +kernel
theorem dL_law_701 : decode cL_law 701 = .ok (.iconst 1, 1) := by decide +kernel
theorem dL_law_702 : decode cL_law 702 = .ok (.iadd, 1) := by decide +kernel
theorem dL_law_703 : decode cL_law 703 = .ok (.iaload, 1) := by decide +kernel
theorem dL_law_704 : decode cL_law 704 = .ok (.aload_n 0, 1) := by decide +kernel
theorem dL_law_705 : decode cL_law 705 = .ok (.iload_n 3, 1) := by decide +kernel
theorem dL_law_706 : decode cL_law 706 = .ok (.iconst 2, 1) := by decide +kernel
theorem dL_law_707 : decode cL_law 707 = .ok (.iadd, 1) := by decide +kernel
theorem dL_law_708 : decode cL_law 708 = .ok (.iaload, 1) := by decide +kernel
theorem dL_law_709 : decode cL_law 709 = .ok (.aload_n 0, 1) := by decide +kernel
theorem dL_law_710 : decode cL_law 710 = .ok (.iload_n 3, 1) := by decide +kernel
theorem dL_law_711 : decode cL_law 711 = .ok (.iconst 3, 1) := by decide +kernel
theorem dL_law_712 : decode cL_law 712 = .ok (.iadd, 1) := by decide +kernel
theorem dL_law_713 : decode cL_law 713 = .ok (.iaload, 1) := by decide +kernel
theorem dL_law_714 : decode cL_law 714 = .ok (.invokevirtual 81, 3) := by decide +kernel
theorem dL_law_717 : decode cL_law 717 = .ok (.aload_n 2, 1) := by decide +kernel
theorem dL_law_718 : decode cL_law 718 = .ok (.aload_n 0, 1) := by decide +kernel
theorem dL_law_719 : decode cL_law 719 = .ok (.iload_n 3, 1) := by decide +kernel
theorem dL_law_720 : decode cL_law 720 = .ok (.iconst 1, 1) := by decide +kernel
theorem dL_law_721 : decode cL_law 721 = .ok (.iadd, 1) := by decide +kernel
theorem dL_law_722 : decode cL_law 722 = .ok (.iaload, 1) := by decide +kernel
theorem dL_law_723 : decode cL_law 723 = .ok (.aload_n 0, 1) := by decide +kernel
theorem dL_law_724 : decode cL_law 724 = .ok (.iload_n 3, 1) := by decide +kernel
theorem dL_law_725 : decode cL_law 725 = .ok (.iconst 2, 1) := by decide +kernel
theorem dL_law_726 : decode cL_law 726 = .ok (.iadd, 1) := by decide +kernel
theorem dL_law_727 : decode cL_law 727 = .ok (.iaload, 1) := by decide +kernel
theorem dL_law_728 : decode cL_law 728 = .ok (.aload_n 0, 1) := by decide +kernel
theorem dL_law_729 : decode cL_law 729 = .ok (.iload_n 3, 1) := by decide +kernel
theorem dL_law_730 : decode cL_law 730 = .ok (.iconst 3, 1) := by decide +kernel
theorem dL_law_731 : decode cL_law 731 = .ok (.iadd, 1) := by decide +kernel
theorem dL_law_732 : decode cL_law 732 = .ok (.iaload, 1) := by decide +kernel
theorem dL_law_733 : decode cL_law 733 = .ok (.invokevirtual 84, 3) := by decide +kernel
theorem dL_law_736 : decode cL_law 736 = .ok (.if_icmp .eq 727, 3) := by decide +kernel
theorem dL_law_739 : decode cL_law 739 = .ok (.iconst 0, 1) := by decide +kernel
theorem dL_law_740 : decode cL_law 740 = .ok (.ireturn, 1) := by decide +kernel
theorem dL_law_741 : decode cL_law 741 = .ok (.aload_n 1, 1) := by decide +kernel
theorem dL_law_742 : decode cL_law 742 = .ok (.aload_n 0, 1) := by decide +kernel
theorem dL_law_743 : decode cL_law 743 = .ok (.iload_n 3, 1) := by decide +kernel
theorem dL_law_744 : decode cL_law 744 = .ok (.iconst 1, 1) := by decide +kernel
theorem dL_law_745 : decode cL_law 745 = .ok (.iadd, 1) := by decide +kernel
theorem dL_law_746 : decode cL_law 746 = .ok (.iaload, 1) := by decide +kernel
theorem dL_law_747 : decode cL_law 747 = .ok (.aload_n 0, 1) := by decide +kernel
theorem dL_law_748 : decode cL_law 748 = .ok (.iload_n 3, 1) := by decide +kernel
theorem dL_law_749 : decode cL_law 749 = .ok (.iconst 2, 1) := by decide +kernel
theorem dL_law_750 : decode cL_law 750 = .ok (.iadd, 1) := by decide +kernel
theorem dL_law_751 : decode cL_law 751 = .ok (.iaload, 1) := by decide +kernel
theorem dL_law_752 : decode cL_law 752 = .ok (.aload_n 0, 1) := by decide +kernel
theorem dL_law_753 : decode cL_law 753 = .ok (.iload_n 3, 1) := by decide +kernel
theorem dL_law_754 : decode cL_law 754 = .ok (.iconst 3, 1) := by decide +kernel
theorem dL_law_755 : decode cL_law 755 = .ok (.iadd, 1) := by decide +kernel
theorem dL_law_756 : decode cL_law 756 = .ok (.iaload, 1) := by decide +kernel
theorem dL_law_757 : decode cL_law 757 = .ok (.invokevirtual 85, 3) := by decide +kernel
theorem dL_law_760 : decode cL_law 760 = .ok (.aload_n 2, 1) := by decide +kernel
theorem dL_law_761 : decode cL_law 761 = .ok (.aload_n 0, 1) := by decide +kernel
theorem dL_law_762 : decode cL_law 762 = .ok (.iload_n 3, 1) := by decide +kernel
theorem dL_law_763 : decode cL_law 763 = .ok (.iconst 1, 1) := by decide +kernel
theorem dL_law_764 : decode cL_law 764 = .ok (.iadd, 1) := by decide +kernel
theorem dL_law_765 : decode cL_law 765 = .ok (.iaload, 1) := by decide +kernel
theorem dL_law_766 : decode cL_law 766 = .ok (.aload_n 0, 1) := by decide +kernel
theorem dL_law_767 : decode cL_law 767 = .ok (.iload_n 3, 1) := by decide +kernel
theorem dL_law_768 : decode cL_law 768 = .ok (.iconst 2, 1) := by decide +kernel
theorem dL_law_769 : decode cL_law 769 = .ok (.iadd, 1) := by decide +kernel
theorem dL_law_770 : decode cL_law 770 = .ok (.iaload, 1) := by decide +kernel
theorem dL_law_771 : decode cL_law 771 = .ok (.aload_n 0, 1) := by decide +kernel
theorem dL_law_772 : decode cL_law 772 = .ok (.iload_n 3, 1) := by decide +kernel
theorem dL_law_773 : decode cL_law 773 = .ok (.iconst 3, 1) := by decide +kernel
theorem dL_law_774 : decode cL_law 774 = .ok (.iadd, 1) := by decide +kernel
theorem dL_law_775 : decode cL_law 775 = .ok (.iaload, 1) := by decide +kernel
theorem dL_law_776 : decode cL_law 776 = .ok (.invokevirtual 88, 3) := by decide +kernel
theorem dL_law_779 : decode cL_law 779 = .ok (.if_icmp .eq 684, 3) := by decide +kernel
theorem dL_law_782 : decode cL_law 782 = .ok (.iconst 0, 1) := by decide +kernel
theorem dL_law_783 : decode cL_law 783 = .ok (.ireturn, 1) := by decide +kernel
theorem dL_law_784 : decode cL_law 784 = .ok (.aload_n 1, 1) := by decide +kernel
theorem dL_law_785 : decode cL_law 785 = .ok (.aload_n 0, 1) := by decide +kernel
theorem dL_law_786 : decode cL_law 786 = .ok (.iload_n 3, 1) := by decide +kernel
theorem dL_law_787 : decode cL_law 787 = .ok (.iconst 1, 1) := by decide +kernel
theorem dL_law_788 : decode cL_law 788 = .ok (.iadd, 1) := by decide +kernel
theorem dL_law_789 : decode cL_law 789 = .ok (.iaload, 1) := by decide +kernel
theorem dL_law_790 : decode cL_law 790 = .ok (.aload_n 0, 1) := by decide +kernel
theorem dL_law_791 : decode cL_law 791 = .ok (.iload_n 3, 1) := by decide +kernel
theorem dL_law_792 : decode cL_law 792 = .ok (.iconst 2, 1) := by decide +kernel
theorem dL_law_793 : decode cL_law 793 = .ok (.iadd, 1) := by decide +kernel
theorem dL_law_794 : decode cL_law 794 = .ok (.iaload, 1) := by decide +kernel
theorem dL_law_795 : decode cL_law 795 = .ok (.invokevirtual 89, 3) := by decide +kernel
theorem dL_law_798 : decode cL_law 798 = .ok (.aload_n 2, 1) := by decide +kernel
theorem dL_law_799 : decode cL_law 799 = .ok (.aload_n 0, 1) := by decide +kernel
theorem dL_law_800 : decode cL_law 800 = .ok (.iload_n 3, 1) := by decide +kernel
theorem dL_law_801 : decode cL_law 801 = .ok (.iconst 1, 1) := by decide +kernel
theorem dL_law_802 : decode cL_law 802 = .ok (.iadd, 1) := by decide +kernel
theorem dL_law_803 : decode cL_law 803 = .ok (.iaload, 1) := by decide +kernel
theorem dL_law_804 : decode cL_law 804 = .ok (.aload_n 0, 1) := by decide +kernel
theorem dL_law_805 : decode cL_law 805 = .ok (.iload_n 3, 1) := by decide +kernel
theorem dL_law_806 : decode cL_law 806 = .ok (.iconst 2, 1) := by decide +kernel
theorem dL_law_807 : decode cL_law 807 = .ok (.iadd, 1) := by decide +kernel
theorem dL_law_808 : decode cL_law 808 = .ok (.iaload, 1) := by decide +kernel
theorem dL_law_809 : decode cL_law 809 = .ok (.invokevirtual 92, 3) := by decide +kernel
theorem dL_law_812 : decode cL_law 812 = .ok (.if_icmp .eq 651, 3) := by decide +kernel
theorem dL_law_815 : decode cL_law 815 = .ok (.iconst 0, 1) := by decide +kernel
theorem dL_law_816 : decode cL_law 816 = .ok (.ireturn, 1) := by decide +kernel
theorem dL_law_817 : decode cL_law 817 = .ok (.aload_n 1, 1) := by decide +kernel
theorem dL_law_818 : decode cL_law 818 = .ok (.aload_n 0, 1) := by decide +kernel
theorem dL_law_819 : decode cL_law 819 = .ok (.iload_n 3, 1) := by decide +kernel
theorem dL_law_820 : decode cL_law 820 = .ok (.iconst 1, 1) := by decide +kernel
theorem dL_law_821 : decode cL_law 821 = .ok (.iadd, 1) := by decide +kernel
theorem dL_law_822 : decode cL_law 822 = .ok (.iaload, 1) := by decide +kernel
theorem dL_law_823 : decode cL_law 823 = .ok (.aload_n 0, 1) := by decide +kernel
theorem dL_law_824 : decode cL_law 824 = .ok (.iload_n 3, 1) := by decide +kernel
theorem dL_law_825 : decode cL_law 825 = .ok (.iconst 2, 1) := by decide +kernel
theorem dL_law_826 : decode cL_law 826 = .ok (.iadd, 1) := by decide +kernel
theorem dL_law_827 : decode cL_law 827 = .ok (.iaload, 1) := by decide +kernel
theorem dL_law_828 : decode cL_law 828 = .ok (.invokevirtual 93, 3) := by decide +kernel
theorem dL_law_831 : decode cL_law 831 = .ok (.aload_n 2, 1) := by decide +kernel
theorem dL_law_832 : decode cL_law 832 = .ok (.aload_n 0, 1) := by decide +kernel
theorem dL_law_833 : decode cL_law 833 = .ok (.iload_n 3, 1) := by decide +kernel
theorem dL_law_834 : decode cL_law 834 = .ok (.iconst 1, 1) := by decide +kernel
theorem dL_law_835 : decode cL_law 835 = .ok (.iadd, 1) := by decide +kernel
theorem dL_law_836 : decode cL_law 836 = .ok (.iaload, 1) := by decide +kernel
theorem dL_law_837 : decode cL_law 837 = .ok (.aload_n 0, 1) := by decide +kernel
theorem dL_law_838 : decode cL_law 838 = .ok (.iload_n 3, 1) := by decide +kernel
theorem dL_law_839 : decode cL_law 839 = .ok (.iconst 2, 1) := by decide +kernel
theorem dL_law_840 : decode cL_law 840 = .ok (.iadd, 1) := by decide +kernel
theorem dL_law_841 : decode cL_law 841 = .ok (.iaload, 1) := by decide +kernel
theorem dL_law_842 : decode cL_law 842 = .ok (.invokevirtual 96, 3) := by decide +kernel
theorem dL_law_845 : decode cL_law 845 = .ok (.if_icmp .eq 618, 3) := by decide +kernel
theorem dL_law_848 : decode cL_law 848 = .ok (.iconst 0, 1) := by decide +kernel
theorem dL_law_849 : decode cL_law 849 = .ok (.ireturn, 1) := by decide +kernel
theorem dL_law_850 : decode cL_law 850 = .ok (.aload_n 1, 1) := by decide +kernel
theorem dL_law_851 : decode cL_law 851 = .ok (.aload_n 0, 1) := by decide +kernel
theorem dL_law_852 : decode cL_law 852 = .ok (.iload_n 3, 1) := by decide +kernel
theorem dL_law_853 : decode cL_law 853 = .ok (.iconst 1, 1) := by decide +kernel
theorem dL_law_854 : decode cL_law 854 = .ok (.iadd, 1) := by decide +kernel
theorem dL_law_855 : decode cL_law 855 = .ok (.iaload, 1) := by decide +kernel
theorem dL_law_856 : decode cL_law 856 = .ok (.invokevirtual 97, 3) := by decide +kernel
theorem dL_law_859 : decode cL_law 859 = .ok (.aload_n 2, 1) := by decide +kernel
theorem dL_law_860 : decode cL_law 860 = .ok (.aload_n 0, 1) := by decide +kernel
theorem dL_law_861 : decode cL_law 861 = .ok (.iload_n 3, 1) := by decide +kernel
theorem dL_law_862 : decode cL_law 862 = .ok (.iconst 1, 1) := by decide +kernel
theorem dL_law_863 : decode cL_law 863 = .ok (.iadd, 1) := by decide +kernel
theorem dL_law_864 : decode cL_law 864 = .ok (.iaload, 1) := by decide +kernel
theorem dL_law_865 : decode cL_law 865 = .ok (.invokevirtual 100, 3) := by decide +kernel
theorem dL_law_868 : decode cL_law 868 = .ok (.if_icmp .eq 595, 3) := by decide +kernel
theorem dL_law_871 : decode cL_law 871 = .ok (.iconst 0, 1) := by decide +kernel
theorem dL_law_872 : decode cL_law 872 = .ok (.ireturn, 1) := by decide +kernel
theorem dL_law_873 : decode cL_law 873 = .ok (.aload_n 1, 1) := by decide +kernel
theorem dL_law_874 : decode cL_law 874 = .ok (.aload_n 0, 1) := by decide +kernel
theorem dL_law_875 : decode cL_law 875 = .ok (.iload_n 3, 1) := by decide +kernel
theorem dL_law_876 : decode cL_law 876 = .ok (.iconst 1, 1) := by decide +kernel
theorem dL_law_877 : decode cL_law 877 = .ok (.iadd, 1) := by decide +kernel
theorem dL_law_878 : decode cL_law 878 = .ok (.iaload, 1) := by decide +kernel
theorem dL_law_879 : decode cL_law 879 = .ok (.invokevirtual 101, 3) := by decide +kernel
theorem dL_law_882 : decode cL_law 882 = .ok (.aload_n 2, 1) := by decide +kernel
theorem dL_law_883 : decode cL_law 883 = .ok (.aload_n 0, 1) := by decide +kernel
theorem dL_law_884 : decode cL_law 884 = .ok (.iload_n 3, 1) := by decide +kernel
theorem dL_law_885 : decode cL_law 885 = .ok (.iconst 1, 1) := by decide +kernel
theorem dL_law_886 : decode cL_law 886 = .ok (.iadd, 1) := by decide +kernel
theorem dL_law_887 : decode cL_law 887 = .ok (.iaload, 1) := by decide +kernel
theorem dL_law_888 : decode cL_law 888 = .ok (.invokevirtual 104, 3) := by decide +kernel
theorem dL_law_891 : decode cL_law 891 = .ok (.if_icmp .eq 572, 3) := by decide +kernel
theorem dL_law_894 : decode cL_law 894 = .ok (.iconst 0, 1) := by decide +kernel
theorem dL_law_895 : decode cL_law 895 = .ok (.ireturn, 1) := by decide +kernel
theorem dL_law_896 : decode cL_law 896 = .ok (.aload_n 1, 1) := by decide +kernel
theorem dL_law_897 : decode cL_law 897 = .ok (.aload_n 0, 1) := by decide +kernel
theorem dL_law_898 : decode cL_law 898 = .ok (.iload_n 3, 1) := by decide +kernel
theorem dL_law_899 : decode cL_law 899 = .ok (.iconst 1, 1) := by decide +kernel
theorem dL_law_900 : decode cL_law 900 = .ok (.iadd, 1) := by decide +kernel
theorem dL_law_901 : decode cL_law 901 = .ok (.iaload, 1) := by decide +kernel
theorem dL_law_902 : decode cL_law 902 = .ok (.aload_n 0, 1) := by decide +kernel
theorem dL_law_903 : decode cL_law 903 = .ok (.iload_n 3, 1) := by decide +kernel
theorem dL_law_904 : decode cL_law 904 = .ok (.iconst 2, 1) := by decide +kernel
theorem dL_law_905 : decode cL_law 905 = .ok (.iadd, 1) := by decide +kernel
theorem dL_law_906 : decode cL_law 906 = .ok (.iaload, 1) := by decide +kernel
theorem dL_law_907 : decode cL_law 907 = .ok (.invokevirtual 105, 3) := by decide +kernel
theorem dL_law_910 : decode cL_law 910 = .ok (.aload_n 2, 1) := by decide +kernel
theorem dL_law_911 : decode cL_law 911 = .ok (.aload_n 0, 1) := by decide +kernel
theorem dL_law_912 : decode cL_law 912 = .ok (.iload_n 3, 1) := by decide +kernel
theorem dL_law_913 : decode cL_law 913 = .ok (.iconst 1, 1) := by decide +kernel
theorem dL_law_914 : decode cL_law 914 = .ok (.iadd, 1) := by decide +kernel
theorem dL_law_915 : decode cL_law 915 = .ok (.iaload, 1) := by decide +kernel
theorem dL_law_916 : decode cL_law 916 = .ok (.aload_n 0, 1) := by decide +kernel
theorem dL_law_917 : decode cL_law 917 = .ok (.iload_n 3, 1) := by decide +kernel
theorem dL_law_918 : decode cL_law 918 = .ok (.iconst 2, 1) := by decide +kernel
theorem dL_law_919 : decode cL_law 919 = .ok (.iadd, 1) := by decide +kernel
theorem dL_law_920 : decode cL_law 920 = .ok (.iaload, 1) := by decide +kernel
theorem dL_law_921 : decode cL_law 921 = .ok (.invokevirtual 108, 3) := by decide +kernel
theorem dL_law_924 : decode cL_law 924 = .ok (.if_icmp .eq 539, 3) := by decide +kernel
theorem dL_law_927 : decode cL_law 927 = .ok (.iconst 0, 1) := by decide +kernel
theorem dL_law_928 : decode cL_law 928 = .ok (.ireturn, 1) := by decide +kernel
theorem dL_law_929 : decode cL_law 929 = .ok (.aload_n 1, 1) := by decide +kernel
theorem dL_law_930 : decode cL_law 930 = .ok (.aload_n 0, 1) := by decide +kernel
theorem dL_law_931 : decode cL_law 931 = .ok (.iload_n 3, 1) := by decide +kernel
theorem dL_law_932 : decode cL_law 932 = .ok (.iconst 1, 1) := by decide +kernel
theorem dL_law_933 : decode cL_law 933 = .ok (.iadd, 1) := by decide +kernel
theorem dL_law_934 : decode cL_law 934 = .ok (.iaload, 1) := by decide +kernel
theorem dL_law_935 : decode cL_law 935 = .ok (.invokevirtual 109, 3) := by decide +kernel
theorem dL_law_938 : decode cL_law 938 = .ok (.aload_n 2, 1) := by decide +kernel
theorem dL_law_939 : decode cL_law 939 = .ok (.aload_n 0, 1) := by decide +kernel
theorem dL_law_940 : decode cL_law 940 = .ok (.iload_n 3, 1) := by decide +kernel
theorem dL_law_941 : decode cL_law 941 = .ok (.iconst 1, 1) := by decide +kernel
theorem dL_law_942 : decode cL_law 942 = .ok (.iadd, 1) := by decide +kernel
theorem dL_law_943 : decode cL_law 943 = .ok (.iaload, 1) := by decide +kernel
theorem dL_law_944 : decode cL_law 944 = .ok (.invokevirtual 112, 3) := by decide +kernel
theorem dL_law_947 : decode cL_law 947 = .ok (.if_icmp .eq 516, 3) := by decide +kernel
theorem dL_law_950 : decode cL_law 950 = .ok (.iconst 0, 1) := by decide +kernel
theorem dL_law_951 : decode cL_law 951 = .ok (.ireturn, 1) := by decide +kernel
theorem dL_law_952 : decode cL_law 952 = .ok (.aload_n 1, 1) := by decide +kernel
theorem dL_law_953 : decode cL_law 953 = .ok (.aload_n 0, 1) := by decide +kernel
theorem dL_law_954 : decode cL_law 954 = .ok (.iload_n 3, 1) := by decide +kernel
theorem dL_law_955 : decode cL_law 955 = .ok (.iconst 1, 1) := by decide +kernel
theorem dL_law_956 : decode cL_law 956 = .ok (.iadd, 1) := by decide +kernel
theorem dL_law_957 : decode cL_law 957 = .ok (.iaload, 1) := by decide +kernel
theorem dL_law_958 : decode cL_law 958 = .ok (.invokevirtual 113, 3) := by decide +kernel
theorem dL_law_961 : decode cL_law 961 = .ok (.aload_n 2, 1) := by decide +kernel
theorem dL_law_962 : decode cL_law 962 = .ok (.aload_n 0, 1) := by decide +kernel
theorem dL_law_963 : decode cL_law 963 = .ok (.iload_n 3, 1) := by decide +kernel
theorem dL_law_964 : decode cL_law 964 = .ok (.iconst 1, 1) := by decide +kernel
theorem dL_law_965 : decode cL_law 965 = .ok (.iadd, 1) := by decide +kernel
theorem dL_law_966 : decode cL_law 966 = .ok (.iaload, 1) := by decide +kernel
theorem dL_law_967 : decode cL_law 967 = .ok (.invokevirtual 116, 3) := by decide +kernel
theorem dL_law_970 : decode cL_law 970 = .ok (.if_icmp .eq 493, 3) := by decide +kernel
theorem dL_law_973 : decode cL_law 973 = .ok (.iconst 0, 1) := by decide +kernel
theorem dL_law_974 : decode cL_law 974 = .ok (.ireturn, 1) := by decide +kernel
theorem dL_law_975 : decode cL_law 975 = .ok (.aload_n 1, 1) := by decide +kernel
theorem dL_law_976 : decode cL_law 976 = .ok (.aload_n 0, 1) := by decide +kernel
theorem dL_law_977 : decode cL_law 977 = .ok (.iload_n 3, 1) := by decide +kernel
theorem dL_law_978 : decode cL_law 978 = .ok (.iconst 1, 1) := by decide +kernel
theorem dL_law_979 : decode cL_law 979 = .ok (.iadd, 1) := by decide +kernel
theorem dL_law_980 : decode cL_law 980 = .ok (.iaload, 1) := by decide +kernel
theorem dL_law_981 : decode cL_law 981 = .ok (.invokevirtual 117, 3) := by decide +kernel
theorem dL_law_984 : decode cL_law 984 = .ok (.aload_n 2, 1) := by decide +kernel
theorem dL_law_985 : decode cL_law 985 = .ok (.aload_n 0, 1) := by decide +kernel
theorem dL_law_986 : decode cL_law 986 = .ok (.iload_n 3, 1) := by decide +kernel
theorem dL_law_987 : decode cL_law 987 = .ok (.iconst 1, 1) := by decide +kernel
theorem dL_law_988 : decode cL_law 988 = .ok (.iadd, 1) := by decide +kernel
theorem dL_law_989 : decode cL_law 989 = .ok (.iaload, 1) := by decide +kernel
theorem dL_law_990 : decode cL_law 990 = .ok (.invokevirtual 120, 3) := by decide +kernel
theorem dL_law_993 : decode cL_law 993 = .ok (.if_icmp .eq 470, 3) := by decide +kernel
theorem dL_law_996 : decode cL_law 996 = .ok (.iconst 0, 1) := by decide +kernel
theorem dL_law_997 : decode cL_law 997 = .ok (.ireturn, 1) := by decide +kernel
theorem dL_law_998 : decode cL_law 998 = .ok (.aload_n 1, 1) := by decide +kernel
theorem dL_law_999 : decode cL_law 999 = .ok (.aload_n 0, 1) := by decide +kernel
theorem dL_law_1000 : decode cL_law 1000 = .ok (.iload_n 3, 1) := by decide +kernel
theorem dL_law_1001 : decode cL_law 1001 = .ok (.iconst 1, 1) := by decide +kernel
theorem dL_law_1002 : decode cL_law 1002 = .ok (.iadd, 1) := by decide +kernel
theorem dL_law_1003 : decode cL_law 1003 = .ok (.iaload, 1) := by decide +kernel
theorem dL_law_1004 : decode cL_law 1004 = .ok (.invokevirtual 121, 3) := by decide +kernel
theorem dL_law_1007 : decode cL_law 1007 = .ok (.aload_n 2, 1) := by decide +kernel
theorem dL_law_1008 : decode cL_law 1008 = .ok (.aload_n 0, 1) := by decide +kernel
theorem dL_law_1009 : decode cL_law 1009 = .ok (.iload_n 3, 1) := by decide +kernel
theorem dL_law_1010 : decode cL_law 1010 = .ok (.iconst 1, 1) := by decide +kernel
theorem dL_law_1011 : decode cL_law 1011 = .ok (.iadd, 1) := by decide +kernel
theorem dL_law_1012 : decode cL_law 1012 = .ok (.iaload, 1) := by decide +kernel
theorem dL_law_1013 : decode cL_law 1013 = .ok (.invokevirtual 124, 3) := by decide +kernel
theorem dL_law_1016 : decode cL_law 1016 = .ok (.if_icmp .eq 447, 3) := by decide +kernel
theorem dL_law_1019 : decode cL_law 1019 = .ok (.iconst 0, 1) := by decide +kernel
theorem dL_law_1020 : decode cL_law 1020 = .ok (.ireturn, 1) := by decide +kernel
theorem dL_law_1021 : decode cL_law 1021 = .ok (.aload_n 1, 1) := by decide +kernel
theorem dL_law_1022 : decode cL_law 1022 = .ok (.aload_n 0, 1) := by decide +kernel
theorem dL_law_1023 : decode cL_law 1023 = .ok (.iload_n 3, 1) := by decide +kernel
theorem dL_law_1024 : decode cL_law 1024 = .ok (.iconst 1, 1) := by decide +kernel
theorem dL_law_1025 : decode cL_law 1025 = .ok (.iadd, 1) := by decide +kernel
theorem dL_law_1026 : decode cL_law 1026 = .ok (.iaload, 1) := by decide +kernel
theorem dL_law_1027 : decode cL_law 1027 = .ok (.invokevirtual 125, 3) := by decide +kernel
theorem dL_law_1030 : decode cL_law 1030 = .ok (.aload_n 2, 1) := by decide +kernel
theorem dL_law_1031 : decode cL_law 1031 = .ok (.aload_n 0, 1) := by decide +kernel
theorem dL_law_1032 : decode cL_law 1032 = .ok (.iload_n 3, 1) := by decide +kernel
theorem dL_law_1033 : decode cL_law 1033 = .ok (.iconst 1, 1) := by decide +kernel
theorem dL_law_1034 : decode cL_law 1034 = .ok (.iadd, 1) := by decide +kernel
theorem dL_law_1035 : decode cL_law 1035 = .ok (.iaload, 1) := by decide +kernel
theorem dL_law_1036 : decode cL_law 1036 = .ok (.invokevirtual 128, 3) := by decide +kernel
theorem dL_law_1039 : decode cL_law 1039 = .ok (.if_icmp .eq 424, 3) := by decide +kernel
theorem dL_law_1042 : decode cL_law 1042 = .ok (.iconst 0, 1) := by decide +kernel
theorem dL_law_1043 : decode cL_law 1043 = .ok (.ireturn, 1) := by decide +kernel
theorem dL_law_1044 : decode cL_law 1044 = .ok (.aload_n 1, 1) := by decide +kernel
theorem dL_law_1045 : decode cL_law 1045 = .ok (.aload_n 0, 1) := by decide +kernel
theorem dL_law_1046 : decode cL_law 1046 = .ok (.iload_n 3, 1) := by decide +kernel
theorem dL_law_1047 : decode cL_law 1047 = .ok (.iconst 1, 1) := by decide +kernel
theorem dL_law_1048 : decode cL_law 1048 = .ok (.iadd, 1) := by decide +kernel
theorem dL_law_1049 : decode cL_law 1049 = .ok (.iaload, 1) := by decide +kernel
theorem dL_law_1050 : decode cL_law 1050 = .ok (.aload_n 0, 1) := by decide +kernel
theorem dL_law_1051 : decode cL_law 1051 = .ok (.iload_n 3, 1) := by decide +kernel
theorem dL_law_1052 : decode cL_law 1052 = .ok (.iconst 2, 1) := by decide +kernel
theorem dL_law_1053 : decode cL_law 1053 = .ok (.iadd, 1) := by decide +kernel
theorem dL_law_1054 : decode cL_law 1054 = .ok (.iaload, 1) := by decide +kernel
theorem dL_law_1055 : decode cL_law 1055 = .ok (.invokevirtual 129, 3) := by decide +kernel
theorem dL_law_1058 : decode cL_law 1058 = .ok (.aload_n 2, 1) := by decide +kernel
theorem dL_law_1059 : decode cL_law 1059 = .ok (.aload_n 0, 1) := by decide +kernel
theorem dL_law_1060 : decode cL_law 1060 = .ok (.iload_n 3, 1) := by decide +kernel
theorem dL_law_1061 : decode cL_law 1061 = .ok (.iconst 1, 1) := by decide +kernel
theorem dL_law_1062 : decode cL_law 1062 = .ok (.iadd, 1) := by decide +kernel
theorem dL_law_1063 : decode cL_law 1063 = .ok (.iaload, 1) := by decide +kernel
theorem dL_law_1064 : decode cL_law 1064 = .ok (.aload_n 0, 1) := by decide +kernel
theorem dL_law_1065 : decode cL_law 1065 = .ok (.iload_n 3, 1) := by decide +kernel
theorem dL_law_1066 : decode cL_law 1066 = .ok (.iconst 2, 1) := by decide +kernel
theorem dL_law_1067 : decode cL_law 1067 = .ok (.iadd, 1) := by decide +kernel
theorem dL_law_1068 : decode cL_law 1068 = .ok (.iaload, 1) := by decide +kernel
theorem dL_law_1069 : decode cL_law 1069 = .ok (.invokevirtual 132, 3) := by decide +kernel
theorem dL_law_1072 : decode cL_law 1072 = .ok (.if_icmp .eq 391, 3) := by decide +kernel
theorem dL_law_1075 : decode cL_law 1075 = .ok (.iconst 0, 1) := by decide +kernel
theorem dL_law_1076 : decode cL_law 1076 = .ok (.ireturn, 1) := by decide +kernel
theorem dL_law_1077 : decode cL_law 1077 = .ok (.aload_n 1, 1) := by decide +kernel
theorem dL_law_1078 : decode cL_law 1078 = .ok (.aload_n 0, 1) := by decide +kernel
theorem dL_law_1079 : decode cL_law 1079 = .ok (.iload_n 3, 1) := by decide +kernel
theorem dL_law_1080 : decode cL_law 1080 = .ok (.iconst 1, 1) := by decide +kernel
theorem dL_law_1081 : decode cL_law 1081 = .ok (.iadd, 1) := by decide +kernel
theorem dL_law_1082 : decode cL_law 1082 = .ok (.iaload, 1) := by decide +kernel
theorem dL_law_1083 : decode cL_law 1083 = .ok (.invokevirtual 133, 3) := by decide +kernel
theorem dL_law_1086 : decode cL_law 1086 = .ok (.aload_n 2, 1) := by decide +kernel
theorem dL_law_1087 : decode cL_law 1087 = .ok (.aload_n 0, 1) := by decide +kernel
theorem dL_law_1088 : decode cL_law 1088 = .ok (.iload_n 3, 1) := by decide +kernel
theorem dL_law_1089 : decode cL_law 1089 = .ok (.iconst 1, 1) := by decide +kernel
theorem dL_law_1090 : decode cL_law 1090 = .ok (.iadd, 1) := by decide +kernel
theorem dL_law_1091 : decode cL_law 1091 = .ok (.iaload, 1) := by decide +kernel
theorem dL_law_1092 : decode cL_law 1092 = .ok (.invokevirtual 136, 3) := by decide +kernel
theorem dL_law_1095 : decode cL_law 1095 = .ok (.if_icmp .eq 368, 3) := by decide +kernel
theorem dL_law_1098 : decode cL_law 1098 = .ok (.iconst 0, 1) := by decide +kernel
theorem dL_law_1099 : decode cL_law 1099 = .ok (.ireturn, 1) := by decide +kernel
theorem dL_law_1100 : decode cL_law 1100 = .ok (.aload_n 1, 1) := by decide +kernel
theorem dL_law_1101 : decode cL_law 1101 = .ok (.invokevirtual 137, 3) := by decide +kernel
theorem dL_law_1104 : decode cL_law 1104 = .ok (.aload_n 2, 1) := by decide +kernel
theorem dL_law_1105 : decode cL_law 1105 = .ok (.invokevirtual 140, 3) := by decide +kernel
theorem dL_law_1108 : decode cL_law 1108 = .ok (.if_icmp .eq 355, 3) := by decide +kernel
theorem dL_law_1111 : decode cL_law 1111 = .ok (.iconst 0, 1) := by decide +kernel
theorem dL_law_1112 : decode cL_law 1112 = .ok (.ireturn, 1) := by decide +kernel
theorem dL_law_1113 : decode cL_law 1113 = .ok (.aload_n 1, 1) := by decide +kernel
theorem dL_law_1114 : decode cL_law 1114 = .ok (.aload_n 0, 1) := by decide +kernel
theorem dL_law_1115 : decode cL_law 1115 = .ok (.iload_n 3, 1) := by decide +kernel
theorem dL_law_1116 : decode cL_law 1116 = .ok (.iconst 1, 1) := by decide +kernel
theorem dL_law_1117 : decode cL_law 1117 = .ok (.iadd, 1) := by decide +kernel
theorem dL_law_1118 : decode cL_law 1118 = .ok (.iaload, 1) := by decide +kernel
theorem dL_law_1119 : decode cL_law 1119 = .ok (.aload_n 0, 1) := by decide +kernel
theorem dL_law_1120 : decode cL_law 1120 = .ok (.iload_n 3, 1) := by decide +kernel
theorem dL_law_1121 : decode cL_law 1121 = .ok (.iconst 2, 1) := by decide +kernel
theorem dL_law_1122 : decode cL_law 1122 = .ok (.iadd, 1) := by decide +kernel
theorem dL_law_1123 : decode cL_law 1123 = .ok (.iaload, 1) := by decide +kernel
theorem dL_law_1124 : decode cL_law 1124 = .ok (.invokevirtual 141, 3) := by decide +kernel
theorem dL_law_1127 : decode cL_law 1127 = .ok (.aload_n 2, 1) := by decide +kernel
theorem dL_law_1128 : decode cL_law 1128 = .ok (.aload_n 0, 1) := by decide +kernel
theorem dL_law_1129 : decode cL_law 1129 = .ok (.iload_n 3, 1) := by decide +kernel
theorem dL_law_1130 : decode cL_law 1130 = .ok (.iconst 1, 1) := by decide +kernel
theorem dL_law_1131 : decode cL_law 1131 = .ok (.iadd, 1) := by decide +kernel
theorem dL_law_1132 : decode cL_law 1132 = .ok (.iaload, 1) := by decide +kernel
theorem dL_law_1133 : decode cL_law 1133 = .ok (.aload_n 0, 1) := by decide +kernel
theorem dL_law_1134 : decode cL_law 1134 = .ok (.iload_n 3, 1) := by decide +kernel
theorem dL_law_1135 : decode cL_law 1135 = .ok (.iconst 2, 1) := by decide +kernel
theorem dL_law_1136 : decode cL_law 1136 = .ok (.iadd, 1) := by decide +kernel
theorem dL_law_1137 : decode cL_law 1137 = .ok (.iaload, 1) := by decide +kernel
theorem dL_law_1138 : decode cL_law 1138 = .ok (.invokevirtual 144, 3) := by decide +kernel
theorem dL_law_1141 : decode cL_law 1141 = .ok (.if_icmp .eq 322, 3) := by decide +kernel
theorem dL_law_1144 : decode cL_law 1144 = .ok (.iconst 0, 1) := by decide +kernel
theorem dL_law_1145 : decode cL_law 1145 = .ok (.ireturn, 1) := by decide +kernel
theorem dL_law_1146 : decode cL_law 1146 = .ok (.aload_n 1, 1) := by decide +kernel
theorem dL_law_1147 : decode cL_law 1147 = .ok (.aload_n 0, 1) := by decide +kernel
theorem dL_law_1148 : decode cL_law 1148 = .ok (.iload_n 3, 1) := by decide +kernel
theorem dL_law_1149 : decode cL_law 1149 = .ok (.iconst 1, 1) := by decide +kernel
theorem dL_law_1150 : decode cL_law 1150 = .ok (.iadd, 1) := by decide +kernel
theorem dL_law_1151 : decode cL_law 1151 = .ok (.iaload, 1) := by decide +kernel
theorem dL_law_1152 : decode cL_law 1152 = .ok (.aload_n 0, 1) := by decide +kernel
theorem dL_law_1153 : decode cL_law 1153 = .ok (.iload_n 3, 1) := by decide +kernel
theorem dL_law_1154 : decode cL_law 1154 = .ok (.iconst 2, 1) := by decide +kernel
theorem dL_law_1155 : decode cL_law 1155 = .ok (.iadd, 1) := by decide +kernel
theorem dL_law_1156 : decode cL_law 1156 = .ok (.iaload, 1) := by decide +kernel
theorem dL_law_1157 : decode cL_law 1157 = .ok (.aload_n 0, 1) := by decide +kernel
theorem dL_law_1158 : decode cL_law 1158 = .ok (.iload_n 3, 1) := by decide +kernel
theorem dL_law_1159 : decode cL_law 1159 = .ok (.iconst 3, 1) := by decide +kernel
theorem dL_law_1160 : decode cL_law 1160 = .ok (.iadd, 1) := by decide +kernel
theorem dL_law_1161 : decode cL_law 1161 = .ok (.iaload, 1) := by decide +kernel
theorem dL_law_1162 : decode cL_law 1162 = .ok (.invokevirtual 145, 3) := by decide +kernel
theorem dL_law_1165 : decode cL_law 1165 = .ok (.aload_n 2, 1) := by decide +kernel
theorem dL_law_1166 : decode cL_law 1166 = .ok (.aload_n 0, 1) := by decide +kernel
theorem dL_law_1167 : decode cL_law 1167 = .ok (.iload_n 3, 1) := by decide +kernel
theorem dL_law_1168 : decode cL_law 1168 = .ok (.iconst 1, 1) := by decide +kernel
theorem dL_law_1169 : decode cL_law 1169 = .ok (.iadd, 1) := by decide +kernel
theorem dL_law_1170 : decode cL_law 1170 = .ok (.iaload, 1) := by decide +kernel
theorem dL_law_1171 : decode cL_law 1171 = .ok (.aload_n 0, 1) := by decide +kernel
theorem dL_law_1172 : decode cL_law 1172 = .ok (.iload_n 3, 1) := by decide +kernel
theorem dL_law_1173 : decode cL_law 1173 = .ok (.iconst 2, 1) := by decide +kernel
theorem dL_law_1174 : decode cL_law 1174 = .ok (.iadd, 1) := by decide +kernel
theorem dL_law_1175 : decode cL_law 1175 = .ok (.iaload, 1) := by decide +kernel
theorem dL_law_1176 : decode cL_law 1176 = .ok (.aload_n 0, 1) := by decide +kernel
theorem dL_law_1177 : decode cL_law 1177 = .ok (.iload_n 3, 1) := by decide +kernel
theorem dL_law_1178 : decode cL_law 1178 = .ok (.iconst 3, 1) := by decide +kernel
theorem dL_law_1179 : decode cL_law 1179 = .ok (.iadd, 1) := by decide +kernel
theorem dL_law_1180 : decode cL_law 1180 = .ok (.iaload, 1) := by decide +kernel
theorem dL_law_1181 : decode cL_law 1181 = .ok (.invokevirtual 148, 3) := by decide +kernel
theorem dL_law_1184 : decode cL_law 1184 = .ok (.if_icmp .eq 279, 3) := by decide +kernel
theorem dL_law_1187 : decode cL_law 1187 = .ok (.iconst 0, 1) := by decide +kernel
theorem dL_law_1188 : decode cL_law 1188 = .ok (.ireturn, 1) := by decide +kernel
theorem dL_law_1189 : decode cL_law 1189 = .ok (.aload_n 1, 1) := by decide +kernel
theorem dL_law_1190 : decode cL_law 1190 = .ok (.aload_n 0, 1) := by decide +kernel
theorem dL_law_1191 : decode cL_law 1191 = .ok (.iload_n 3, 1) := by decide +kernel
theorem dL_law_1192 : decode cL_law 1192 = .ok (.iconst 1, 1) := by decide +kernel
theorem dL_law_1193 : decode cL_law 1193 = .ok (.iadd, 1) := by decide +kernel
theorem dL_law_1194 : decode cL_law 1194 = .ok (.iaload, 1) := by decide +kernel
theorem dL_law_1195 : decode cL_law 1195 = .ok (.aload_n 0, 1) := by decide +kernel
theorem dL_law_1196 : decode cL_law 1196 = .ok (.iload_n 3, 1) := by decide +kernel
theorem dL_law_1197 : decode cL_law 1197 = .ok (.iconst 2, 1) := by decide +kernel
theorem dL_law_1198 : decode cL_law 1198 = .ok (.iadd, 1) := by decide +kernel
theorem dL_law_1199 : decode cL_law 1199 = .ok (.iaload, 1) := by decide +kernel
theorem dL_law_1200 : decode cL_law 1200 = .ok (.aload_n 0, 1) := by decide +kernel
theorem dL_law_1201 : decode cL_law 1201 = .ok (.iload_n 3, 1) := by decide +kernel
theorem dL_law_1202 : decode cL_law 1202 = .ok (.iconst 3, 1) := by decide +kernel
theorem dL_law_1203 : decode cL_law 1203 = .ok (.iadd, 1) := by decide +kernel
theorem dL_law_1204 : decode cL_law 1204 = .ok (.iaload, 1) := by decide +kernel
theorem dL_law_1205 : decode cL_law 1205 = .ok (.aload_n 0, 1) := by decide +kernel
theorem dL_law_1206 : decode cL_law 1206 = .ok (.iload_n 3, 1) := by decide +kernel
theorem dL_law_1207 : decode cL_law 1207 = .ok (.iconst 4, 1) := by decide +kernel
theorem dL_law_1208 : decode cL_law 1208 = .ok (.iadd, 1) := by decide +kernel
theorem dL_law_1209 : decode cL_law 1209 = .ok (.iaload, 1) := by decide +kernel
theorem dL_law_1210 : decode cL_law 1210 = .ok (.aload_n 0, 1) := by decide +kernel
theorem dL_law_1211 : decode cL_law 1211 = .ok (.iload_n 3, 1) := by decide +kernel
theorem dL_law_1212 : decode cL_law 1212 = .ok (.iconst 5, 1) := by decide +kernel
theorem dL_law_1213 : decode cL_law 1213 = .ok (.iadd, 1) := by decide +kernel
theorem dL_law_1214 : decode cL_law 1214 = .ok (.iaload, 1) := by decide +kernel
theorem dL_law_1215 : decode cL_law 1215 = .ok (.aload_n 0, 1) := by decide +kernel
theorem dL_law_1216 : decode cL_law 1216 = .ok (.iload_n 3, 1) := by decide +kernel
theorem dL_law_1217 : decode cL_law 1217 = .ok (.bipush 6, 2) := by decide +kernel
theorem dL_law_1219 : decode cL_law 1219 = .ok (.iadd, 1) := by decide +kernel
theorem dL_law_1220 : decode cL_law 1220 = .ok (.iaload, 1) := by decide +kernel
theorem dL_law_1221 : decode cL_law 1221 = .ok (.invokevirtual 149, 3) := by decide +kernel
theorem dL_law_1224 : decode cL_law 1224 = .ok (.aload_n 2, 1) := by decide +kernel
theorem dL_law_1225 : decode cL_law 1225 = .ok (.aload_n 0, 1) := by decide +kernel
theorem dL_law_1226 : decode cL_law 1226 = .ok (.iload_n 3, 1) := by decide +kernel
theorem dL_law_1227 : decode cL_law 1227 = .ok (.iconst 1, 1) := by decide +kernel
theorem dL_law_1228 : decode cL_law 1228 = .ok (.iadd, 1) := by decide +kernel
theorem dL_law_1229 : decode cL_law 1229 = .ok (.iaload, 1) := by decide +kernel
theorem dL_law_1230 : decode cL_law 1230 = .ok (.aload_n 0, 1) := by decide +kernel
theorem dL_law_1231 : decode cL_law 1231 = .ok (.iload_n 3, 1) := by decide +kernel
theorem dL_law_1232 : decode cL_law 1232 = .ok (.iconst 2, 1) := by decide +kernel
theorem dL_law_1233 : decode cL_law 1233 = .ok (.iadd, 1) := by decide +kernel
theorem dL_law_1234 : decode cL_law 1234 = .ok (.iaload, 1) := by decide +kernel
theorem dL_law_1235 : decode cL_law 1235 = .ok (.aload_n 0, 1) := by decide +kernel
theorem dL_law_1236 : decode cL_law 1236 = .ok (.iload_n 3, 1) := by decide +kernel
theorem dL_law_1237 : decode cL_law 1237 = .ok (.iconst 3, 1) := by decide +kernel
theorem dL_law_1238 : decode cL_law 1238 = .ok (.iadd, 1) := by decide +kernel
theorem dL_law_1239 : decode cL_law 1239 = .ok (.iaload, 1) := by decide +kernel
theorem dL_law_1240 : decode cL_law 1240 = .ok (.aload_n 0, 1) := by decide +kernel
theorem dL_law_1241 : decode cL_law 1241 = .ok (.iload_n 3, 1) := by decide +kernel
theorem dL_law_1242 : decode cL_law 1242 = .ok (.iconst 4, 1) := by decide +kernel
theorem dL_law_1243 : decode cL_law 1243 = .ok (.iadd, 1) := by decide +kernel
theorem dL_law_1244 : decode cL_law 1244 = .ok (.iaload, 1) := by decide +kernel
theorem dL_law_1245 : decode cL_law 1245 = .ok (.aload_n 0, 1) := by decide +kernel
theorem dL_law_1246 : decode cL_law 1246 = .ok (.iload_n 3, 1) := by decide +kernel
theorem dL_law_1247 : decode cL_law 1247 = .ok (.iconst 5, 1) := by decide +kernel
theorem dL_law_1248 : decode cL_law 1248 = .ok (.iadd, 1) := by decide +kernel
theorem dL_law_1249 : decode cL_law 1249 = .ok (.iaload, 1) := by decide +kernel
theorem dL_law_1250 : decode cL_law 1250 = .ok (.aload_n 0, 1) := by decide +kernel
theorem dL_law_1251 : decode cL_law 1251 = .ok (.iload_n 3, 1) := by decide +kernel
theorem dL_law_1252 : decode cL_law 1252 = .ok (.bipush 6, 2) := by decide +kernel
theorem dL_law_1254 : decode cL_law 1254 = .ok (.iadd, 1) := by decide +kernel
theorem dL_law_1255 : decode cL_law 1255 = .ok (.iaload, 1) := by decide +kernel
theorem dL_law_1256 : decode cL_law 1256 = .ok (.invokevirtual 153, 3) := by decide +kernel
theorem dL_law_1259 : decode cL_law 1259 = .ok (.lcmp, 1) := by decide +kernel
theorem dL_law_1260 : decode cL_law 1260 = .ok (.ifCond .eq 203, 3) := by decide +kernel
theorem dL_law_1263 : decode cL_law 1263 = .ok (.iconst 0, 1) := by decide +kernel
theorem dL_law_1264 : decode cL_law 1264 = .ok (.ireturn, 1) := by decide +kernel
theorem dL_law_1265 : decode cL_law 1265 = .ok (.aload_n 1, 1) := by decide +kernel
theorem dL_law_1266 : decode cL_law 1266 = .ok (.aload_n 0, 1) := by decide +kernel
theorem dL_law_1267 : decode cL_law 1267 = .ok (.iload_n 3, 1) := by decide +kernel
theorem dL_law_1268 : decode cL_law 1268 = .ok (.iconst 1, 1) := by decide +kernel
theorem dL_law_1269 : decode cL_law 1269 = .ok (.iadd, 1) := by decide +kernel
theorem dL_law_1270 : decode cL_law 1270 = .ok (.iaload, 1) := by decide +kernel
theorem dL_law_1271 : decode cL_law 1271 = .ok (.invokevirtual 154, 3) := by decide +kernel
theorem dL_law_1274 : decode cL_law 1274 = .ok (.aload_n 2, 1) := by decide +kernel
theorem dL_law_1275 : decode cL_law 1275 = .ok (.aload_n 0, 1) := by decide +kernel
theorem dL_law_1276 : decode cL_law 1276 = .ok (.iload_n 3, 1) := by decide +kernel
theorem dL_law_1277 : decode cL_law 1277 = .ok (.iconst 1, 1) := by decide +kernel
theorem dL_law_1278 : decode cL_law 1278 = .ok (.iadd, 1) := by decide +kernel
theorem dL_law_1279 : decode cL_law 1279 = .ok (.iaload, 1) := by decide +kernel
theorem dL_law_1280 : decode cL_law 1280 = .ok (.invokevirtual 158, 3) := by decide +kernel
theorem dL_law_1283 : decode cL_law 1283 = .ok (.lcmp, 1) := by decide +kernel
theorem dL_law_1284 : decode cL_law 1284 = .ok (.ifCond .eq 179, 3) := by decide +kernel
theorem dL_law_1287 : decode cL_law 1287 = .ok (.iconst 0, 1) := by decide +kernel
theorem dL_law_1288 : decode cL_law 1288 = .ok (.ireturn, 1) := by decide +kernel
theorem dL_law_1289 : decode cL_law 1289 = .ok (.aload_n 1, 1) := by decide +kernel
theorem dL_law_1290 : decode cL_law 1290 = .ok (.aload_n 0, 1) := by decide +kernel
theorem dL_law_1291 : decode cL_law 1291 = .ok (.iload_n 3, 1) := by decide +kernel
theorem dL_law_1292 : decode cL_law 1292 = .ok (.iconst 1, 1) := by decide +kernel
theorem dL_law_1293 : decode cL_law 1293 = .ok (.iadd, 1) := by decide +kernel
theorem dL_law_1294 : decode cL_law 1294 = .ok (.iaload, 1) := by decide +kernel
theorem dL_law_1295 : decode cL_law 1295 = .ok (.aload_n 0, 1) := by decide +kernel
theorem dL_law_1296 : decode cL_law 1296 = .ok (.iload_n 3, 1) := by decide +kernel
theorem dL_law_1297 : decode cL_law 1297 = .ok (.iconst 2, 1) := by decide +kernel
theorem dL_law_1298 : decode cL_law 1298 = .ok (.iadd, 1) := by decide +kernel
theorem dL_law_1299 : decode cL_law 1299 = .ok (.iaload, 1) := by decide +kernel
theorem dL_law_1300 : decode cL_law 1300 = .ok (.invokevirtual 159, 3) := by decide +kernel
theorem dL_law_1303 : decode cL_law 1303 = .ok (.aload_n 2, 1) := by decide +kernel
theorem dL_law_1304 : decode cL_law 1304 = .ok (.aload_n 0, 1) := by decide +kernel
theorem dL_law_1305 : decode cL_law 1305 = .ok (.iload_n 3, 1) := by decide +kernel
theorem dL_law_1306 : decode cL_law 1306 = .ok (.iconst 1, 1) := by decide +kernel
theorem dL_law_1307 : decode cL_law 1307 = .ok (.iadd, 1) := by decide +kernel
theorem dL_law_1308 : decode cL_law 1308 = .ok (.iaload, 1) := by decide +kernel
theorem dL_law_1309 : decode cL_law 1309 = .ok (.aload_n 0, 1) := by decide +kernel
theorem dL_law_1310 : decode cL_law 1310 = .ok (.iload_n 3, 1) := by decide +kernel
theorem dL_law_1311 : decode cL_law 1311 = .ok (.iconst 2, 1) := by decide +kernel
theorem dL_law_1312 : decode cL_law 1312 = .ok (.iadd, 1) := by decide +kernel
theorem dL_law_1313 : decode cL_law 1313 = .ok (.iaload, 1) := by decide +kernel
theorem dL_law_1314 : decode cL_law 1314 = .ok (.invokevirtual 162, 3) := by decide +kernel
theorem dL_law_1317 : decode cL_law 1317 = .ok (.if_icmp .eq 146, 3) := by decide +kernel
theorem dL_law_1320 : decode cL_law 1320 = .ok (.iconst 0, 1) := by decide +kernel
theorem dL_law_1321 : decode cL_law 1321 = .ok (.ireturn, 1) := by decide +kernel
theorem dL_law_1322 : decode cL_law 1322 = .ok (.aload_n 1, 1) := by decide +kernel
theorem dL_law_1323 : decode cL_law 1323 = .ok (.aload_n 0, 1) := by decide +kernel
theorem dL_law_1324 : decode cL_law 1324 = .ok (.iload_n 3, 1) := by decide +kernel
theorem dL_law_1325 : decode cL_law 1325 = .ok (.iconst 1, 1) := by decide +kernel
theorem dL_law_1326 : decode cL_law 1326 = .ok (.iadd, 1) := by decide +kernel
theorem dL_law_1327 : decode cL_law 1327 = .ok (.iaload, 1) := by decide +kernel
theorem dL_law_1328 : decode cL_law 1328 = .ok (.invokevirtual 163, 3) := by decide +kernel
theorem dL_law_1331 : decode cL_law 1331 = .ok (.aload_n 2, 1) := by decide +kernel
theorem dL_law_1332 : decode cL_law 1332 = .ok (.aload_n 0, 1) := by decide +kernel
theorem dL_law_1333 : decode cL_law 1333 = .ok (.iload_n 3, 1) := by decide +kernel
theorem dL_law_1334 : decode cL_law 1334 = .ok (.iconst 1, 1) := by decide +kernel
theorem dL_law_1335 : decode cL_law 1335 = .ok (.iadd, 1) := by decide +kernel
theorem dL_law_1336 : decode cL_law 1336 = .ok (.iaload, 1) := by decide +kernel
theorem dL_law_1337 : decode cL_law 1337 = .ok (.invokevirtual 166, 3) := by decide +kernel
theorem dL_law_1340 : decode cL_law 1340 = .ok (.if_icmp .eq 123, 3) := by decide +kernel
theorem dL_law_1343 : decode cL_law 1343 = .ok (.iconst 0, 1) := by decide +kernel
theorem dL_law_1344 : decode cL_law 1344 = .ok (.ireturn, 1) := by decide +kernel
theorem dL_law_1345 : decode cL_law 1345 = .ok (.aload_n 1, 1) := by decide +kernel
theorem dL_law_1346 : decode cL_law 1346 = .ok (.invokevirtual 167, 3) := by decide +kernel
theorem dL_law_1349 : decode cL_law 1349 = .ok (.aload_n 2, 1) := by decide +kernel
theorem dL_law_1350 : decode cL_law 1350 = .ok (.invokevirtual 170, 3) := by decide +kernel
theorem dL_law_1353 : decode cL_law 1353 = .ok (.if_icmp .eq 110, 3) := by decide +kernel
theorem dL_law_1356 : decode cL_law 1356 = .ok (.iconst 0, 1) := by decide +kernel
theorem dL_law_1357 : decode cL_law 1357 = .ok (.ireturn, 1) := by decide +kernel
theorem dL_law_1358 : decode cL_law 1358 = .ok (.aload_n 1, 1) := by decide +kernel
theorem dL_law_1359 : decode cL_law 1359 = .ok (.invokevirtual 171, 3) := by decide +kernel
theorem dL_law_1362 : decode cL_law 1362 = .ok (.aload_n 2, 1) := by decide +kernel
theorem dL_law_1363 : decode cL_law 1363 = .ok (.invokevirtual 174, 3) := by decide +kernel
theorem dL_law_1366 : decode cL_law 1366 = .ok (.if_icmp .eq 97, 3) := by decide +kernel
theorem dL_law_1369 : decode cL_law 1369 = .ok (.iconst 0, 1) := by decide +kernel
theorem dL_law_1370 : decode cL_law 1370 = .ok (.ireturn, 1) := by decide +kernel
theorem dL_law_1371 : decode cL_law 1371 = .ok (.aload_n 1, 1) := by decide +kernel
theorem dL_law_1372 : decode cL_law 1372 = .ok (.aload_n 0, 1) := by decide +kernel
theorem dL_law_1373 : decode cL_law 1373 = .ok (.iload_n 3, 1) := by decide +kernel
theorem dL_law_1374 : decode cL_law 1374 = .ok (.iconst 1, 1) := by decide +kernel
theorem dL_law_1375 : decode cL_law 1375 = .ok (.iadd, 1) := by decide +kernel
theorem dL_law_1376 : decode cL_law 1376 = .ok (.iaload, 1) := by decide +kernel
theorem dL_law_1377 : decode cL_law 1377 = .ok (.aload_n 0, 1) := by decide +kernel
theorem dL_law_1378 : decode cL_law 1378 = .ok (.iload_n 3, 1) := by decide +kernel
theorem dL_law_1379 : decode cL_law 1379 = .ok (.iconst 2, 1) := by decide +kernel
theorem dL_law_1380 : decode cL_law 1380 = .ok (.iadd, 1) := by decide +kernel
theorem dL_law_1381 : decode cL_law 1381 = .ok (.iaload, 1) := by decide +kernel
theorem dL_law_1382 : decode cL_law 1382 = .ok (.aload_n 0, 1) := by decide +kernel
theorem dL_law_1383 : decode cL_law 1383 = .ok (.iload_n 3, 1) := by decide +kernel
theorem dL_law_1384 : decode cL_law 1384 = .ok (.iconst 3, 1) := by decide +kernel
theorem dL_law_1385 : decode cL_law 1385 = .ok (.iadd, 1) := by decide +kernel
theorem dL_law_1386 : decode cL_law 1386 = .ok (.iaload, 1) := by decide +kernel
theorem dL_law_1387 : decode cL_law 1387 = .ok (.invokevirtual 175, 3) := by decide +kernel
theorem dL_law_1390 : decode cL_law 1390 = .ok (.aload_n 2, 1) := by decide +kernel
theorem dL_law_1391 : decode cL_law 1391 = .ok (.aload_n 0, 1) := by decide +kernel
theorem dL_law_1392 : decode cL_law 1392 = .ok (.iload_n 3, 1) := by decide +kernel
theorem dL_law_1393 : decode cL_law 1393 = .ok (.iconst 1, 1) := by decide +kernel
theorem dL_law_1394 : decode cL_law 1394 = .ok (.iadd, 1) := by decide +kernel
theorem dL_law_1395 : decode cL_law 1395 = .ok (.iaload, 1) := by decide +kernel
theorem dL_law_1396 : decode cL_law 1396 = .ok (.aload_n 0, 1) := by decide +kernel
theorem dL_law_1397 : decode cL_law 1397 = .ok (.iload_n 3, 1) := by decide +kernel
theorem dL_law_1398 : decode cL_law 1398 = .ok (.iconst 2, 1) := by decide +kernel
theorem dL_law_1399 : decode cL_law 1399 = .ok (.iadd, 1) := by decide +kernel
theorem dL_law_1400 : decode cL_law 1400 = .ok (.iaload, 1) := by decide +kernel
theorem dL_law_1401 : decode cL_law 1401 = .ok (.aload_n 0, 1) := by decide +kernel
theorem dL_law_1402 : decode cL_law 1402 = .ok (.iload_n 3, 1) := by decide +kernel
theorem dL_law_1403 : decode cL_law 1403 = .ok (.iconst 3, 1) := by decide +kernel
theorem dL_law_1404 : decode cL_law 1404 = .ok (.iadd, 1) := by decide +kernel
theorem dL_law_1405 : decode cL_law 1405 = .ok (.iaload, 1) := by decide +kernel
theorem dL_law_1406 : decode cL_law 1406 = .ok (.invokevirtual 178, 3) := by decide +kernel
theorem dL_law_1409 : decode cL_law 1409 = .ok (.if_icmp .eq 54, 3) := by decide +kernel
theorem dL_law_1412 : decode cL_law 1412 = .ok (.iconst 0, 1) := by decide +kernel
theorem dL_law_1413 : decode cL_law 1413 = .ok (.ireturn, 1) := by decide +kernel
theorem dL_law_1414 : decode cL_law 1414 = .ok (.aload_n 1, 1) := by decide +kernel
theorem dL_law_1415 : decode cL_law 1415 = .ok (.invokevirtual 179, 3) := by decide +kernel
theorem dL_law_1418 : decode cL_law 1418 = .ok (.aload_n 2, 1) := by decide +kernel
theorem dL_law_1419 : decode cL_law 1419 = .ok (.invokevirtual 182, 3) := by decide +kernel
theorem dL_law_1422 : decode cL_law 1422 = .ok (.if_icmp .eq 41, 3) := by decide +kernel
theorem dL_law_1425 : decode cL_law 1425 = .ok (.iconst 0, 1) := by decide +kernel
theorem dL_law_1426 : decode cL_law 1426 = .ok (.ireturn, 1) := by decide +kernel
theorem dL_law_1427 : decode cL_law 1427 = .ok (.aload_n 1, 1) := by decide +kernel
theorem dL_law_1428 : decode cL_law 1428 = .ok (.invokevirtual 183, 3) := by decide +kernel
theorem dL_law_1431 : decode cL_law 1431 = .ok (.aload_n 2, 1) := by decide +kernel
theorem dL_law_1432 : decode cL_law 1432 = .ok (.invokevirtual 186, 3) := by decide +kernel
theorem dL_law_1435 : decode cL_law 1435 = .ok (.if_icmp .eq 28, 3) := by decide +kernel
theorem dL_law_1438 : decode cL_law 1438 = .ok (.iconst 0, 1) := by decide +kernel
theorem dL_law_1439 : decode cL_law 1439 = .ok (.ireturn, 1) := by decide +kernel
theorem dL_law_1440 : decode cL_law 1440 = .ok (.aload_n 1, 1) := by decide +kernel
theorem dL_law_1441 : decode cL_law 1441 = .ok (.aload_n 0, 1) := by decide +kernel
theorem dL_law_1442 : decode cL_law 1442 = .ok (.iload_n 3, 1) := by decide +kernel
theorem dL_law_1443 : decode cL_law 1443 = .ok (.iconst 1, 1) := by decide +kernel
theorem dL_law_1444 : decode cL_law 1444 = .ok (.iadd, 1) := by decide +kernel
theorem dL_law_1445 : decode cL_law 1445 = .ok (.iaload, 1) := by decide +kernel
theorem dL_law_1446 : decode cL_law 1446 = .ok (.invokevirtual 187, 3) := by decide +kernel
theorem dL_law_1449 : decode cL_law 1449 = .ok (.aload_n 2, 1) := by decide +kernel
theorem dL_law_1450 : decode cL_law 1450 = .ok (.aload_n 0, 1) := by decide +kernel
theorem dL_law_1451 : decode cL_law 1451 = .ok (.iload_n 3, 1) := by decide +kernel
theorem dL_law_1452 : decode cL_law 1452 = .ok (.iconst 1, 1) := by decide +kernel
theorem dL_law_1453 : decode cL_law 1453 = .ok (.iadd, 1) := by decide +kernel
theorem dL_law_1454 : decode cL_law 1454 = .ok (.iaload, 1) := by decide +kernel
theorem dL_law_1455 : decode cL_law 1455 = .ok (.invokevirtual 190, 3) := by decide +kernel
theorem dL_law_1458 : decode cL_law 1458 = .ok (.if_icmp .eq 5, 3) := by decide +kernel
theorem dL_law_1461 : decode cL_law 1461 = .ok (.iconst 0, 1) := by decide +kernel
theorem dL_law_1462 : decode cL_law 1462 = .ok (.ireturn, 1) := by decide +kernel
theorem dL_law_1463 : decode cL_law 1463 = .ok (.iinc 3 7, 3) := by decide +kernel
theorem dL_law_1466 : decode cL_law 1466 = .ok (.goto (-1448), 3) := by decide +kernel
theorem dL_law_1469 : decode cL_law 1469 = .ok (.iconst 1, 1) := by decide +kernel
theorem dL_law_1470 : decode cL_law 1470 = .ok (.ireturn, 1) := by decide +kernel
