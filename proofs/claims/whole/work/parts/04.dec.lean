theorem dX12_init_0 : decode cX12_init 0 = .ok (.aload_n 0, 1) := by decide +kernel
theorem dX12_init_1 : decode cX12_init 1 = .ok (.invokespecial 3, 3) := by decide +kernel
theorem dX12_init_4 : decode cX12_init 4 = .ok (.aload_n 0, 1) := by decide +kernel
theorem dX12_init_5 : decode cX12_init 5 = .ok (.sipush 286, 3) := by decide +kernel
theorem dX12_init_8 : decode cX12_init 8 = .ok (.newarray .int, 2) := by decide +kernel
theorem dX12_init_10 : decode cX12_init 10 = .ok (.putfield 9, 3) := by decide +kernel
theorem dX12_init_13 : decode cX12_init 13 = .ok (.aload_n 0, 1) := by decide +kernel
theorem dX12_init_14 : decode cX12_init 14 = .ok (.sipush 286, 3) := by decide +kernel
theorem dX12_init_17 : decode cX12_init 17 = .ok (.newarray .int, 2) := by decide +kernel
theorem dX12_init_19 : decode cX12_init 19 = .ok (.putfield 13, 3) := by decide +kernel
theorem dX12_init_22 : decode cX12_init 22 = .ok (.aload_n 0, 1) := by decide +kernel
theorem dX12_init_23 : decode cX12_init 23 = .ok (.sipush 572, 3) := by decide +kernel
theorem dX12_init_26 : decode cX12_init 26 = .ok (.newarray .int, 2) := by decide +kernel
theorem dX12_init_28 : decode cX12_init 28 = .ok (.putfield 16, 3) := by decide +kernel
theorem dX12_init_31 : decode cX12_init 31 = .ok (.aload_n 0, 1) := by decide +kernel
theorem dX12_init_32 : decode cX12_init 32 = .ok (.iconst 2, 1) := by decide +kernel
theorem dX12_init_33 : decode cX12_init 33 = .ok (.newarray .boolean, 2) := by decide +kernel
theorem dX12_init_35 : decode cX12_init 35 = .ok (.putfield 19, 3) := by decide +kernel
theorem dX12_init_38 : decode cX12_init 38 = .ok (.aload_n 0, 1) := by decide +kernel
theorem dX12_init_39 : decode cX12_init 39 = .ok (.sipush 2288, 3) := by decide +kernel
theorem dX12_init_42 : decode cX12_init 42 = .ok (.newarray .int, 2) := by decide +kernel
theorem dX12_init_44 : decode cX12_init 44 = .ok (.putfield 23, 3) := by decide +kernel
theorem dX12_init_47 : decode cX12_init 47 = .ok (.aload_n 0, 1) := by decide +kernel
theorem dX12_init_48 : decode cX12_init 48 = .ok (.sipush 400, 3) := by decide +kernel
theorem dX12_init_51 : decode cX12_init 51 = .ok (.newarray .byte, 2) := by decide +kernel
theorem dX12_init_53 : decode cX12_init 53 = .ok (.putfield 26, 3) := by decide +kernel
theorem dX12_init_56 : decode cX12_init 56 = .ok (.aload_n 0, 1) := by decide +kernel
theorem dX12_init_57 : decode cX12_init 57 = .ok (.iconst (-1), 1) := by decide +kernel
theorem dX12_init_58 : decode cX12_init 58 = .ok (.putfield 30, 3) := by decide +kernel
theorem dX12_init_61 : decode cX12_init 61 = .ok (.aload_n 0, 1) := by decide +kernel
theorem dX12_init_62 : decode cX12_init 62 = .ok (.bipush 81, 2) := by decide +kernel
theorem dX12_init_64 : decode cX12_init 64 = .ok (.newarray .int, 2) := by decide +kernel
theorem dX12_init_66 : decode cX12_init 66 = .ok (.putfield 34, 3) := by decide +kernel
theorem dX12_init_69 : decode cX12_init 69 = .ok (.aload_n 0, 1) := by decide +kernel
theorem dX12_init_70 : decode cX12_init 70 = .ok (.sipush 405, 3) := by decide +kernel
theorem dX12_init_73 : decode cX12_init 73 = .ok (.newarray .int, 2) := by decide +kernel
theorem dX12_init_75 : decode cX12_init 75 = .ok (.putfield 37, 3) := by decide +kernel
theorem dX12_init_78 : decode cX12_init 78 = .ok (.aload_n 0, 1) := by decide +kernel
theorem dX12_init_79 : decode cX12_init 79 = .ok (.sipush 405, 3) := by decide +kernel
theorem dX12_init_82 : decode cX12_init 82 = .ok (.newarray .int, 2) := by decide +kernel
theorem dX12_init_84 : decode cX12_init 84 = .ok (.putfield 40, 3) := by decide +kernel
theorem dX12_init_87 : decode cX12_init 87 = .ok (.aload_n 0, 1) := by decide +kernel
theorem dX12_init_88 : decode cX12_init 88 = .ok (.sipush 405, 3) := by decide +kernel
theorem dX12_init_91 : decode cX12_init 91 = .ok (.newarray .int, 2) := by decide +kernel
theorem dX12_init_93 : decode cX12_init 93 = .ok (.putfield 43, 3) := by decide +kernel
theorem dX12_init_96 : decode cX12_init 96 = .ok (.aload_n 0, 1) := by decide +kernel
theorem dX12_init_97 : decode cX12_init 97 = .ok (.sipush 405, 3) := by decide +kernel
theorem dX12_init_100 : decode cX12_init 100 = .ok (.newarray .int, 2) := by decide +kernel
theorem dX12_init_102 : decode cX12_init 102 = .ok (.putfield 46, 3) := by decide +kernel
theorem dX12_init_105 : decode cX12_init 105 = .ok (.aload_n 0, 1) := by decide +kernel
theorem dX12_init_106 : decode cX12_init 106 = .ok (.sipush 405, 3) := by decide +kernel
theorem dX12_init_109 : decode cX12_init 109 = .ok (.newarray .boolean, 2) := by decide +kernel
theorem dX12_init_111 : decode cX12_init 111 = .ok (.putfield 49, 3) := by decide +kernel
theorem dX12_init_114 : decode cX12_init 114 = .ok (.aload_n 0, 1) := by decide +kernel
theorem dX12_init_115 : decode cX12_init 115 = .ok (.bipush 81, 2) := by decide +kernel
theorem dX12_init_117 : decode cX12_init 117 = .ok (.newarray .boolean, 2) := by decide +kernel
theorem dX12_init_119 : decode cX12_init 119 = .ok (.putfield 52, 3) := by decide +kernel
theorem dX12_init_122 : decode cX12_init 122 = .ok (.aload_n 0, 1) := by decide +kernel
theorem dX12_init_123 : decode cX12_init 123 = .ok (.bipush 81, 2) := by decide +kernel
theorem dX12_init_125 : decode cX12_init 125 = .ok (.newarray .int, 2) := by decide +kernel
theorem dX12_init_127 : decode cX12_init 127 = .ok (.putfield 55, 3) := by decide +kernel
theorem dX12_init_130 : decode cX12_init 130 = .ok (.aload_n 0, 1) := by decide +kernel
theorem dX12_init_131 : decode cX12_init 131 = .ok (.bipush 81, 2) := by decide +kernel
theorem dX12_init_133 : decode cX12_init 133 = .ok (.newarray .int, 2) := by decide +kernel
theorem dX12_init_135 : decode cX12_init 135 = .ok (.putfield 58, 3) := by decide +kernel
theorem dX12_init_138 : decode cX12_init 138 = .ok (.aload_n 0, 1) := by decide +kernel
theorem dX12_init_139 : decode cX12_init 139 = .ok (.bipush 81, 2) := by decide +kernel
theorem dX12_init_141 : decode cX12_init 141 = .ok (.newarray .int, 2) := by decide +kernel
theorem dX12_init_143 : decode cX12_init 143 = .ok (.putfield 61, 3) := by decide +kernel
theorem dX12_init_146 : decode cX12_init 146 = .ok (.aload_n 0, 1) := by decide +kernel
theorem dX12_init_147 : decode cX12_init 147 = .ok (.bipush 81, 2) := by decide +kernel
theorem dX12_init_149 : decode cX12_init 149 = .ok (.newarray .int, 2) := by decide +kernel
theorem dX12_init_151 : decode cX12_init 151 = .ok (.putfield 64, 3) := by decide +kernel
theorem dX12_init_154 : decode cX12_init 154 = .ok (.aload_n 0, 1) := by decide +kernel
theorem dX12_init_155 : decode cX12_init 155 = .ok (.bipush 81, 2) := by decide +kernel
theorem dX12_init_157 : decode cX12_init 157 = .ok (.newarray .int, 2) := by decide +kernel
theorem dX12_init_159 : decode cX12_init 159 = .ok (.putfield 67, 3) := by decide +kernel
theorem dX12_init_162 : decode cX12_init 162 = .ok (.aload_n 0, 1) := by decide +kernel
theorem dX12_init_163 : decode cX12_init 163 = .ok (.bipush 9, 2) := by decide +kernel
theorem dX12_init_165 : decode cX12_init 165 = .ok (.newarray .int, 2) := by decide +kernel
theorem dX12_init_167 : decode cX12_init 167 = .ok (.putfield 70, 3) := by decide +kernel
theorem dX12_init_170 : decode cX12_init 170 = .ok (.aload_n 0, 1) := by decide +kernel
theorem dX12_init_171 : decode cX12_init 171 = .ok (.iconst 2, 1) := by decide +kernel
theorem dX12_init_172 : decode cX12_init 172 = .ok (.invokevirtual 73, 3) := by decide +kernel
theorem dX12_init_175 : decode cX12_init 175 = .ok (.return_, 1) := by decide +kernel
theorem dX12_thrown_0 : decode cX12_thrown 0 = .ok (.aload_n 0, 1) := by decide +kernel
theorem dX12_thrown_1 : decode cX12_thrown 1 = .ok (.getfield 77, 3) := by decide +kernel
theorem dX12_thrown_4 : decode cX12_thrown 4 = .ok (.ireturn, 1) := by decide +kernel
theorem dX12_in_0 : decode cX12_in 0 = .ok (.lload_n 2, 1) := by decide +kernel
theorem dX12_in_1 : decode cX12_in 1 = .ok (.lload_n 0, 1) := by decide +kernel
theorem dX12_in_2 : decode cX12_in 2 = .ok (.lcmp, 1) := by decide +kernel
theorem dX12_in_3 : decode cX12_in 3 = .ok (.ifCond .gt 14, 3) := by decide +kernel
theorem dX12_in_6 : decode cX12_in 6 = .ok (.lload_n 0, 1) := by decide +kernel
theorem dX12_in_7 : decode cX12_in 7 = .ok (.lload 4, 2) := by decide +kernel
theorem dX12_in_9 : decode cX12_in 9 = .ok (.lcmp, 1) := by decide +kernel
theorem dX12_in_10 : decode cX12_in 10 = .ok (.ifCond .gt 7, 3) := by decide +kernel
theorem dX12_in_13 : decode cX12_in 13 = .ok (.iconst 1, 1) := by decide +kernel
theorem dX12_in_14 : decode cX12_in 14 = .ok (.goto 4, 3) := by decide +kernel
theorem dX12_in_17 : decode cX12_in 17 = .ok (.iconst 0, 1) := by decide +kernel
theorem dX12_in_18 : decode cX12_in 18 = .ok (.ireturn, 1) := by decide +kernel
theorem dX12_wrong_0 : decode cX12_wrong 0 = .ok (.aload_n 0, 1) := by decide +kernel
theorem dX12_wrong_1 : decode cX12_wrong 1 = .ok (.iload_n 1, 1) := by decide +kernel
theorem dX12_wrong_2 : decode cX12_wrong 2 = .ok (.ifCond .eq 7, 3) := by decide +kernel
theorem dX12_wrong_5 : decode cX12_wrong 5 = .ok (.iconst 1, 1) := by decide +kernel
theorem dX12_wrong_6 : decode cX12_wrong 6 = .ok (.goto 4, 3) := by decide +kernel
theorem dX12_wrong_9 : decode cX12_wrong 9 = .ok (.iconst 0, 1) := by decide +kernel
theorem dX12_wrong_10 : decode cX12_wrong 10 = .ok (.putfield 77, 3) := by decide +kernel
theorem dX12_wrong_13 : decode cX12_wrong 13 = .ok (.iload_n 1, 1) := by decide +kernel
theorem dX12_wrong_14 : decode cX12_wrong 14 = .ok (.ireturn, 1) := by decide +kernel
theorem dX12_throwsIf_0 : decode cX12_throwsIf 0 = .ok (.iload_n 1, 1) := by decide +kernel
theorem dX12_throwsIf_1 : decode cX12_throwsIf 1 = .ok (.ifCond .eq 8, 3) := by decide +kernel
theorem dX12_throwsIf_4 : decode cX12_throwsIf 4 = .ok (.aload_n 0, 1) := by decide +kernel
theorem dX12_throwsIf_5 : decode cX12_throwsIf 5 = .ok (.iload_n 2, 1) := by decide +kernel
theorem dX12_throwsIf_6 : decode cX12_throwsIf 6 = .ok (.putfield 77, 3) := by decide +kernel
theorem dX12_throwsIf_9 : decode cX12_throwsIf 9 = .ok (.iload_n 1, 1) := by decide +kernel
theorem dX12_throwsIf_10 : decode cX12_throwsIf 10 = .ok (.ireturn, 1) := by decide +kernel
theorem dX12_begins_0 : decode cX12_begins 0 = .ok (.iconst 0, 1) := by decide +kernel
theorem dX12_begins_1 : decode cX12_begins 1 = .ok (.istore_n 2, 1) := by decide +kernel
theorem dX12_begins_2 : decode cX12_begins 2 = .ok (.iload_n 2, 1) := by decide +kernel
theorem dX12_begins_3 : decode cX12_begins 3 = .ok (.sipush 286, 3) := by decide +kernel
theorem dX12_begins_6 : decode cX12_begins 6 = .ok (.if_icmp .ge 16, 3) := by decide +kernel
theorem dX12_begins_9 : decode cX12_begins 9 = .ok (.aload_n 0, 1) := by decide +kernel
theorem dX12_begins_10 : decode cX12_begins 10 = .ok (.getfield 9, 3) := by decide +kernel
theorem dX12_begins_13 : decode cX12_begins 13 = .ok (.iload_n 2, 1) := by decide +kernel
theorem dX12_begins_14 : decode cX12_begins 14 = .ok (.iconst (-1), 1) := by decide +kernel
theorem dX12_begins_15 : decode cX12_begins 15 = .ok (.iastore, 1) := by decide +kernel
theorem dX12_begins_16 : decode cX12_begins 16 = .ok (.iinc 2 1, 3) := by decide +kernel
theorem dX12_begins_19 : decode cX12_begins 19 = .ok (.goto (-17), 3) := by decide +kernel
theorem dX12_begins_22 : decode cX12_begins 22 = .ok (.aload_n 0, 1) := by decide +kernel
theorem dX12_begins_23 : decode cX12_begins 23 = .ok (.getfield 9, 3) := by decide +kernel
theorem dX12_begins_26 : decode cX12_begins 26 = .ok (.iconst 0, 1) := by decide +kernel
theorem dX12_begins_27 : decode cX12_begins 27 = .ok (.iload_n 1, 1) := by decide +kernel
theorem dX12_begins_28 : decode cX12_begins 28 = .ok (.iastore, 1) := by decide +kernel
theorem dX12_begins_29 : decode cX12_begins 29 = .ok (.aload_n 0, 1) := by decide +kernel
theorem dX12_begins_30 : decode cX12_begins 30 = .ok (.getfield 9, 3) := by decide +kernel
theorem dX12_begins_33 : decode cX12_begins 33 = .ok (.iconst 1, 1) := by decide +kernel
theorem dX12_begins_34 : decode cX12_begins 34 = .ok (.iconst 0, 1) := by decide +kernel
theorem dX12_begins_35 : decode cX12_begins 35 = .ok (.iastore, 1) := by decide +kernel
theorem dX12_begins_36 : decode cX12_begins 36 = .ok (.aload_n 0, 1) := by decide +kernel
theorem dX12_begins_37 : decode cX12_begins 37 = .ok (.getfield 9, 3) := by decide +kernel
theorem dX12_begins_40 : decode cX12_begins 40 = .ok (.iconst 2, 1) := by decide +kernel
theorem dX12_begins_41 : decode cX12_begins 41 = .ok (.iconst 0, 1) := by decide +kernel
theorem dX12_begins_42 : decode cX12_begins 42 = .ok (.iastore, 1) := by decide +kernel
theorem dX12_begins_43 : decode cX12_begins 43 = .ok (.aload_n 0, 1) := by decide +kernel
theorem dX12_begins_44 : decode cX12_begins 44 = .ok (.getfield 9, 3) := by decide +kernel
theorem dX12_begins_47 : decode cX12_begins 47 = .ok (.iconst 4, 1) := by decide +kernel
theorem dX12_begins_48 : decode cX12_begins 48 = .ok (.iconst 0, 1) := by decide +kernel
theorem dX12_begins_49 : decode cX12_begins 49 = .ok (.iastore, 1) := by decide +kernel
theorem dX12_begins_50 : decode cX12_begins 50 = .ok (.return_, 1) := by decide +kernel
theorem dX12_goesAside_0 : decode cX12_goesAside 0 = .ok (.iconst 0, 1) := by decide +kernel
theorem dX12_goesAside_1 : decode cX12_goesAside 1 = .ok (.istore_n 1, 1) := by decide +kernel
theorem dX12_goesAside_2 : decode cX12_goesAside 2 = .ok (.iload_n 1, 1) := by decide +kernel
theorem dX12_goesAside_3 : decode cX12_goesAside 3 = .ok (.sipush 286, 3) := by decide +kernel
theorem dX12_goesAside_6 : decode cX12_goesAside 6 = .ok (.if_icmp .ge 21, 3) := by decide +kernel
theorem dX12_goesAside_9 : decode cX12_goesAside 9 = .ok (.aload_n 0, 1) := by decide +kernel
theorem dX12_goesAside_10 : decode cX12_goesAside 10 = .ok (.getfield 13, 3) := by decide +kernel
theorem dX12_goesAside_13 : decode cX12_goesAside 13 = .ok (.iload_n 1, 1) := by decide +kernel
theorem dX12_goesAside_14 : decode cX12_goesAside 14 = .ok (.aload_n 0, 1) := by decide +kernel
theorem dX12_goesAside_15 : decode cX12_goesAside 15 = .ok (.getfield 9, 3) := by decide +kernel
theorem dX12_goesAside_18 : decode cX12_goesAside 18 = .ok (.iload_n 1, 1) := by decide +kernel
theorem dX12_goesAside_19 : decode cX12_goesAside 19 = .ok (.iaload, 1) := by decide +kernel
theorem dX12_goesAside_20 : decode cX12_goesAside 20 = .ok (.iastore, 1) := by decide +kernel
theorem dX12_goesAside_21 : decode cX12_goesAside 21 = .ok (.iinc 1 1, 3) := by decide +kernel
theorem dX12_goesAside_24 : decode cX12_goesAside 24 = .ok (.goto (-22), 3) := by decide +kernel
theorem dX12_goesAside_27 : decode cX12_goesAside 27 = .ok (.return_, 1) := by decide +kernel
theorem dX12_comesBack_0 : decode cX12_comesBack 0 = .ok (.iconst 0, 1) := by decide +kernel
theorem dX12_comesBack_1 : decode cX12_comesBack 1 = .ok (.istore_n 2, 1) := by decide +kernel
theorem dX12_comesBack_2 : decode cX12_comesBack 2 = .ok (.iload_n 2, 1) := by decide +kernel
theorem dX12_comesBack_3 : decode cX12_comesBack 3 = .ok (.sipush 286, 3) := by decide +kernel
theorem dX12_comesBack_6 : decode cX12_comesBack 6 = .ok (.if_icmp .ge 21, 3) := by decide +kernel
theorem dX12_comesBack_9 : decode cX12_comesBack 9 = .ok (.aload_n 0, 1) := by decide +kernel
theorem dX12_comesBack_10 : decode cX12_comesBack 10 = .ok (.getfield 9, 3) := by decide +kernel
theorem dX12_comesBack_13 : decode cX12_comesBack 13 = .ok (.iload_n 2, 1) := by decide +kernel
theorem dX12_comesBack_14 : decode cX12_comesBack 14 = .ok (.aload_n 0, 1) := by decide +kernel
theorem dX12_comesBack_15 : decode cX12_comesBack 15 = .ok (.getfield 13, 3) := by decide +kernel
theorem dX12_comesBack_18 : decode cX12_comesBack 18 = .ok (.iload_n 2, 1) := by decide +kernel
theorem dX12_comesBack_19 : decode cX12_comesBack 19 = .ok (.iaload, 1) := by decide +kernel
theorem dX12_comesBack_20 : decode cX12_comesBack 20 = .ok (.iastore, 1) := by decide +kernel
theorem dX12_comesBack_21 : decode cX12_comesBack 21 = .ok (.iinc 2 1, 3) := by decide +kernel
theorem dX12_comesBack_24 : decode cX12_comesBack 24 = .ok (.goto (-22), 3) := by decide +kernel
theorem dX12_comesBack_27 : decode cX12_comesBack 27 = .ok (.iload_n 1, 1) := by decide +kernel
theorem dX12_comesBack_28 : decode cX12_comesBack 28 = .ok (.ireturn, 1) := by decide +kernel
theorem dX12_keeps_0 : decode cX12_keeps 0 = .ok (.aload_n 0, 1) := by decide +kernel
theorem dX12_keeps_1 : decode cX12_keeps 1 = .ok (.getfield 80, 3) := by decide +kernel
theorem dX12_keeps_4 : decode cX12_keeps 4 = .ok (.bipush 8, 2) := by decide +kernel
theorem dX12_keeps_6 : decode cX12_keeps 6 = .ok (.if_icmp .ne 49, 3) := by decide +kernel
theorem dX12_keeps_9 : decode cX12_keeps 9 = .ok (.aload_n 0, 1) := by decide +kernel
theorem dX12_keeps_10 : decode cX12_keeps 10 = .ok (.dup, 1) := by decide +kernel
theorem dX12_keeps_11 : decode cX12_keeps 11 = .ok (.getfield 80, 3) := by decide +kernel
theorem dX12_keeps_14 : decode cX12_keeps 14 = .ok (.iconst 1, 1) := by decide +kernel
theorem dX12_keeps_15 : decode cX12_keeps 15 = .ok (.isub, 1) := by decide +kernel
theorem dX12_keeps_16 : decode cX12_keeps 16 = .ok (.putfield 80, 3) := by decide +kernel
theorem dX12_keeps_19 : decode cX12_keeps 19 = .ok (.iconst 0, 1) := by decide +kernel
theorem dX12_keeps_20 : decode cX12_keeps 20 = .ok (.istore_n 1, 1) := by decide +kernel
theorem dX12_keeps_21 : decode cX12_keeps 21 = .ok (.iload_n 1, 1) := by decide +kernel
theorem dX12_keeps_22 : decode cX12_keeps 22 = .ok (.aload_n 0, 1) := by decide +kernel
theorem dX12_keeps_23 : decode cX12_keeps 23 = .ok (.getfield 80, 3) := by decide +kernel
theorem dX12_keeps_26 : decode cX12_keeps 26 = .ok (.sipush 286, 3) := by decide +kernel
theorem dX12_keeps_29 : decode cX12_keeps 29 = .ok (.imul, 1) := by decide +kernel
theorem dX12_keeps_30 : decode cX12_keeps 30 = .ok (.if_icmp .ge 25, 3) := by decide +kernel
theorem dX12_keeps_33 : decode cX12_keeps 33 = .ok (.aload_n 0, 1) := by decide +kernel
theorem dX12_keeps_34 : decode cX12_keeps 34 = .ok (.getfield 23, 3) := by decide +kernel
theorem dX12_keeps_37 : decode cX12_keeps 37 = .ok (.iload_n 1, 1) := by decide +kernel
theorem dX12_keeps_38 : decode cX12_keeps 38 = .ok (.aload_n 0, 1) := by decide +kernel
theorem dX12_keeps_39 : decode cX12_keeps 39 = .ok (.getfield 23, 3) := by decide +kernel
theorem dX12_keeps_42 : decode cX12_keeps 42 = .ok (.iload_n 1, 1) := by decide +kernel
theorem dX12_keeps_43 : decode cX12_keeps 43 = .ok (.sipush 286, 3) := by decide +kernel
theorem dX12_keeps_46 : decode cX12_keeps 46 = .ok (.iadd, 1) := by decide +kernel
theorem dX12_keeps_47 : decode cX12_keeps 47 = .ok (.iaload, 1) := by decide +kernel
theorem dX12_keeps_48 : decode cX12_keeps 48 = .ok (.iastore, 1) := by decide +kernel
theorem dX12_keeps_49 : decode cX12_keeps 49 = .ok (.iinc 1 1, 3) := by decide +kernel
theorem dX12_keeps_52 : decode cX12_keeps 52 = .ok (.goto (-31), 3) := by decide +kernel
theorem dX12_keeps_55 : decode cX12_keeps 55 = .ok (.iconst 0, 1) := by decide +kernel
theorem dX12_keeps_56 : decode cX12_keeps 56 = .ok (.istore_n 1, 1) := by decide +kernel
theorem dX12_keeps_57 : decode cX12_keeps 57 = .ok (.iload_n 1, 1) := by decide +kernel
theorem dX12_keeps_58 : decode cX12_keeps 58 = .ok (.sipush 286, 3) := by decide +kernel
theorem dX12_keeps_61 : decode cX12_keeps 61 = .ok (.if_icmp .ge 30, 3) := by decide +kernel
theorem dX12_keeps_64 : decode cX12_keeps 64 = .ok (.aload_n 0, 1) := by decide +kernel
theorem dX12_keeps_65 : decode cX12_keeps 65 = .ok (.getfield 23, 3) := by decide +kernel
theorem dX12_keeps_68 : decode cX12_keeps 68 = .ok (.sipush 286, 3) := by decide +kernel
theorem dX12_keeps_71 : decode cX12_keeps 71 = .ok (.aload_n 0, 1) := by decide +kernel
theorem dX12_keeps_72 : decode cX12_keeps 72 = .ok (.getfield 80, 3) := by decide +kernel
theorem dX12_keeps_75 : decode cX12_keeps 75 = .ok (.imul, 1) := by decide +kernel
theorem dX12_keeps_76 : decode cX12_keeps 76 = .ok (.iload_n 1, 1) := by decide +kernel
theorem dX12_keeps_77 : decode cX12_keeps 77 = .ok (.iadd, 1) := by decide +kernel
theorem dX12_keeps_78 : decode cX12_keeps 78 = .ok (.aload_n 0, 1) := by decide +kernel
theorem dX12_keeps_79 : decode cX12_keeps 79 = .ok (.getfield 9, 3) := by decide +kernel
theorem dX12_keeps_82 : decode cX12_keeps 82 = .ok (.iload_n 1, 1) := by decide +kernel
theorem dX12_keeps_83 : decode cX12_keeps 83 = .ok (.iaload, 1) := by decide +kernel
theorem dX12_keeps_84 : decode cX12_keeps 84 = .ok (.iastore, 1) := by decide +kernel
theorem dX12_keeps_85 : decode cX12_keeps 85 = .ok (.iinc 1 1, 3) := by decide +kernel
theorem dX12_keeps_88 : decode cX12_keeps 88 = .ok (.goto (-31), 3) := by decide +kernel
theorem dX12_keeps_91 : decode cX12_keeps 91 = .ok (.aload_n 0, 1) := by decide +kernel
theorem dX12_keeps_92 : decode cX12_keeps 92 = .ok (.dup, 1) := by decide +kernel
theorem dX12_keeps_93 : decode cX12_keeps 93 = .ok (.getfield 80, 3) := by decide +kernel
theorem dX12_keeps_96 : decode cX12_keeps 96 = .ok (.iconst 1, 1) := by decide +kernel
theorem dX12_keeps_97 : decode cX12_keeps 97 = .ok (.iadd, 1) := by decide +kernel
theorem dX12_keeps_98 : decode cX12_keeps 98 = .ok (.putfield 80, 3) := by decide +kernel
theorem dX12_keeps_101 : decode cX12_keeps 101 = .ok (.return_, 1) := by decide +kernel
theorem dX12_append_0 : decode cX12_append 0 = .ok (.aload_n 0, 1) := by decide +kernel
theorem dX12_append_1 : decode cX12_append 1 = .ok (.iconst 0, 1) := by decide +kernel
theorem dX12_append_2 : decode cX12_append 2 = .ok (.putfield 77, 3) := by decide +kernel
theorem dX12_append_5 : decode cX12_append 5 = .ok (.iconst 0, 1) := by decide +kernel
theorem dX12_append_6 : decode cX12_append 6 = .ok (.istore_n 3, 1) := by decide +kernel
theorem dX12_append_7 : decode cX12_append 7 = .ok (.iconst 0, 1) := by decide +kernel
theorem dX12_append_8 : decode cX12_append 8 = .ok (.istore 4, 2) := by decide +kernel
theorem dX12_append_10 : decode cX12_append 10 = .ok (.iload 4, 2) := by decide +kernel
theorem dX12_append_12 : decode cX12_append 12 = .ok (.bipush 8, 2) := by decide +kernel
theorem dX12_append_14 : decode cX12_append 14 = .ok (.if_icmp .ge 33, 3) := by decide +kernel
theorem dX12_append_17 : decode cX12_append 17 = .ok (.iload_n 3, 1) := by decide +kernel
theorem dX12_append_18 : decode cX12_append 18 = .ok (.lload_n 1, 1) := by decide +kernel
theorem dX12_append_19 : decode cX12_append 19 = .ok (.bipush 8, 2) := by decide +kernel
theorem dX12_append_21 : decode cX12_append 21 = .ok (.iload 4, 2) := by decide +kernel
theorem dX12_append_23 : decode cX12_append 23 = .ok (.imul, 1) := by decide +kernel
theorem dX12_append_24 : decode cX12_append 24 = .ok (.lshr, 1) := by decide +kernel
theorem dX12_append_25 : decode cX12_append 25 = .ok (.ldc2_w 83, 3) := by decide +kernel
theorem dX12_append_28 : decode cX12_append 28 = .ok (.land, 1) := by decide +kernel
theorem dX12_append_29 : decode cX12_append 29 = .ok (.lconst 0, 1) := by decide +kernel
theorem dX12_append_30 : decode cX12_append 30 = .ok (.lcmp, 1) := by decide +kernel
theorem dX12_append_31 : decode cX12_append 31 = .ok (.ifCond .ne 7, 3) := by decide +kernel
theorem dX12_append_34 : decode cX12_append 34 = .ok (.iconst 0, 1) := by decide +kernel
theorem dX12_append_35 : decode cX12_append 35 = .ok (.goto 4, 3) := by decide +kernel
theorem dX12_append_38 : decode cX12_append 38 = .ok (.iconst 1, 1) := by decide +kernel
theorem dX12_append_39 : decode cX12_append 39 = .ok (.iadd, 1) := by decide +kernel
theorem dX12_append_40 : decode cX12_append 40 = .ok (.istore_n 3, 1) := by decide +kernel
theorem dX12_append_41 : decode cX12_append 41 = .ok (.iinc 4 1, 3) := by decide +kernel
theorem dX12_append_44 : decode cX12_append 44 = .ok (.goto (-34), 3) := by decide +kernel
theorem dX12_append_47 : decode cX12_append 47 = .ok (.aload_n 0, 1) := by decide +kernel
theorem dX12_append_48 : decode cX12_append 48 = .ok (.getfield 85, 3) := by decide +kernel
theorem dX12_append_51 : decode cX12_append 51 = .ok (.iload_n 3, 1) := by decide +kernel
theorem dX12_append_52 : decode cX12_append 52 = .ok (.iadd, 1) := by decide +kernel
theorem dX12_append_53 : decode cX12_append 53 = .ok (.sipush 400, 3) := by decide +kernel
theorem dX12_append_56 : decode cX12_append 56 = .ok (.if_icmp .le 6, 3) := by decide +kernel
theorem dX12_append_59 : decode cX12_append 59 = .ok (.bipush (-2), 2) := by decide +kernel
theorem dX12_append_61 : decode cX12_append 61 = .ok (.ireturn, 1) := by decide +kernel
theorem dX12_append_62 : decode cX12_append 62 = .ok (.bipush 7, 2) := by decide +kernel
theorem dX12_append_64 : decode cX12_append 64 = .ok (.istore 4, 2) := by decide +kernel
theorem dX12_append_66 : decode cX12_append 66 = .ok (.iload 4, 2) := by decide +kernel
theorem dX12_append_68 : decode cX12_append 68 = .ok (.ifCond .lt 55, 3) := by decide +kernel
theorem dX12_append_71 : decode cX12_append 71 = .ok (.lload_n 1, 1) := by decide +kernel
theorem dX12_append_72 : decode cX12_append 72 = .ok (.bipush 8, 2) := by decide +kernel
theorem dX12_append_74 : decode cX12_append 74 = .ok (.iload 4, 2) := by decide +kernel
theorem dX12_append_76 : decode cX12_append 76 = .ok (.imul, 1) := by decide +kernel
theorem dX12_append_77 : decode cX12_append 77 = .ok (.lshr, 1) := by decide +kernel
theorem dX12_append_78 : decode cX12_append 78 = .ok (.ldc2_w 83, 3) := by decide +kernel
theorem dX12_append_81 : decode cX12_append 81 = .ok (.land, 1) := by decide +kernel
theorem dX12_append_82 : decode cX12_append 82 = .ok (.lstore 5, 2) := by decide +kernel
theorem dX12_append_84 : decode cX12_append 84 = .ok (.lload 5, 2) := by decide +kernel
theorem dX12_append_86 : decode cX12_append 86 = .ok (.lconst 0, 1) := by decide +kernel
theorem dX12_append_87 : decode cX12_append 87 = .ok (.lcmp, 1) := by decide +kernel
theorem dX12_append_88 : decode cX12_append 88 = .ok (.ifCond .ne 6, 3) := by decide +kernel
theorem dX12_append_91 : decode cX12_append 91 = .ok (.goto 26, 3) := by decide +kernel
theorem dX12_append_94 : decode cX12_append 94 = .ok (.aload_n 0, 1) := by decide +kernel
theorem dX12_append_95 : decode cX12_append 95 = .ok (.getfield 26, 3) := by decide +kernel
theorem dX12_append_98 : decode cX12_append 98 = .ok (.aload_n 0, 1) := by decide +kernel
theorem dX12_append_99 : decode cX12_append 99 = .ok (.getfield 85, 3) := by decide +kernel
theorem dX12_append_102 : decode cX12_append 102 = .ok (.lload 5, 2) := by decide +kernel
theorem dX12_append_104 : decode cX12_append 104 = .ok (.l2i, 1) := by decide +kernel
theorem dX12_append_105 : decode cX12_append 105 = .ok (.i2b, 1) := by decide +kernel
theorem dX12_append_106 : decode cX12_append 106 = .ok (.bastore, 1) := by decide +kernel
theorem dX12_append_107 : decode cX12_append 107 = .ok (.aload_n 0, 1) := by decide +kernel
theorem dX12_append_108 : decode cX12_append 108 = .ok (.dup, 1) := by decide +kernel
theorem dX12_append_109 : decode cX12_append 109 = .ok (.getfield 85, 3) := by decide +kernel
theorem dX12_append_112 : decode cX12_append 112 = .ok (.iconst 1, 1) := by decide +kernel
theorem dX12_append_113 : decode cX12_append 113 = .ok (.iadd, 1) := by decide +kernel
theorem dX12_append_114 : decode cX12_append 114 = .ok (.putfield 85, 3) := by decide +kernel
theorem dX12_append_117 : decode cX12_append 117 = .ok (.iinc 4 (-1), 3) := by decide +kernel
theorem dX12_append_120 : decode cX12_append 120 = .ok (.goto (-54), 3) := by decide +kernel
theorem dX12_append_123 : decode cX12_append 123 = .ok (.aload_n 0, 1) := by decide +kernel
theorem dX12_append_124 : decode cX12_append 124 = .ok (.getfield 85, 3) := by decide +kernel
theorem dX12_append_127 : decode cX12_append 127 = .ok (.ireturn, 1) := by decide +kernel
theorem dX12_fails_0 : decode cX12_fails 0 = .ok (.aload_n 0, 1) := by decide +kernel
theorem dX12_fails_1 : decode cX12_fails 1 = .ok (.iload_n 1, 1) := by decide +kernel
theorem dX12_fails_2 : decode cX12_fails 2 = .ok (.putfield 88, 3) := by decide +kernel
theorem dX12_fails_5 : decode cX12_fails 5 = .ok (.aload_n 0, 1) := by decide +kernel
theorem dX12_fails_6 : decode cX12_fails 6 = .ok (.iload_n 2, 1) := by decide +kernel
theorem dX12_fails_7 : decode cX12_fails 7 = .ok (.putfield 91, 3) := by decide +kernel
theorem dX12_fails_10 : decode cX12_fails 10 = .ok (.iconst 0, 1) := by decide +kernel
theorem dX12_fails_11 : decode cX12_fails 11 = .ok (.ireturn, 1) := by decide +kernel
theorem dX12_nextByte_0 : decode cX12_nextByte 0 = .ok (.aload_n 0, 1) := by decide +kernel
theorem dX12_nextByte_1 : decode cX12_nextByte 1 = .ok (.getfield 94, 3) := by decide +kernel
theorem dX12_nextByte_4 : decode cX12_nextByte 4 = .ok (.aload_n 0, 1) := by decide +kernel
theorem dX12_nextByte_5 : decode cX12_nextByte 5 = .ok (.getfield 85, 3) := by decide +kernel
theorem dX12_nextByte_8 : decode cX12_nextByte 8 = .ok (.if_icmp .ge 30, 3) := by decide +kernel
theorem dX12_nextByte_11 : decode cX12_nextByte 11 = .ok (.aload_n 0, 1) := by decide +kernel
theorem dX12_nextByte_12 : decode cX12_nextByte 12 = .ok (.getfield 26, 3) := by decide +kernel
theorem dX12_nextByte_15 : decode cX12_nextByte 15 = .ok (.aload_n 0, 1) := by decide +kernel
theorem dX12_nextByte_16 : decode cX12_nextByte 16 = .ok (.getfield 94, 3) := by decide +kernel
theorem dX12_nextByte_19 : decode cX12_nextByte 19 = .ok (.baload, 1) := by decide +kernel
theorem dX12_nextByte_20 : decode cX12_nextByte 20 = .ok (.bipush 32, 2) := by decide +kernel
theorem dX12_nextByte_22 : decode cX12_nextByte 22 = .ok (.if_icmp .ne 16, 3) := by decide +kernel
theorem dX12_nextByte_25 : decode cX12_nextByte 25 = .ok (.aload_n 0, 1) := by decide +kernel
theorem dX12_nextByte_26 : decode cX12_nextByte 26 = .ok (.dup, 1) := by decide +kernel
theorem dX12_nextByte_27 : decode cX12_nextByte 27 = .ok (.getfield 94, 3) := by decide +kernel
theorem dX12_nextByte_30 : decode cX12_nextByte 30 = .ok (.iconst 1, 1) := by decide +kernel
theorem dX12_nextByte_31 : decode cX12_nextByte 31 = .ok (.iadd, 1) := by decide +kernel
theorem dX12_nextByte_32 : decode cX12_nextByte 32 = .ok (.putfield 94, 3) := by decide +kernel
theorem dX12_nextByte_35 : decode cX12_nextByte 35 = .ok (.goto (-35), 3) := by decide +kernel
theorem dX12_nextByte_38 : decode cX12_nextByte 38 = .ok (.aload_n 0, 1) := by decide +kernel
theorem dX12_nextByte_39 : decode cX12_nextByte 39 = .ok (.aload_n 0, 1) := by decide +kernel
theorem dX12_nextByte_40 : decode cX12_nextByte 40 = .ok (.getfield 94, 3) := by decide +kernel
theorem dX12_nextByte_43 : decode cX12_nextByte 43 = .ok (.putfield 97, 3) := by decide +kernel
theorem dX12_nextByte_46 : decode cX12_nextByte 46 = .ok (.aload_n 0, 1) := by decide +kernel
theorem dX12_nextByte_47 : decode cX12_nextByte 47 = .ok (.getfield 94, 3) := by decide +kernel
theorem dX12_nextByte_50 : decode cX12_nextByte 50 = .ok (.aload_n 0, 1) := by decide +kernel
theorem dX12_nextByte_51 : decode cX12_nextByte 51 = .ok (.getfield 85, 3) := by decide +kernel
theorem dX12_nextByte_54 : decode cX12_nextByte 54 = .ok (.if_icmp .ge 19, 3) := by decide +kernel
theorem dX12_nextByte_57 : decode cX12_nextByte 57 = .ok (.aload_n 0, 1) := by decide +kernel
theorem dX12_nextByte_58 : decode cX12_nextByte 58 = .ok (.getfield 26, 3) := by decide +kernel
theorem dX12_nextByte_61 : decode cX12_nextByte 61 = .ok (.aload_n 0, 1) := by decide +kernel
theorem dX12_nextByte_62 : decode cX12_nextByte 62 = .ok (.getfield 94, 3) := by decide +kernel
theorem dX12_nextByte_65 : decode cX12_nextByte 65 = .ok (.baload, 1) := by decide +kernel
theorem dX12_nextByte_66 : decode cX12_nextByte 66 = .ok (.sipush 255, 3) := by decide +kernel
theorem dX12_nextByte_69 : decode cX12_nextByte 69 = .ok (.iand, 1) := by decide +kernel
theorem dX12_nextByte_70 : decode cX12_nextByte 70 = .ok (.goto 4, 3) := by decide +kernel
theorem dX12_nextByte_73 : decode cX12_nextByte 73 = .ok (.iconst (-1), 1) := by decide +kernel
theorem dX12_nextByte_74 : decode cX12_nextByte 74 = .ok (.ireturn, 1) := by decide +kernel
theorem dX12_isAt_0 : decode cX12_isAt 0 = .ok (.iload_n 1, 1) := by decide +kernel
theorem dX12_isAt_1 : decode cX12_isAt 1 = .ok (.aload_n 0, 1) := by decide +kernel
theorem dX12_isAt_2 : decode cX12_isAt 2 = .ok (.getfield 85, 3) := by decide +kernel
theorem dX12_isAt_5 : decode cX12_isAt 5 = .ok (.if_icmp .ge 27, 3) := by decide +kernel
theorem dX12_isAt_8 : decode cX12_isAt 8 = .ok (.aload_n 0, 1) := by decide +kernel
theorem dX12_isAt_9 : decode cX12_isAt 9 = .ok (.getfield 26, 3) := by decide +kernel
theorem dX12_isAt_12 : decode cX12_isAt 12 = .ok (.iload_n 1, 1) := by decide +kernel
theorem dX12_isAt_13 : decode cX12_isAt 13 = .ok (.baload, 1) := by decide +kernel
theorem dX12_isAt_14 : decode cX12_isAt 14 = .ok (.iload_n 2, 1) := by decide +kernel
theorem dX12_isAt_15 : decode cX12_isAt 15 = .ok (.if_icmp .lt 17, 3) := by decide +kernel
theorem dX12_isAt_18 : decode cX12_isAt 18 = .ok (.aload_n 0, 1) := by decide +kernel
theorem dX12_isAt_19 : decode cX12_isAt 19 = .ok (.getfield 26, 3) := by decide +kernel
theorem dX12_isAt_22 : decode cX12_isAt 22 = .ok (.iload_n 1, 1) := by decide +kernel
theorem dX12_isAt_23 : decode cX12_isAt 23 = .ok (.baload, 1) := by decide +kernel
theorem dX12_isAt_24 : decode cX12_isAt 24 = .ok (.iload_n 3, 1) := by decide +kernel
theorem dX12_isAt_25 : decode cX12_isAt 25 = .ok (.if_icmp .gt 7, 3) := by decide +kernel
theorem dX12_isAt_28 : decode cX12_isAt 28 = .ok (.iconst 1, 1) := by decide +kernel
theorem dX12_isAt_29 : decode cX12_isAt 29 = .ok (.goto 4, 3) := by decide +kernel
theorem dX12_isAt_32 : decode cX12_isAt 32 = .ok (.iconst 0, 1) := by decide +kernel
theorem dX12_isAt_33 : decode cX12_isAt 33 = .ok (.ireturn, 1) := by decide +kernel
theorem dX12_isLetterNext_0 : decode cX12_isLetterNext 0 = .ok (.aload_n 0, 1) := by decide +kernel
theorem dX12_isLetterNext_1 : decode cX12_isLetterNext 1 = .ok (.invokevirtual 100, 3) := by decide +kernel
theorem dX12_isLetterNext_4 : decode cX12_isLetterNext 4 = .ok (.i2l, 1) := by decide +kernel
theorem dX12_isLetterNext_5 : decode cX12_isLetterNext 5 = .ok (.ldc2_w 104, 3) := by decide +kernel
theorem dX12_isLetterNext_8 : decode cX12_isLetterNext 8 = .ok (.ldc2_w 106, 3) := by decide +kernel
theorem dX12_isLetterNext_11 : decode cX12_isLetterNext 11 = .ok (.invokestatic 108, 3) := by decide +kernel
theorem dX12_isLetterNext_14 : decode cX12_isLetterNext 14 = .ok (.ireturn, 1) := by decide +kernel
theorem dX12_reads_0 : decode cX12_reads 0 = .ok (.aload_n 0, 1) := by decide +kernel
theorem dX12_reads_1 : decode cX12_reads 1 = .ok (.invokevirtual 100, 3) := by decide +kernel
theorem dX12_reads_4 : decode cX12_reads 4 = .ok (.i2l, 1) := by decide +kernel
theorem dX12_reads_5 : decode cX12_reads 5 = .ok (.ldc2_w 112, 3) := by decide +kernel
theorem dX12_reads_8 : decode cX12_reads 8 = .ok (.ldc2_w 114, 3) := by decide +kernel
theorem dX12_reads_11 : decode cX12_reads 11 = .ok (.invokestatic 108, 3) := by decide +kernel
theorem dX12_reads_14 : decode cX12_reads 14 = .ok (.ifCond .ne 13, 3) := by decide +kernel
theorem dX12_reads_17 : decode cX12_reads 17 = .ok (.aload_n 0, 1) := by decide +kernel
theorem dX12_reads_18 : decode cX12_reads 18 = .ok (.iconst 1, 1) := by decide +kernel
theorem dX12_reads_19 : decode cX12_reads 19 = .ok (.aload_n 0, 1) := by decide +kernel
theorem dX12_reads_20 : decode cX12_reads 20 = .ok (.getfield 97, 3) := by decide +kernel
theorem dX12_reads_23 : decode cX12_reads 23 = .ok (.invokevirtual 116, 3) := by decide +kernel
theorem dX12_reads_26 : decode cX12_reads 26 = .ok (.ireturn, 1) := by decide +kernel
theorem dX12_reads_27 : decode cX12_reads 27 = .ok (.lconst 0, 1) := by decide +kernel
theorem dX12_reads_28 : decode cX12_reads 28 = .ok (.lstore_n 3, 1) := by decide +kernel
theorem dX12_reads_29 : decode cX12_reads 29 = .ok (.aload_n 0, 1) := by decide +kernel
theorem dX12_reads_30 : decode cX12_reads 30 = .ok (.aload_n 0, 1) := by decide +kernel
theorem dX12_reads_31 : decode cX12_reads 31 = .ok (.getfield 94, 3) := by decide +kernel
theorem dX12_reads_34 : decode cX12_reads 34 = .ok (.bipush 48, 2) := by decide +kernel
theorem dX12_reads_36 : decode cX12_reads 36 = .ok (.bipush 57, 2) := by decide +kernel
theorem dX12_reads_38 : decode cX12_reads 38 = .ok (.invokevirtual 120, 3) := by decide +kernel
theorem dX12_reads_41 : decode cX12_reads 41 = .ok (.ifCond .eq 49, 3) := by decide +kernel
theorem dX12_reads_44 : decode cX12_reads 44 = .ok (.lload_n 3, 1) := by decide +kernel
theorem dX12_reads_45 : decode cX12_reads 45 = .ok (.ldc2_w 124, 3) := by decide +kernel
theorem dX12_reads_48 : decode cX12_reads 48 = .ok (.lcmp, 1) := by decide +kernel
theorem dX12_reads_49 : decode cX12_reads 49 = .ok (.ifCond .le 7, 3) := by decide +kernel
theorem dX12_reads_52 : decode cX12_reads 52 = .ok (.lload_n 3, 1) := by decide +kernel
theorem dX12_reads_53 : decode cX12_reads 53 = .ok (.goto 23, 3) := by decide +kernel
theorem dX12_reads_56 : decode cX12_reads 56 = .ok (.ldc2_w 126, 3) := by decide +kernel
theorem dX12_reads_59 : decode cX12_reads 59 = .ok (.lload_n 3, 1) := by decide +kernel
theorem dX12_reads_60 : decode cX12_reads 60 = .ok (.lmul, 1) := by decide +kernel
theorem dX12_reads_61 : decode cX12_reads 61 = .ok (.aload_n 0, 1) := by decide +kernel
theorem dX12_reads_62 : decode cX12_reads 62 = .ok (.getfield 26, 3) := by decide +kernel
theorem dX12_reads_65 : decode cX12_reads 65 = .ok (.aload_n 0, 1) := by decide +kernel
theorem dX12_reads_66 : decode cX12_reads 66 = .ok (.getfield 94, 3) := by decide +kernel
theorem dX12_reads_69 : decode cX12_reads 69 = .ok (.baload, 1) := by decide +kernel
theorem dX12_reads_70 : decode cX12_reads 70 = .ok (.i2l, 1) := by decide +kernel
theorem dX12_reads_71 : decode cX12_reads 71 = .ok (.ladd, 1) := by decide +kernel
theorem dX12_reads_72 : decode cX12_reads 72 = .ok (.ldc2_w 112, 3) := by decide +kernel
theorem dX12_reads_75 : decode cX12_reads 75 = .ok (.lsub, 1) := by decide +kernel
theorem dX12_reads_76 : decode cX12_reads 76 = .ok (.lstore_n 3, 1) := by decide +kernel
theorem dX12_reads_77 : decode cX12_reads 77 = .ok (.aload_n 0, 1) := by decide +kernel
theorem dX12_reads_78 : decode cX12_reads 78 = .ok (.dup, 1) := by decide +kernel
theorem dX12_reads_79 : decode cX12_reads 79 = .ok (.getfield 94, 3) := by decide +kernel
theorem dX12_reads_82 : decode cX12_reads 82 = .ok (.iconst 1, 1) := by decide +kernel
theorem dX12_reads_83 : decode cX12_reads 83 = .ok (.iadd, 1) := by decide +kernel
theorem dX12_reads_84 : decode cX12_reads 84 = .ok (.putfield 94, 3) := by decide +kernel
theorem dX12_reads_87 : decode cX12_reads 87 = .ok (.goto (-58), 3) := by decide +kernel
theorem dX12_reads_90 : decode cX12_reads 90 = .ok (.lload_n 3, 1) := by decide +kernel
theorem dX12_reads_91 : decode cX12_reads 91 = .ok (.iload_n 1, 1) := by decide +kernel
theorem dX12_reads_92 : decode cX12_reads 92 = .ok (.i2l, 1) := by decide +kernel
theorem dX12_reads_93 : decode cX12_reads 93 = .ok (.iload_n 2, 1) := by decide +kernel
theorem dX12_reads_94 : decode cX12_reads 94 = .ok (.i2l, 1) := by decide +kernel
theorem dX12_reads_95 : decode cX12_reads 95 = .ok (.invokestatic 108, 3) := by decide +kernel
theorem dX12_reads_98 : decode cX12_reads 98 = .ok (.ifCond .ne 13, 3) := by decide +kernel
theorem dX12_reads_101 : decode cX12_reads 101 = .ok (.aload_n 0, 1) := by decide +kernel
theorem dX12_reads_102 : decode cX12_reads 102 = .ok (.iconst 2, 1) := by decide +kernel
theorem dX12_reads_103 : decode cX12_reads 103 = .ok (.aload_n 0, 1) := by decide +kernel
theorem dX12_reads_104 : decode cX12_reads 104 = .ok (.getfield 97, 3) := by decide +kernel
theorem dX12_reads_107 : decode cX12_reads 107 = .ok (.invokevirtual 116, 3) := by decide +kernel
theorem dX12_reads_110 : decode cX12_reads 110 = .ok (.ireturn, 1) := by decide +kernel
theorem dX12_reads_111 : decode cX12_reads 111 = .ok (.aload_n 0, 1) := by decide +kernel
theorem dX12_reads_112 : decode cX12_reads 112 = .ok (.lload_n 3, 1) := by decide +kernel
theorem dX12_reads_113 : decode cX12_reads 113 = .ok (.l2i, 1) := by decide +kernel
theorem dX12_reads_114 : decode cX12_reads 114 = .ok (.putfield 128, 3) := by decide +kernel
theorem dX12_reads_117 : decode cX12_reads 117 = .ok (.iconst 1, 1) := by decide +kernel
theorem dX12_reads_118 : decode cX12_reads 118 = .ok (.ireturn, 1) := by decide +kernel
theorem dX12_wordEnd_0 : decode cX12_wordEnd 0 = .ok (.aload_n 0, 1) := by decide +kernel
theorem dX12_wordEnd_1 : decode cX12_wordEnd 1 = .ok (.getfield 97, 3) := by decide +kernel
theorem dX12_wordEnd_4 : decode cX12_wordEnd 4 = .ok (.istore_n 1, 1) := by decide +kernel
theorem dX12_wordEnd_5 : decode cX12_wordEnd 5 = .ok (.aload_n 0, 1) := by decide +kernel
theorem dX12_wordEnd_6 : decode cX12_wordEnd 6 = .ok (.iload_n 1, 1) := by decide +kernel
theorem dX12_wordEnd_7 : decode cX12_wordEnd 7 = .ok (.bipush 97, 2) := by decide +kernel
theorem dX12_wordEnd_9 : decode cX12_wordEnd 9 = .ok (.bipush 122, 2) := by decide +kernel
theorem dX12_wordEnd_11 : decode cX12_wordEnd 11 = .ok (.invokevirtual 120, 3) := by decide +kernel
theorem dX12_wordEnd_14 : decode cX12_wordEnd 14 = .ok (.ifCond .eq 9, 3) := by decide +kernel
theorem dX12_wordEnd_17 : decode cX12_wordEnd 17 = .ok (.iinc 1 1, 3) := by decide +kernel
theorem dX12_wordEnd_20 : decode cX12_wordEnd 20 = .ok (.goto (-15), 3) := by decide +kernel
theorem dX12_wordEnd_23 : decode cX12_wordEnd 23 = .ok (.iload_n 1, 1) := by decide +kernel
theorem dX12_wordEnd_24 : decode cX12_wordEnd 24 = .ok (.ireturn, 1) := by decide +kernel
theorem dX12_takes_0 : decode cX12_takes 0 = .ok (.aload_n 0, 1) := by decide +kernel
theorem dX12_takes_1 : decode cX12_takes 1 = .ok (.invokevirtual 131, 3) := by decide +kernel
theorem dX12_takes_4 : decode cX12_takes 4 = .ok (.ifCond .eq 19, 3) := by decide +kernel
theorem dX12_takes_7 : decode cX12_takes 7 = .ok (.aload_n 0, 1) := by decide +kernel
theorem dX12_takes_8 : decode cX12_takes 8 = .ok (.invokevirtual 135, 3) := by decide +kernel
theorem dX12_takes_11 : decode cX12_takes 11 = .ok (.aload_n 0, 1) := by decide +kernel
theorem dX12_takes_12 : decode cX12_takes 12 = .ok (.getfield 97, 3) := by decide +kernel
theorem dX12_takes_15 : decode cX12_takes 15 = .ok (.isub, 1) := by decide +kernel
theorem dX12_takes_16 : decode cX12_takes 16 = .ok (.aload_n 1, 1) := by decide +kernel
theorem dX12_takes_17 : decode cX12_takes 17 = .ok (.invokevirtual 138, 3) := by decide +kernel
theorem dX12_takes_20 : decode cX12_takes 20 = .ok (.if_icmp .eq 5, 3) := by decide +kernel
theorem dX12_takes_23 : decode cX12_takes 23 = .ok (.iconst 0, 1) := by decide +kernel
theorem dX12_takes_24 : decode cX12_takes 24 = .ok (.ireturn, 1) := by decide +kernel
theorem dX12_takes_25 : decode cX12_takes 25 = .ok (.iconst 0, 1) := by decide +kernel
theorem dX12_takes_26 : decode cX12_takes 26 = .ok (.istore_n 2, 1) := by decide +kernel
theorem dX12_takes_27 : decode cX12_takes 27 = .ok (.iload_n 2, 1) := by decide +kernel
theorem dX12_takes_28 : decode cX12_takes 28 = .ok (.aload_n 1, 1) := by decide +kernel
theorem dX12_takes_29 : decode cX12_takes 29 = .ok (.invokevirtual 138, 3) := by decide +kernel
theorem dX12_takes_32 : decode cX12_takes 32 = .ok (.if_icmp .ge 30, 3) := by decide +kernel
theorem dX12_takes_35 : decode cX12_takes 35 = .ok (.aload_n 0, 1) := by decide +kernel
theorem dX12_takes_36 : decode cX12_takes 36 = .ok (.getfield 26, 3) := by decide +kernel
theorem dX12_takes_39 : decode cX12_takes 39 = .ok (.aload_n 0, 1) := by decide +kernel
theorem dX12_takes_40 : decode cX12_takes 40 = .ok (.getfield 97, 3) := by decide +kernel
theorem dX12_takes_43 : decode cX12_takes 43 = .ok (.iload_n 2, 1) := by decide +kernel
theorem dX12_takes_44 : decode cX12_takes 44 = .ok (.iadd, 1) := by decide +kernel
theorem dX12_takes_45 : decode cX12_takes 45 = .ok (.baload, 1) := by decide +kernel
theorem dX12_takes_46 : decode cX12_takes 46 = .ok (.aload_n 1, 1) := by decide +kernel
theorem dX12_takes_47 : decode cX12_takes 47 = .ok (.iload_n 2, 1) := by decide +kernel
theorem dX12_takes_48 : decode cX12_takes 48 = .ok (.invokevirtual 142, 3) := by decide +kernel
theorem dX12_takes_51 : decode cX12_takes 51 = .ok (.if_icmp .eq 5, 3) := by decide +kernel
theorem dX12_takes_54 : decode cX12_takes 54 = .ok (.iconst 0, 1) := by decide +kernel
theorem dX12_takes_55 : decode cX12_takes 55 = .ok (.ireturn, 1) := by decide +kernel
theorem dX12_takes_56 : decode cX12_takes 56 = .ok (.iinc 2 1, 3) := by decide +kernel
theorem dX12_takes_59 : decode cX12_takes 59 = .ok (.goto (-32), 3) := by decide +kernel
theorem dX12_takes_62 : decode cX12_takes 62 = .ok (.aload_n 0, 1) := by decide +kernel
theorem dX12_takes_63 : decode cX12_takes 63 = .ok (.aload_n 0, 1) := by decide +kernel
theorem dX12_takes_64 : decode cX12_takes 64 = .ok (.getfield 97, 3) := by decide +kernel
theorem dX12_takes_67 : decode cX12_takes 67 = .ok (.aload_n 1, 1) := by decide +kernel
theorem dX12_takes_68 : decode cX12_takes 68 = .ok (.invokevirtual 138, 3) := by decide +kernel
theorem dX12_takes_71 : decode cX12_takes 71 = .ok (.iadd, 1) := by decide +kernel
theorem dX12_takes_72 : decode cX12_takes 72 = .ok (.putfield 94, 3) := by decide +kernel
theorem dX12_takes_75 : decode cX12_takes 75 = .ok (.iconst 1, 1) := by decide +kernel
theorem dX12_takes_76 : decode cX12_takes 76 = .ok (.ireturn, 1) := by decide +kernel
theorem dX12_readBoard_0 : decode cX12_readBoard 0 = .ok (.aload_n 0, 1) := by decide +kernel
theorem dX12_readBoard_1 : decode cX12_readBoard 1 = .ok (.iconst 2, 1) := by decide +kernel
theorem dX12_readBoard_2 : decode cX12_readBoard 2 = .ok (.bipush 9, 2) := by decide +kernel
theorem dX12_readBoard_4 : decode cX12_readBoard 4 = .ok (.invokevirtual 146, 3) := by decide +kernel
theorem dX12_readBoard_7 : decode cX12_readBoard 7 = .ok (.ifCond .ne 5, 3) := by decide +kernel
theorem dX12_readBoard_10 : decode cX12_readBoard 10 = .ok (.iconst 0, 1) := by decide +kernel
theorem dX12_readBoard_11 : decode cX12_readBoard 11 = .ok (.ireturn, 1) := by decide +kernel
theorem dX12_readBoard_12 : decode cX12_readBoard 12 = .ok (.aload_n 0, 1) := by decide +kernel
theorem dX12_readBoard_13 : decode cX12_readBoard 13 = .ok (.aload_n 0, 1) := by decide +kernel
theorem dX12_readBoard_14 : decode cX12_readBoard 14 = .ok (.getfield 128, 3) := by decide +kernel
theorem dX12_readBoard_17 : decode cX12_readBoard 17 = .ok (.invokevirtual 73, 3) := by decide +kernel
theorem dX12_readBoard_20 : decode cX12_readBoard 20 = .ok (.aload_n 0, 1) := by decide +kernel
theorem dX12_readBoard_21 : decode cX12_readBoard 21 = .ok (.invokevirtual 131, 3) := by decide +kernel
theorem dX12_readBoard_24 : decode cX12_readBoard 24 = .ok (.ifCond .ne 5, 3) := by decide +kernel
theorem dX12_readBoard_27 : decode cX12_readBoard 27 = .ok (.iconst 1, 1) := by decide +kernel
theorem dX12_readBoard_28 : decode cX12_readBoard 28 = .ok (.ireturn, 1) := by decide +kernel
theorem dX12_readBoard_29 : decode cX12_readBoard 29 = .ok (.aload_n 0, 1) := by decide +kernel
theorem dX12_readBoard_30 : decode cX12_readBoard 30 = .ok (.ldc 149, 2) := by decide +kernel
theorem dX12_readBoard_32 : decode cX12_readBoard 32 = .ok (.invokevirtual 151, 3) := by decide +kernel
theorem dX12_readBoard_35 : decode cX12_readBoard 35 = .ok (.ifCond .ne 13, 3) := by decide +kernel
theorem dX12_readBoard_38 : decode cX12_readBoard 38 = .ok (.aload_n 0, 1) := by decide +kernel
theorem dX12_readBoard_39 : decode cX12_readBoard 39 = .ok (.iconst 1, 1) := by decide +kernel
theorem dX12_readBoard_40 : decode cX12_readBoard 40 = .ok (.aload_n 0, 1) := by decide +kernel
theorem dX12_readBoard_41 : decode cX12_readBoard 41 = .ok (.getfield 97, 3) := by decide +kernel
theorem dX12_readBoard_44 : decode cX12_readBoard 44 = .ok (.invokevirtual 116, 3) := by decide +kernel
theorem dX12_readBoard_47 : decode cX12_readBoard 47 = .ok (.ireturn, 1) := by decide +kernel
theorem dX12_readBoard_48 : decode cX12_readBoard 48 = .ok (.aload_n 0, 1) := by decide +kernel
theorem dX12_readBoard_49 : decode cX12_readBoard 49 = .ok (.getfield 9, 3) := by decide +kernel
theorem dX12_readBoard_52 : decode cX12_readBoard 52 = .ok (.iconst 1, 1) := by decide +kernel
theorem dX12_readBoard_53 : decode cX12_readBoard 53 = .ok (.iconst 1, 1) := by decide +kernel
theorem dX12_readBoard_54 : decode cX12_readBoard 54 = .ok (.iastore, 1) := by decide +kernel
theorem dX12_readBoard_55 : decode cX12_readBoard 55 = .ok (.iconst 1, 1) := by decide +kernel
theorem dX12_readBoard_56 : decode cX12_readBoard 56 = .ok (.ireturn, 1) := by decide +kernel
theorem dX12_readCell_0 : decode cX12_readCell 0 = .ok (.aload_n 0, 1) := by decide +kernel
theorem dX12_readCell_1 : decode cX12_readCell 1 = .ok (.invokevirtual 131, 3) := by decide +kernel
theorem dX12_readCell_4 : decode cX12_readCell 4 = .ok (.ifCond .eq 16, 3) := by decide +kernel
theorem dX12_readCell_7 : decode cX12_readCell 7 = .ok (.aload_n 0, 1) := by decide +kernel
theorem dX12_readCell_8 : decode cX12_readCell 8 = .ok (.invokevirtual 135, 3) := by decide +kernel
theorem dX12_readCell_11 : decode cX12_readCell 11 = .ok (.aload_n 0, 1) := by decide +kernel
theorem dX12_readCell_12 : decode cX12_readCell 12 = .ok (.getfield 97, 3) := by decide +kernel
theorem dX12_readCell_15 : decode cX12_readCell 15 = .ok (.isub, 1) := by decide +kernel
theorem dX12_readCell_16 : decode cX12_readCell 16 = .ok (.iconst 1, 1) := by decide +kernel
theorem dX12_readCell_17 : decode cX12_readCell 17 = .ok (.if_icmp .eq 13, 3) := by decide +kernel
theorem dX12_readCell_20 : decode cX12_readCell 20 = .ok (.aload_n 0, 1) := by decide +kernel
theorem dX12_readCell_21 : decode cX12_readCell 21 = .ok (.iconst 1, 1) := by decide +kernel
theorem dX12_readCell_22 : decode cX12_readCell 22 = .ok (.aload_n 0, 1) := by decide +kernel
theorem dX12_readCell_23 : decode cX12_readCell 23 = .ok (.getfield 97, 3) := by decide +kernel
theorem dX12_readCell_26 : decode cX12_readCell 26 = .ok (.invokevirtual 116, 3) := by decide +kernel
theorem dX12_readCell_29 : decode cX12_readCell 29 = .ok (.ireturn, 1) := by decide +kernel
theorem dX12_readCell_30 : decode cX12_readCell 30 = .ok (.aload_n 0, 1) := by decide +kernel
theorem dX12_readCell_31 : decode cX12_readCell 31 = .ok (.getfield 97, 3) := by decide +kernel
theorem dX12_readCell_34 : decode cX12_readCell 34 = .ok (.istore_n 2, 1) := by decide +kernel
theorem dX12_readCell_35 : decode cX12_readCell 35 = .ok (.aload_n 0, 1) := by decide +kernel
theorem dX12_readCell_36 : decode cX12_readCell 36 = .ok (.getfield 26, 3) := by decide +kernel
theorem dX12_readCell_39 : decode cX12_readCell 39 = .ok (.iload_n 2, 1) := by decide +kernel
theorem dX12_readCell_40 : decode cX12_readCell 40 = .ok (.baload, 1) := by decide +kernel
theorem dX12_readCell_41 : decode cX12_readCell 41 = .ok (.bipush 97, 2) := by decide +kernel
theorem dX12_readCell_43 : decode cX12_readCell 43 = .ok (.isub, 1) := by decide +kernel
theorem dX12_readCell_44 : decode cX12_readCell 44 = .ok (.istore_n 3, 1) := by decide +kernel
theorem dX12_readCell_45 : decode cX12_readCell 45 = .ok (.iload_n 3, 1) := by decide +kernel
theorem dX12_readCell_46 : decode cX12_readCell 46 = .ok (.aload_n 0, 1) := by decide +kernel
theorem dX12_readCell_47 : decode cX12_readCell 47 = .ok (.getfield 9, 3) := by decide +kernel
theorem dX12_readCell_50 : decode cX12_readCell 50 = .ok (.iconst 0, 1) := by decide +kernel
theorem dX12_readCell_51 : decode cX12_readCell 51 = .ok (.iaload, 1) := by decide +kernel
theorem dX12_readCell_52 : decode cX12_readCell 52 = .ok (.if_icmp .lt 10, 3) := by decide +kernel
theorem dX12_readCell_55 : decode cX12_readCell 55 = .ok (.aload_n 0, 1) := by decide +kernel
theorem dX12_readCell_56 : decode cX12_readCell 56 = .ok (.iconst 2, 1) := by decide +kernel
theorem dX12_readCell_57 : decode cX12_readCell 57 = .ok (.iload_n 2, 1) := by decide +kernel
theorem dX12_readCell_58 : decode cX12_readCell 58 = .ok (.invokevirtual 116, 3) := by decide +kernel
theorem dX12_readCell_61 : decode cX12_readCell 61 = .ok (.ireturn, 1) := by decide +kernel
theorem dX12_readCell_62 : decode cX12_readCell 62 = .ok (.iload_n 1, 1) := by decide +kernel
theorem dX12_readCell_63 : decode cX12_readCell 63 = .ok (.ifCond .eq 18, 3) := by decide +kernel
theorem dX12_readCell_66 : decode cX12_readCell 66 = .ok (.aload_n 0, 1) := by decide +kernel
theorem dX12_readCell_67 : decode cX12_readCell 67 = .ok (.invokevirtual 155, 3) := by decide +kernel
theorem dX12_readCell_70 : decode cX12_readCell 70 = .ok (.iconst (-1), 1) := by decide +kernel
theorem dX12_readCell_71 : decode cX12_readCell 71 = .ok (.if_icmp .eq 10, 3) := by decide +kernel
theorem dX12_readCell_74 : decode cX12_readCell 74 = .ok (.aload_n 0, 1) := by decide +kernel
theorem dX12_readCell_75 : decode cX12_readCell 75 = .ok (.iconst 4, 1) := by decide +kernel
theorem dX12_readCell_76 : decode cX12_readCell 76 = .ok (.iload_n 2, 1) := by decide +kernel
theorem dX12_readCell_77 : decode cX12_readCell 77 = .ok (.invokevirtual 116, 3) := by decide +kernel
theorem dX12_readCell_80 : decode cX12_readCell 80 = .ok (.ireturn, 1) := by decide +kernel
theorem dX12_readCell_81 : decode cX12_readCell 81 = .ok (.aload_n 0, 1) := by decide +kernel
theorem dX12_readCell_82 : decode cX12_readCell 82 = .ok (.dup, 1) := by decide +kernel
theorem dX12_readCell_83 : decode cX12_readCell 83 = .ok (.getfield 94, 3) := by decide +kernel
theorem dX12_readCell_86 : decode cX12_readCell 86 = .ok (.iconst 1, 1) := by decide +kernel
theorem dX12_readCell_87 : decode cX12_readCell 87 = .ok (.iadd, 1) := by decide +kernel
theorem dX12_readCell_88 : decode cX12_readCell 88 = .ok (.putfield 94, 3) := by decide +kernel
theorem dX12_readCell_91 : decode cX12_readCell 91 = .ok (.aload_n 0, 1) := by decide +kernel
theorem dX12_readCell_92 : decode cX12_readCell 92 = .ok (.iconst 1, 1) := by decide +kernel
theorem dX12_readCell_93 : decode cX12_readCell 93 = .ok (.aload_n 0, 1) := by decide +kernel
theorem dX12_readCell_94 : decode cX12_readCell 94 = .ok (.getfield 9, 3) := by decide +kernel
theorem dX12_readCell_97 : decode cX12_readCell 97 = .ok (.iconst 0, 1) := by decide +kernel
theorem dX12_readCell_98 : decode cX12_readCell 98 = .ok (.iaload, 1) := by decide +kernel
theorem dX12_readCell_99 : decode cX12_readCell 99 = .ok (.invokevirtual 146, 3) := by decide +kernel
theorem dX12_readCell_102 : decode cX12_readCell 102 = .ok (.ifCond .ne 5, 3) := by decide +kernel
theorem dX12_readCell_105 : decode cX12_readCell 105 = .ok (.iconst 0, 1) := by decide +kernel
theorem dX12_readCell_106 : decode cX12_readCell 106 = .ok (.ireturn, 1) := by decide +kernel
theorem dX12_readCell_107 : decode cX12_readCell 107 = .ok (.aload_n 0, 1) := by decide +kernel
theorem dX12_readCell_108 : decode cX12_readCell 108 = .ok (.aload_n 0, 1) := by decide +kernel
theorem dX12_readCell_109 : decode cX12_readCell 109 = .ok (.getfield 9, 3) := by decide +kernel
theorem dX12_readCell_112 : decode cX12_readCell 112 = .ok (.iconst 0, 1) := by decide +kernel
theorem dX12_readCell_113 : decode cX12_readCell 113 = .ok (.iaload, 1) := by decide +kernel
theorem dX12_readCell_114 : decode cX12_readCell 114 = .ok (.aload_n 0, 1) := by decide +kernel
theorem dX12_readCell_115 : decode cX12_readCell 115 = .ok (.getfield 128, 3) := by decide +kernel
theorem dX12_readCell_118 : decode cX12_readCell 118 = .ok (.iconst 1, 1) := by decide +kernel
theorem dX12_readCell_119 : decode cX12_readCell 119 = .ok (.isub, 1) := by decide +kernel
theorem dX12_readCell_120 : decode cX12_readCell 120 = .ok (.imul, 1) := by decide +kernel
theorem dX12_readCell_121 : decode cX12_readCell 121 = .ok (.iload_n 3, 1) := by decide +kernel
theorem dX12_readCell_122 : decode cX12_readCell 122 = .ok (.iadd, 1) := by decide +kernel
theorem dX12_readCell_123 : decode cX12_readCell 123 = .ok (.putfield 158, 3) := by decide +kernel
theorem dX12_readCell_126 : decode cX12_readCell 126 = .ok (.aload_n 0, 1) := by decide +kernel
theorem dX12_readCell_127 : decode cX12_readCell 127 = .ok (.getfield 9, 3) := by decide +kernel
theorem dX12_readCell_130 : decode cX12_readCell 130 = .ok (.iconst 5, 1) := by decide +kernel
theorem dX12_readCell_131 : decode cX12_readCell 131 = .ok (.aload_n 0, 1) := by decide +kernel
theorem dX12_readCell_132 : decode cX12_readCell 132 = .ok (.getfield 158, 3) := by decide +kernel
theorem dX12_readCell_135 : decode cX12_readCell 135 = .ok (.iadd, 1) := by decide +kernel
theorem dX12_readCell_136 : decode cX12_readCell 136 = .ok (.iaload, 1) := by decide +kernel
theorem dX12_readCell_137 : decode cX12_readCell 137 = .ok (.iconst (-1), 1) := by decide +kernel
theorem dX12_readCell_138 : decode cX12_readCell 138 = .ok (.if_icmp .eq 12, 3) := by decide +kernel
theorem dX12_readCell_141 : decode cX12_readCell 141 = .ok (.aload_n 0, 1) := by decide +kernel
theorem dX12_readCell_142 : decode cX12_readCell 142 = .ok (.iconst 3, 1) := by decide +kernel
theorem dX12_readCell_143 : decode cX12_readCell 143 = .ok (.iload_n 2, 1) := by decide +kernel
theorem dX12_readCell_144 : decode cX12_readCell 144 = .ok (.invokevirtual 116, 3) := by decide +kernel
theorem dX12_readCell_147 : decode cX12_readCell 147 = .ok (.ifCond .eq 7, 3) := by decide +kernel
theorem dX12_readCell_150 : decode cX12_readCell 150 = .ok (.iconst 1, 1) := by decide +kernel
theorem dX12_readCell_151 : decode cX12_readCell 151 = .ok (.goto 4, 3) := by decide +kernel
theorem dX12_readCell_154 : decode cX12_readCell 154 = .ok (.iconst 0, 1) := by decide +kernel
theorem dX12_readCell_155 : decode cX12_readCell 155 = .ok (.ireturn, 1) := by decide +kernel
theorem dX12_readStones_0 : decode cX12_readStones 0 = .ok (.aload_n 0, 1) := by decide +kernel
theorem dX12_readStones_1 : decode cX12_readStones 1 = .ok (.iconst 0, 1) := by decide +kernel
theorem dX12_readStones_2 : decode cX12_readStones 2 = .ok (.invokevirtual 161, 3) := by decide +kernel
theorem dX12_readStones_5 : decode cX12_readStones 5 = .ok (.ifCond .ne 5, 3) := by decide +kernel
theorem dX12_readStones_8 : decode cX12_readStones 8 = .ok (.iconst 0, 1) := by decide +kernel
theorem dX12_readStones_9 : decode cX12_readStones 9 = .ok (.ireturn, 1) := by decide +kernel
theorem dX12_readStones_10 : decode cX12_readStones 10 = .ok (.aload_n 0, 1) := by decide +kernel
theorem dX12_readStones_11 : decode cX12_readStones 11 = .ok (.getfield 9, 3) := by decide +kernel
theorem dX12_readStones_14 : decode cX12_readStones 14 = .ok (.iconst 5, 1) := by decide +kernel
theorem dX12_readStones_15 : decode cX12_readStones 15 = .ok (.aload_n 0, 1) := by decide +kernel
theorem dX12_readStones_16 : decode cX12_readStones 16 = .ok (.getfield 158, 3) := by decide +kernel
theorem dX12_readStones_19 : decode cX12_readStones 19 = .ok (.iadd, 1) := by decide +kernel
theorem dX12_readStones_20 : decode cX12_readStones 20 = .ok (.iload_n 1, 1) := by decide +kernel
theorem dX12_readStones_21 : decode cX12_readStones 21 = .ok (.iastore, 1) := by decide +kernel
theorem dX12_readStones_22 : decode cX12_readStones 22 = .ok (.aload_n 0, 1) := by decide +kernel
theorem dX12_readStones_23 : decode cX12_readStones 23 = .ok (.invokevirtual 131, 3) := by decide +kernel
theorem dX12_readStones_26 : decode cX12_readStones 26 = .ok (.ifCond .ne (-26), 3) := by decide +kernel
theorem dX12_readStones_29 : decode cX12_readStones 29 = .ok (.iconst 1, 1) := by decide +kernel
theorem dX12_readStones_30 : decode cX12_readStones 30 = .ok (.ireturn, 1) := by decide +kernel
theorem dX12_readMoves_0 : decode cX12_readMoves 0 = .ok (.aload_n 0, 1) := by decide +kernel
theorem dX12_readMoves_1 : decode cX12_readMoves 1 = .ok (.iconst 1, 1) := by decide +kernel
theorem dX12_readMoves_2 : decode cX12_readMoves 2 = .ok (.invokevirtual 161, 3) := by decide +kernel
theorem dX12_readMoves_5 : decode cX12_readMoves 5 = .ok (.ifCond .ne 5, 3) := by decide +kernel
theorem dX12_readMoves_8 : decode cX12_readMoves 8 = .ok (.iconst 0, 1) := by decide +kernel
theorem dX12_readMoves_9 : decode cX12_readMoves 9 = .ok (.ireturn, 1) := by decide +kernel
theorem dX12_readMoves_10 : decode cX12_readMoves 10 = .ok (.aload_n 0, 1) := by decide +kernel
theorem dX12_readMoves_11 : decode cX12_readMoves 11 = .ok (.aload_n 0, 1) := by decide +kernel
theorem dX12_readMoves_12 : decode cX12_readMoves 12 = .ok (.getfield 158, 3) := by decide +kernel
theorem dX12_readMoves_15 : decode cX12_readMoves 15 = .ok (.invokevirtual 164, 3) := by decide +kernel
theorem dX12_readMoves_18 : decode cX12_readMoves 18 = .ok (.aload_n 0, 1) := by decide +kernel
theorem dX12_readMoves_19 : decode cX12_readMoves 19 = .ok (.invokevirtual 131, 3) := by decide +kernel
theorem dX12_readMoves_22 : decode cX12_readMoves 22 = .ok (.ifCond .ne (-22), 3) := by decide +kernel
theorem dX12_readMoves_25 : decode cX12_readMoves 25 = .ok (.iconst 1, 1) := by decide +kernel
theorem dX12_readMoves_26 : decode cX12_readMoves 26 = .ok (.ireturn, 1) := by decide +kernel
theorem dX12_readTurn_0 : decode cX12_readTurn 0 = .ok (.aload_n 0, 1) := by decide +kernel
theorem dX12_readTurn_1 : decode cX12_readTurn 1 = .ok (.ldc 167, 2) := by decide +kernel
theorem dX12_readTurn_3 : decode cX12_readTurn 3 = .ok (.invokevirtual 151, 3) := by decide +kernel
theorem dX12_readTurn_6 : decode cX12_readTurn 6 = .ok (.ifCond .eq 12, 3) := by decide +kernel
theorem dX12_readTurn_9 : decode cX12_readTurn 9 = .ok (.aload_n 0, 1) := by decide +kernel
theorem dX12_readTurn_10 : decode cX12_readTurn 10 = .ok (.getfield 9, 3) := by decide +kernel
theorem dX12_readTurn_13 : decode cX12_readTurn 13 = .ok (.iconst 2, 1) := by decide +kernel
theorem dX12_readTurn_14 : decode cX12_readTurn 14 = .ok (.iconst 0, 1) := by decide +kernel
theorem dX12_readTurn_15 : decode cX12_readTurn 15 = .ok (.iastore, 1) := by decide +kernel
theorem dX12_readTurn_16 : decode cX12_readTurn 16 = .ok (.iconst 1, 1) := by decide +kernel
theorem dX12_readTurn_17 : decode cX12_readTurn 17 = .ok (.ireturn, 1) := by decide +kernel
theorem dX12_readTurn_18 : decode cX12_readTurn 18 = .ok (.aload_n 0, 1) := by decide +kernel
theorem dX12_readTurn_19 : decode cX12_readTurn 19 = .ok (.ldc 169, 2) := by decide +kernel
theorem dX12_readTurn_21 : decode cX12_readTurn 21 = .ok (.invokevirtual 151, 3) := by decide +kernel
theorem dX12_readTurn_24 : decode cX12_readTurn 24 = .ok (.ifCond .ne 13, 3) := by decide +kernel
theorem dX12_readTurn_27 : decode cX12_readTurn 27 = .ok (.aload_n 0, 1) := by decide +kernel
theorem dX12_readTurn_28 : decode cX12_readTurn 28 = .ok (.iconst 1, 1) := by decide +kernel
theorem dX12_readTurn_29 : decode cX12_readTurn 29 = .ok (.aload_n 0, 1) := by decide +kernel
theorem dX12_readTurn_30 : decode cX12_readTurn 30 = .ok (.getfield 97, 3) := by decide +kernel
theorem dX12_readTurn_33 : decode cX12_readTurn 33 = .ok (.invokevirtual 116, 3) := by decide +kernel
theorem dX12_readTurn_36 : decode cX12_readTurn 36 = .ok (.ireturn, 1) := by decide +kernel
theorem dX12_readTurn_37 : decode cX12_readTurn 37 = .ok (.aload_n 0, 1) := by decide +kernel
theorem dX12_readTurn_38 : decode cX12_readTurn 38 = .ok (.getfield 9, 3) := by decide +kernel
theorem dX12_readTurn_41 : decode cX12_readTurn 41 = .ok (.iconst 2, 1) := by decide +kernel
theorem dX12_readTurn_42 : decode cX12_readTurn 42 = .ok (.iconst 1, 1) := by decide +kernel
theorem dX12_readTurn_43 : decode cX12_readTurn 43 = .ok (.iastore, 1) := by decide +kernel
theorem dX12_readTurn_44 : decode cX12_readTurn 44 = .ok (.iconst 1, 1) := by decide +kernel
theorem dX12_readTurn_45 : decode cX12_readTurn 45 = .ok (.ireturn, 1) := by decide +kernel
theorem dX12_readStatement_0 : decode cX12_readStatement 0 = .ok (.aload_n 0, 1) := by decide +kernel
theorem dX12_readStatement_1 : decode cX12_readStatement 1 = .ok (.getfield 171, 3) := by decide +kernel
theorem dX12_readStatement_4 : decode cX12_readStatement 4 = .ok (.ifCond .ne 29, 3) := by decide +kernel
theorem dX12_readStatement_7 : decode cX12_readStatement 7 = .ok (.aload_n 0, 1) := by decide +kernel
theorem dX12_readStatement_8 : decode cX12_readStatement 8 = .ok (.ldc 174, 2) := by decide +kernel
theorem dX12_readStatement_10 : decode cX12_readStatement 10 = .ok (.invokevirtual 151, 3) := by decide +kernel
theorem dX12_readStatement_13 : decode cX12_readStatement 13 = .ok (.ifCond .eq 10, 3) := by decide +kernel
theorem dX12_readStatement_16 : decode cX12_readStatement 16 = .ok (.aload_n 0, 1) := by decide +kernel
theorem dX12_readStatement_17 : decode cX12_readStatement 17 = .ok (.invokevirtual 176, 3) := by decide +kernel
theorem dX12_readStatement_20 : decode cX12_readStatement 20 = .ok (.goto 12, 3) := by decide +kernel
theorem dX12_readStatement_23 : decode cX12_readStatement 23 = .ok (.aload_n 0, 1) := by decide +kernel
theorem dX12_readStatement_24 : decode cX12_readStatement 24 = .ok (.iconst 1, 1) := by decide +kernel
theorem dX12_readStatement_25 : decode cX12_readStatement 25 = .ok (.aload_n 0, 1) := by decide +kernel
theorem dX12_readStatement_26 : decode cX12_readStatement 26 = .ok (.getfield 97, 3) := by decide +kernel
theorem dX12_readStatement_29 : decode cX12_readStatement 29 = .ok (.invokevirtual 116, 3) := by decide +kernel
theorem dX12_readStatement_32 : decode cX12_readStatement 32 = .ok (.ireturn, 1) := by decide +kernel
theorem dX12_readStatement_33 : decode cX12_readStatement 33 = .ok (.aload_n 0, 1) := by decide +kernel
theorem dX12_readStatement_34 : decode cX12_readStatement 34 = .ok (.ldc 167, 2) := by decide +kernel
theorem dX12_readStatement_36 : decode cX12_readStatement 36 = .ok (.invokevirtual 151, 3) := by decide +kernel
theorem dX12_readStatement_39 : decode cX12_readStatement 39 = .ok (.ifCond .eq 9, 3) := by decide +kernel
theorem dX12_readStatement_42 : decode cX12_readStatement 42 = .ok (.aload_n 0, 1) := by decide +kernel
theorem dX12_readStatement_43 : decode cX12_readStatement 43 = .ok (.iconst 0, 1) := by decide +kernel
theorem dX12_readStatement_44 : decode cX12_readStatement 44 = .ok (.invokevirtual 179, 3) := by decide +kernel
theorem dX12_readStatement_47 : decode cX12_readStatement 47 = .ok (.ireturn, 1) := by decide +kernel
theorem dX12_readStatement_48 : decode cX12_readStatement 48 = .ok (.aload_n 0, 1) := by decide +kernel
theorem dX12_readStatement_49 : decode cX12_readStatement 49 = .ok (.ldc 169, 2) := by decide +kernel
theorem dX12_readStatement_51 : decode cX12_readStatement 51 = .ok (.invokevirtual 151, 3) := by decide +kernel
theorem dX12_readStatement_54 : decode cX12_readStatement 54 = .ok (.ifCond .eq 9, 3) := by decide +kernel
theorem dX12_readStatement_57 : decode cX12_readStatement 57 = .ok (.aload_n 0, 1) := by decide +kernel
theorem dX12_readStatement_58 : decode cX12_readStatement 58 = .ok (.iconst 1, 1) := by decide +kernel
theorem dX12_readStatement_59 : decode cX12_readStatement 59 = .ok (.invokevirtual 179, 3) := by decide +kernel
theorem dX12_readStatement_62 : decode cX12_readStatement 62 = .ok (.ireturn, 1) := by decide +kernel
theorem dX12_readStatement_63 : decode cX12_readStatement 63 = .ok (.aload_n 0, 1) := by decide +kernel
theorem dX12_readStatement_64 : decode cX12_readStatement 64 = .ok (.ldc 183, 2) := by decide +kernel
theorem dX12_readStatement_66 : decode cX12_readStatement 66 = .ok (.invokevirtual 151, 3) := by decide +kernel
theorem dX12_readStatement_69 : decode cX12_readStatement 69 = .ok (.ifCond .eq 8, 3) := by decide +kernel
theorem dX12_readStatement_72 : decode cX12_readStatement 72 = .ok (.aload_n 0, 1) := by decide +kernel
theorem dX12_readStatement_73 : decode cX12_readStatement 73 = .ok (.invokevirtual 185, 3) := by decide +kernel
theorem dX12_readStatement_76 : decode cX12_readStatement 76 = .ok (.ireturn, 1) := by decide +kernel
theorem dX12_readStatement_77 : decode cX12_readStatement 77 = .ok (.aload_n 0, 1) := by decide +kernel
theorem dX12_readStatement_78 : decode cX12_readStatement 78 = .ok (.ldc 188, 2) := by decide +kernel
theorem dX12_readStatement_80 : decode cX12_readStatement 80 = .ok (.invokevirtual 151, 3) := by decide +kernel
theorem dX12_readStatement_83 : decode cX12_readStatement 83 = .ok (.ifCond .eq 10, 3) := by decide +kernel
theorem dX12_readStatement_86 : decode cX12_readStatement 86 = .ok (.aload_n 0, 1) := by decide +kernel
theorem dX12_readStatement_87 : decode cX12_readStatement 87 = .ok (.invokevirtual 190, 3) := by decide +kernel
theorem dX12_readStatement_90 : decode cX12_readStatement 90 = .ok (.goto 12, 3) := by decide +kernel
theorem dX12_readStatement_93 : decode cX12_readStatement 93 = .ok (.aload_n 0, 1) := by decide +kernel
theorem dX12_readStatement_94 : decode cX12_readStatement 94 = .ok (.iconst 1, 1) := by decide +kernel
theorem dX12_readStatement_95 : decode cX12_readStatement 95 = .ok (.aload_n 0, 1) := by decide +kernel
theorem dX12_readStatement_96 : decode cX12_readStatement 96 = .ok (.getfield 97, 3) := by decide +kernel
theorem dX12_readStatement_99 : decode cX12_readStatement 99 = .ok (.invokevirtual 116, 3) := by decide +kernel
theorem dX12_readStatement_102 : decode cX12_readStatement 102 = .ok (.ireturn, 1) := by decide +kernel
theorem dX12_readAll_0 : decode cX12_readAll 0 = .ok (.aload_n 0, 1) := by decide +kernel
theorem dX12_readAll_1 : decode cX12_readAll 1 = .ok (.iconst 0, 1) := by decide +kernel
theorem dX12_readAll_2 : decode cX12_readAll 2 = .ok (.putfield 94, 3) := by decide +kernel
theorem dX12_readAll_5 : decode cX12_readAll 5 = .ok (.aload_n 0, 1) := by decide +kernel
theorem dX12_readAll_6 : decode cX12_readAll 6 = .ok (.iconst 0, 1) := by decide +kernel
theorem dX12_readAll_7 : decode cX12_readAll 7 = .ok (.putfield 171, 3) := by decide +kernel
theorem dX12_readAll_10 : decode cX12_readAll 10 = .ok (.aload_n 0, 1) := by decide +kernel
theorem dX12_readAll_11 : decode cX12_readAll 11 = .ok (.invokevirtual 193, 3) := by decide +kernel
theorem dX12_readAll_14 : decode cX12_readAll 14 = .ok (.ifCond .ne 5, 3) := by decide +kernel
theorem dX12_readAll_17 : decode cX12_readAll 17 = .ok (.iconst 0, 1) := by decide +kernel
theorem dX12_readAll_18 : decode cX12_readAll 18 = .ok (.ireturn, 1) := by decide +kernel
theorem dX12_readAll_19 : decode cX12_readAll 19 = .ok (.aload_n 0, 1) := by decide +kernel
theorem dX12_readAll_20 : decode cX12_readAll 20 = .ok (.invokevirtual 100, 3) := by decide +kernel
theorem dX12_readAll_23 : decode cX12_readAll 23 = .ok (.istore_n 1, 1) := by decide +kernel
theorem dX12_readAll_24 : decode cX12_readAll 24 = .ok (.iload_n 1, 1) := by decide +kernel
theorem dX12_readAll_25 : decode cX12_readAll 25 = .ok (.iconst (-1), 1) := by decide +kernel
theorem dX12_readAll_26 : decode cX12_readAll 26 = .ok (.if_icmp .ne 5, 3) := by decide +kernel
theorem dX12_readAll_29 : decode cX12_readAll 29 = .ok (.iconst 1, 1) := by decide +kernel
theorem dX12_readAll_30 : decode cX12_readAll 30 = .ok (.ireturn, 1) := by decide +kernel
theorem dX12_readAll_31 : decode cX12_readAll 31 = .ok (.iload_n 1, 1) := by decide +kernel
theorem dX12_readAll_32 : decode cX12_readAll 32 = .ok (.bipush 59, 2) := by decide +kernel
theorem dX12_readAll_34 : decode cX12_readAll 34 = .ok (.if_icmp .eq 13, 3) := by decide +kernel
theorem dX12_readAll_37 : decode cX12_readAll 37 = .ok (.aload_n 0, 1) := by decide +kernel
theorem dX12_readAll_38 : decode cX12_readAll 38 = .ok (.iconst 1, 1) := by decide +kernel
theorem dX12_readAll_39 : decode cX12_readAll 39 = .ok (.aload_n 0, 1) := by decide +kernel
theorem dX12_readAll_40 : decode cX12_readAll 40 = .ok (.getfield 97, 3) := by decide +kernel
theorem dX12_readAll_43 : decode cX12_readAll 43 = .ok (.invokevirtual 116, 3) := by decide +kernel
theorem dX12_readAll_46 : decode cX12_readAll 46 = .ok (.ireturn, 1) := by decide +kernel
theorem dX12_readAll_47 : decode cX12_readAll 47 = .ok (.aload_n 0, 1) := by decide +kernel
theorem dX12_readAll_48 : decode cX12_readAll 48 = .ok (.dup, 1) := by decide +kernel
theorem dX12_readAll_49 : decode cX12_readAll 49 = .ok (.getfield 94, 3) := by decide +kernel
theorem dX12_readAll_52 : decode cX12_readAll 52 = .ok (.iconst 1, 1) := by decide +kernel
theorem dX12_readAll_53 : decode cX12_readAll 53 = .ok (.iadd, 1) := by decide +kernel
theorem dX12_readAll_54 : decode cX12_readAll 54 = .ok (.putfield 94, 3) := by decide +kernel
theorem dX12_readAll_57 : decode cX12_readAll 57 = .ok (.aload_n 0, 1) := by decide +kernel
theorem dX12_readAll_58 : decode cX12_readAll 58 = .ok (.dup, 1) := by decide +kernel
theorem dX12_readAll_59 : decode cX12_readAll 59 = .ok (.getfield 171, 3) := by decide +kernel
theorem dX12_readAll_62 : decode cX12_readAll 62 = .ok (.iconst 1, 1) := by decide +kernel
theorem dX12_readAll_63 : decode cX12_readAll 63 = .ok (.iadd, 1) := by decide +kernel
theorem dX12_readAll_64 : decode cX12_readAll 64 = .ok (.putfield 171, 3) := by decide +kernel
theorem dX12_readAll_67 : decode cX12_readAll 67 = .ok (.goto (-57), 3) := by decide +kernel
theorem dX12_load_0 : decode cX12_load 0 = .ok (.aload_n 0, 1) := by decide +kernel
theorem dX12_load_1 : decode cX12_load 1 = .ok (.iconst 0, 1) := by decide +kernel
theorem dX12_load_2 : decode cX12_load 2 = .ok (.putfield 77, 3) := by decide +kernel
theorem dX12_load_5 : decode cX12_load 5 = .ok (.aload_n 0, 1) := by decide +kernel
theorem dX12_load_6 : decode cX12_load 6 = .ok (.iconst 0, 1) := by decide +kernel
theorem dX12_load_7 : decode cX12_load 7 = .ok (.putfield 88, 3) := by decide +kernel
theorem dX12_load_10 : decode cX12_load 10 = .ok (.aload_n 0, 1) := by decide +kernel
theorem dX12_load_11 : decode cX12_load 11 = .ok (.iconst (-1), 1) := by decide +kernel
theorem dX12_load_12 : decode cX12_load 12 = .ok (.putfield 30, 3) := by decide +kernel
theorem dX12_load_15 : decode cX12_load 15 = .ok (.aload_n 0, 1) := by decide +kernel
theorem dX12_load_16 : decode cX12_load 16 = .ok (.invokevirtual 196, 3) := by decide +kernel
theorem dX12_load_19 : decode cX12_load 19 = .ok (.aload_n 0, 1) := by decide +kernel
theorem dX12_load_20 : decode cX12_load 20 = .ok (.invokevirtual 199, 3) := by decide +kernel
theorem dX12_load_23 : decode cX12_load 23 = .ok (.istore_n 1, 1) := by decide +kernel
theorem dX12_load_24 : decode cX12_load 24 = .ok (.aload_n 0, 1) := by decide +kernel
theorem dX12_load_25 : decode cX12_load 25 = .ok (.iconst 0, 1) := by decide +kernel
theorem dX12_load_26 : decode cX12_load 26 = .ok (.putfield 85, 3) := by decide +kernel
theorem dX12_load_29 : decode cX12_load 29 = .ok (.iload_n 1, 1) := by decide +kernel
theorem dX12_load_30 : decode cX12_load 30 = .ok (.ifCond .ne 23, 3) := by decide +kernel
theorem dX12_load_33 : decode cX12_load 33 = .ok (.aload_n 0, 1) := by decide +kernel
theorem dX12_load_34 : decode cX12_load 34 = .ok (.aload_n 0, 1) := by decide +kernel
theorem dX12_load_35 : decode cX12_load 35 = .ok (.getfield 171, 3) := by decide +kernel
theorem dX12_load_38 : decode cX12_load 38 = .ok (.putfield 30, 3) := by decide +kernel
theorem dX12_load_41 : decode cX12_load 41 = .ok (.aload_n 0, 1) := by decide +kernel
theorem dX12_load_42 : decode cX12_load 42 = .ok (.bipush (-100), 2) := by decide +kernel
theorem dX12_load_44 : decode cX12_load 44 = .ok (.aload_n 0, 1) := by decide +kernel
theorem dX12_load_45 : decode cX12_load 45 = .ok (.getfield 91, 3) := by decide +kernel
theorem dX12_load_48 : decode cX12_load 48 = .ok (.isub, 1) := by decide +kernel
theorem dX12_load_49 : decode cX12_load 49 = .ok (.invokevirtual 202, 3) := by decide +kernel
theorem dX12_load_52 : decode cX12_load 52 = .ok (.ireturn, 1) := by decide +kernel
theorem dX12_load_53 : decode cX12_load 53 = .ok (.aload_n 0, 1) := by decide +kernel
theorem dX12_load_54 : decode cX12_load 54 = .ok (.iconst 0, 1) := by decide +kernel
theorem dX12_load_55 : decode cX12_load 55 = .ok (.putfield 80, 3) := by decide +kernel
theorem dX12_load_58 : decode cX12_load 58 = .ok (.aload_n 0, 1) := by decide +kernel
theorem dX12_load_59 : decode cX12_load 59 = .ok (.getfield 9, 3) := by decide +kernel
theorem dX12_load_62 : decode cX12_load 62 = .ok (.iconst 0, 1) := by decide +kernel
theorem dX12_load_63 : decode cX12_load 63 = .ok (.iaload, 1) := by decide +kernel
theorem dX12_load_64 : decode cX12_load 64 = .ok (.ireturn, 1) := by decide +kernel
theorem dX12_loadError_0 : decode cX12_loadError 0 = .ok (.aload_n 0, 1) := by decide +kernel
theorem dX12_loadError_1 : decode cX12_loadError 1 = .ok (.iconst 0, 1) := by decide +kernel
theorem dX12_loadError_2 : decode cX12_loadError 2 = .ok (.putfield 77, 3) := by decide +kernel
theorem dX12_loadError_5 : decode cX12_loadError 5 = .ok (.aload_n 0, 1) := by decide +kernel
theorem dX12_loadError_6 : decode cX12_loadError 6 = .ok (.getfield 88, 3) := by decide +kernel
theorem dX12_loadError_9 : decode cX12_loadError 9 = .ok (.ireturn, 1) := by decide +kernel
theorem dX12_loadStatement_0 : decode cX12_loadStatement 0 = .ok (.aload_n 0, 1) := by decide +kernel
theorem dX12_loadStatement_1 : decode cX12_loadStatement 1 = .ok (.iconst 0, 1) := by decide +kernel
theorem dX12_loadStatement_2 : decode cX12_loadStatement 2 = .ok (.putfield 77, 3) := by decide +kernel
theorem dX12_loadStatement_5 : decode cX12_loadStatement 5 = .ok (.aload_n 0, 1) := by decide +kernel
theorem dX12_loadStatement_6 : decode cX12_loadStatement 6 = .ok (.getfield 30, 3) := by decide +kernel
theorem dX12_loadStatement_9 : decode cX12_loadStatement 9 = .ok (.ireturn, 1) := by decide +kernel
theorem dX12_cells_0 : decode cX12_cells 0 = .ok (.aload_n 0, 1) := by decide +kernel
theorem dX12_cells_1 : decode cX12_cells 1 = .ok (.getfield 9, 3) := by decide +kernel
theorem dX12_cells_4 : decode cX12_cells 4 = .ok (.iconst 0, 1) := by decide +kernel
theorem dX12_cells_5 : decode cX12_cells 5 = .ok (.iaload, 1) := by decide +kernel
theorem dX12_cells_6 : decode cX12_cells 6 = .ok (.aload_n 0, 1) := by decide +kernel
theorem dX12_cells_7 : decode cX12_cells 7 = .ok (.getfield 9, 3) := by decide +kernel
theorem dX12_cells_10 : decode cX12_cells 10 = .ok (.iconst 0, 1) := by decide +kernel
theorem dX12_cells_11 : decode cX12_cells 11 = .ok (.iaload, 1) := by decide +kernel
theorem dX12_cells_12 : decode cX12_cells 12 = .ok (.imul, 1) := by decide +kernel
theorem dX12_cells_13 : decode cX12_cells 13 = .ok (.ireturn, 1) := by decide +kernel
theorem dX12_row_0 : decode cX12_row 0 = .ok (.iload_n 1, 1) := by decide +kernel
theorem dX12_row_1 : decode cX12_row 1 = .ok (.aload_n 0, 1) := by decide +kernel
theorem dX12_row_2 : decode cX12_row 2 = .ok (.getfield 9, 3) := by decide +kernel
theorem dX12_row_5 : decode cX12_row 5 = .ok (.iconst 0, 1) := by decide +kernel
theorem dX12_row_6 : decode cX12_row 6 = .ok (.iaload, 1) := by decide +kernel
theorem dX12_row_7 : decode cX12_row 7 = .ok (.idiv, 1) := by decide +kernel
theorem dX12_row_8 : decode cX12_row 8 = .ok (.ireturn, 1) := by decide +kernel
theorem dX12_column_0 : decode cX12_column 0 = .ok (.iload_n 1, 1) := by decide +kernel
theorem dX12_column_1 : decode cX12_column 1 = .ok (.aload_n 0, 1) := by decide +kernel
theorem dX12_column_2 : decode cX12_column 2 = .ok (.getfield 9, 3) := by decide +kernel
theorem dX12_column_5 : decode cX12_column 5 = .ok (.iconst 0, 1) := by decide +kernel
theorem dX12_column_6 : decode cX12_column 6 = .ok (.iaload, 1) := by decide +kernel
theorem dX12_column_7 : decode cX12_column 7 = .ok (.irem, 1) := by decide +kernel
theorem dX12_column_8 : decode cX12_column 8 = .ok (.ireturn, 1) := by decide +kernel
theorem dX12_exchanged_0 : decode cX12_exchanged 0 = .ok (.aload_n 0, 1) := by decide +kernel
theorem dX12_exchanged_1 : decode cX12_exchanged 1 = .ok (.getfield 9, 3) := by decide +kernel
theorem dX12_exchanged_4 : decode cX12_exchanged 4 = .ok (.iconst 0, 1) := by decide +kernel
theorem dX12_exchanged_5 : decode cX12_exchanged 5 = .ok (.iaload, 1) := by decide +kernel
theorem dX12_exchanged_6 : decode cX12_exchanged 6 = .ok (.aload_n 0, 1) := by decide +kernel
theorem dX12_exchanged_7 : decode cX12_exchanged 7 = .ok (.iload_n 1, 1) := by decide +kernel
theorem dX12_exchanged_8 : decode cX12_exchanged 8 = .ok (.invokevirtual 206, 3) := by decide +kernel
theorem dX12_exchanged_11 : decode cX12_exchanged 11 = .ok (.imul, 1) := by decide +kernel
theorem dX12_exchanged_12 : decode cX12_exchanged 12 = .ok (.aload_n 0, 1) := by decide +kernel
theorem dX12_exchanged_13 : decode cX12_exchanged 13 = .ok (.iload_n 1, 1) := by decide +kernel
theorem dX12_exchanged_14 : decode cX12_exchanged 14 = .ok (.invokevirtual 209, 3) := by decide +kernel
theorem dX12_exchanged_17 : decode cX12_exchanged 17 = .ok (.iadd, 1) := by decide +kernel
theorem dX12_exchanged_18 : decode cX12_exchanged 18 = .ok (.ireturn, 1) := by decide +kernel
theorem dX12_isCell_0 : decode cX12_isCell 0 = .ok (.iload_n 1, 1) := by decide +kernel
theorem dX12_isCell_1 : decode cX12_isCell 1 = .ok (.i2l, 1) := by decide +kernel
theorem dX12_isCell_2 : decode cX12_isCell 2 = .ok (.lconst 0, 1) := by decide +kernel
theorem dX12_isCell_3 : decode cX12_isCell 3 = .ok (.aload_n 0, 1) := by decide +kernel
theorem dX12_isCell_4 : decode cX12_isCell 4 = .ok (.invokevirtual 212, 3) := by decide +kernel
theorem dX12_isCell_7 : decode cX12_isCell 7 = .ok (.iconst 1, 1) := by decide +kernel
theorem dX12_isCell_8 : decode cX12_isCell 8 = .ok (.isub, 1) := by decide +kernel
theorem dX12_isCell_9 : decode cX12_isCell 9 = .ok (.i2l, 1) := by decide +kernel
theorem dX12_isCell_10 : decode cX12_isCell 10 = .ok (.invokestatic 108, 3) := by decide +kernel
theorem dX12_isCell_13 : decode cX12_isCell 13 = .ok (.ireturn, 1) := by decide +kernel
theorem dX12_isSide_0 : decode cX12_isSide 0 = .ok (.iload_n 0, 1) := by decide +kernel
theorem dX12_isSide_1 : decode cX12_isSide 1 = .ok (.ifCond .eq 8, 3) := by decide +kernel
theorem dX12_isSide_4 : decode cX12_isSide 4 = .ok (.iload_n 0, 1) := by decide +kernel
theorem dX12_isSide_5 : decode cX12_isSide 5 = .ok (.iconst 1, 1) := by decide +kernel
theorem dX12_isSide_6 : decode cX12_isSide 6 = .ok (.if_icmp .ne 7, 3) := by decide +kernel
theorem dX12_isSide_9 : decode cX12_isSide 9 = .ok (.iconst 1, 1) := by decide +kernel
theorem dX12_isSide_10 : decode cX12_isSide 10 = .ok (.goto 4, 3) := by decide +kernel
theorem dX12_isSide_13 : decode cX12_isSide 13 = .ok (.iconst 0, 1) := by decide +kernel
theorem dX12_isSide_14 : decode cX12_isSide 14 = .ok (.ireturn, 1) := by decide +kernel
theorem dX12_stone_0 : decode cX12_stone 0 = .ok (.aload_n 0, 1) := by decide +kernel
theorem dX12_stone_1 : decode cX12_stone 1 = .ok (.getfield 9, 3) := by decide +kernel
theorem dX12_stone_4 : decode cX12_stone 4 = .ok (.iconst 5, 1) := by decide +kernel
theorem dX12_stone_5 : decode cX12_stone 5 = .ok (.iload_n 1, 1) := by decide +kernel
theorem dX12_stone_6 : decode cX12_stone 6 = .ok (.iadd, 1) := by decide +kernel
theorem dX12_stone_7 : decode cX12_stone 7 = .ok (.iaload, 1) := by decide +kernel
theorem dX12_stone_8 : decode cX12_stone 8 = .ok (.ireturn, 1) := by decide +kernel
theorem dX12_stonesOf_0 : decode cX12_stonesOf 0 = .ok (.iconst 0, 1) := by decide +kernel
theorem dX12_stonesOf_1 : decode cX12_stonesOf 1 = .ok (.istore_n 2, 1) := by decide +kernel
theorem dX12_stonesOf_2 : decode cX12_stonesOf 2 = .ok (.iconst 0, 1) := by decide +kernel
theorem dX12_stonesOf_3 : decode cX12_stonesOf 3 = .ok (.istore_n 3, 1) := by decide +kernel
theorem dX12_stonesOf_4 : decode cX12_stonesOf 4 = .ok (.iload_n 3, 1) := by decide +kernel
theorem dX12_stonesOf_5 : decode cX12_stonesOf 5 = .ok (.aload_n 0, 1) := by decide +kernel
theorem dX12_stonesOf_6 : decode cX12_stonesOf 6 = .ok (.invokevirtual 212, 3) := by decide +kernel
theorem dX12_stonesOf_9 : decode cX12_stonesOf 9 = .ok (.if_icmp .ge 26, 3) := by decide +kernel
theorem dX12_stonesOf_12 : decode cX12_stonesOf 12 = .ok (.iload_n 2, 1) := by decide +kernel
theorem dX12_stonesOf_13 : decode cX12_stonesOf 13 = .ok (.aload_n 0, 1) := by decide +kernel
theorem dX12_stonesOf_14 : decode cX12_stonesOf 14 = .ok (.iload_n 3, 1) := by decide +kernel
theorem dX12_stonesOf_15 : decode cX12_stonesOf 15 = .ok (.invokevirtual 215, 3) := by decide +kernel
theorem dX12_stonesOf_18 : decode cX12_stonesOf 18 = .ok (.iload_n 1, 1) := by decide +kernel
theorem dX12_stonesOf_19 : decode cX12_stonesOf 19 = .ok (.if_icmp .ne 7, 3) := by decide +kernel
theorem dX12_stonesOf_22 : decode cX12_stonesOf 22 = .ok (.iconst 1, 1) := by decide +kernel
theorem dX12_stonesOf_23 : decode cX12_stonesOf 23 = .ok (.goto 4, 3) := by decide +kernel
theorem dX12_stonesOf_26 : decode cX12_stonesOf 26 = .ok (.iconst 0, 1) := by decide +kernel
theorem dX12_stonesOf_27 : decode cX12_stonesOf 27 = .ok (.iadd, 1) := by decide +kernel
theorem dX12_stonesOf_28 : decode cX12_stonesOf 28 = .ok (.istore_n 2, 1) := by decide +kernel
theorem dX12_stonesOf_29 : decode cX12_stonesOf 29 = .ok (.iinc 3 1, 3) := by decide +kernel
theorem dX12_stonesOf_32 : decode cX12_stonesOf 32 = .ok (.goto (-28), 3) := by decide +kernel
theorem dX12_stonesOf_35 : decode cX12_stonesOf 35 = .ok (.iload_n 2, 1) := by decide +kernel
theorem dX12_stonesOf_36 : decode cX12_stonesOf 36 = .ok (.ireturn, 1) := by decide +kernel
theorem dX12_round_0 : decode cX12_round 0 = .ok (.aload_n 0, 1) := by decide +kernel
theorem dX12_round_1 : decode cX12_round 1 = .ok (.iload_n 1, 1) := by decide +kernel
theorem dX12_round_2 : decode cX12_round 2 = .ok (.invokevirtual 209, 3) := by decide +kernel
theorem dX12_round_5 : decode cX12_round 5 = .ok (.iload_n 2, 1) := by decide +kernel
theorem dX12_round_6 : decode cX12_round 6 = .ok (.iconst 2, 1) := by decide +kernel
theorem dX12_round_7 : decode cX12_round 7 = .ok (.if_icmp .ge 7, 3) := by decide +kernel
theorem dX12_round_10 : decode cX12_round 10 = .ok (.iconst (-1), 1) := by decide +kernel
theorem dX12_round_11 : decode cX12_round 11 = .ok (.goto 13, 3) := by decide +kernel
theorem dX12_round_14 : decode cX12_round 14 = .ok (.iload_n 2, 1) := by decide +kernel
theorem dX12_round_15 : decode cX12_round 15 = .ok (.iconst 4, 1) := by decide +kernel
theorem dX12_round_16 : decode cX12_round 16 = .ok (.if_icmp .ge 7, 3) := by decide +kernel
theorem dX12_round_19 : decode cX12_round 19 = .ok (.iconst 0, 1) := by decide +kernel
theorem dX12_round_20 : decode cX12_round 20 = .ok (.goto 4, 3) := by decide +kernel
theorem dX12_round_23 : decode cX12_round 23 = .ok (.iconst 1, 1) := by decide +kernel
theorem dX12_round_24 : decode cX12_round 24 = .ok (.iadd, 1) := by decide +kernel
theorem dX12_round_25 : decode cX12_round 25 = .ok (.istore_n 3, 1) := by decide +kernel
theorem dX12_round_26 : decode cX12_round 26 = .ok (.aload_n 0, 1) := by decide +kernel
theorem dX12_round_27 : decode cX12_round 27 = .ok (.iload_n 1, 1) := by decide +kernel
theorem dX12_round_28 : decode cX12_round 28 = .ok (.invokevirtual 206, 3) := by decide +kernel
theorem dX12_round_31 : decode cX12_round 31 = .ok (.iload_n 2, 1) := by decide +kernel
theorem dX12_round_32 : decode cX12_round 32 = .ok (.iconst 1, 1) := by decide +kernel
theorem dX12_round_33 : decode cX12_round 33 = .ok (.if_icmp .eq 8, 3) := by decide +kernel
theorem dX12_round_36 : decode cX12_round 36 = .ok (.iload_n 2, 1) := by decide +kernel
theorem dX12_round_37 : decode cX12_round 37 = .ok (.iconst 3, 1) := by decide +kernel
theorem dX12_round_38 : decode cX12_round 38 = .ok (.if_icmp .ne 7, 3) := by decide +kernel
theorem dX12_round_41 : decode cX12_round 41 = .ok (.iconst 1, 1) := by decide +kernel
theorem dX12_round_42 : decode cX12_round 42 = .ok (.goto 18, 3) := by decide +kernel
theorem dX12_round_45 : decode cX12_round 45 = .ok (.iload_n 2, 1) := by decide +kernel
theorem dX12_round_46 : decode cX12_round 46 = .ok (.iconst 2, 1) := by decide +kernel
theorem dX12_round_47 : decode cX12_round 47 = .ok (.if_icmp .eq 8, 3) := by decide +kernel
theorem dX12_round_50 : decode cX12_round 50 = .ok (.iload_n 2, 1) := by decide +kernel
theorem dX12_round_51 : decode cX12_round 51 = .ok (.iconst 4, 1) := by decide +kernel
theorem dX12_round_52 : decode cX12_round 52 = .ok (.if_icmp .ne 7, 3) := by decide +kernel
theorem dX12_round_55 : decode cX12_round 55 = .ok (.iconst (-1), 1) := by decide +kernel
theorem dX12_round_56 : decode cX12_round 56 = .ok (.goto 4, 3) := by decide +kernel
theorem dX12_round_59 : decode cX12_round 59 = .ok (.iconst 0, 1) := by decide +kernel
theorem dX12_round_60 : decode cX12_round 60 = .ok (.iadd, 1) := by decide +kernel
theorem dX12_round_61 : decode cX12_round 61 = .ok (.istore 4, 2) := by decide +kernel
theorem dX12_round_63 : decode cX12_round 63 = .ok (.iload_n 3, 1) := by decide +kernel
theorem dX12_round_64 : decode cX12_round 64 = .ok (.i2l, 1) := by decide +kernel
theorem dX12_round_65 : decode cX12_round 65 = .ok (.lconst 0, 1) := by decide +kernel
theorem dX12_round_66 : decode cX12_round 66 = .ok (.aload_n 0, 1) := by decide +kernel
theorem dX12_round_67 : decode cX12_round 67 = .ok (.getfield 9, 3) := by decide +kernel
theorem dX12_round_70 : decode cX12_round 70 = .ok (.iconst 0, 1) := by decide +kernel
theorem dX12_round_71 : decode cX12_round 71 = .ok (.iaload, 1) := by decide +kernel
theorem dX12_round_72 : decode cX12_round 72 = .ok (.iconst 1, 1) := by decide +kernel
theorem dX12_round_73 : decode cX12_round 73 = .ok (.isub, 1) := by decide +kernel
theorem dX12_round_74 : decode cX12_round 74 = .ok (.i2l, 1) := by decide +kernel
theorem dX12_round_75 : decode cX12_round 75 = .ok (.invokestatic 108, 3) := by decide +kernel
theorem dX12_round_78 : decode cX12_round 78 = .ok (.ifCond .eq 36, 3) := by decide +kernel
theorem dX12_round_81 : decode cX12_round 81 = .ok (.iload 4, 2) := by decide +kernel
theorem dX12_round_83 : decode cX12_round 83 = .ok (.i2l, 1) := by decide +kernel
theorem dX12_round_84 : decode cX12_round 84 = .ok (.lconst 0, 1) := by decide +kernel
theorem dX12_round_85 : decode cX12_round 85 = .ok (.aload_n 0, 1) := by decide +kernel
theorem dX12_round_86 : decode cX12_round 86 = .ok (.getfield 9, 3) := by decide +kernel
theorem dX12_round_89 : decode cX12_round 89 = .ok (.iconst 0, 1) := by decide +kernel
theorem dX12_round_90 : decode cX12_round 90 = .ok (.iaload, 1) := by decide +kernel
theorem dX12_round_91 : decode cX12_round 91 = .ok (.iconst 1, 1) := by decide +kernel
theorem dX12_round_92 : decode cX12_round 92 = .ok (.isub, 1) := by decide +kernel
theorem dX12_round_93 : decode cX12_round 93 = .ok (.i2l, 1) := by decide +kernel
theorem dX12_round_94 : decode cX12_round 94 = .ok (.invokestatic 108, 3) := by decide +kernel
theorem dX12_round_97 : decode cX12_round 97 = .ok (.ifCond .eq 17, 3) := by decide +kernel
theorem dX12_round_100 : decode cX12_round 100 = .ok (.aload_n 0, 1) := by decide +kernel
theorem dX12_round_101 : decode cX12_round 101 = .ok (.getfield 9, 3) := by decide +kernel
theorem dX12_round_104 : decode cX12_round 104 = .ok (.iconst 0, 1) := by decide +kernel
theorem dX12_round_105 : decode cX12_round 105 = .ok (.iaload, 1) := by decide +kernel
theorem dX12_round_106 : decode cX12_round 106 = .ok (.iload_n 3, 1) := by decide +kernel
theorem dX12_round_107 : decode cX12_round 107 = .ok (.imul, 1) := by decide +kernel
theorem dX12_round_108 : decode cX12_round 108 = .ok (.iload 4, 2) := by decide +kernel
theorem dX12_round_110 : decode cX12_round 110 = .ok (.iadd, 1) := by decide +kernel
theorem dX12_round_111 : decode cX12_round 111 = .ok (.goto 4, 3) := by decide +kernel
theorem dX12_round_114 : decode cX12_round 114 = .ok (.iconst (-1), 1) := by decide +kernel
theorem dX12_round_115 : decode cX12_round 115 = .ok (.ireturn, 1) := by decide +kernel
theorem dX12_areNeighbours_0 : decode cX12_areNeighbours 0 = .ok (.iconst 0, 1) := by decide +kernel
theorem dX12_areNeighbours_1 : decode cX12_areNeighbours 1 = .ok (.istore_n 3, 1) := by decide +kernel
theorem dX12_areNeighbours_2 : decode cX12_areNeighbours 2 = .ok (.iload_n 3, 1) := by decide +kernel
theorem dX12_areNeighbours_3 : decode cX12_areNeighbours 3 = .ok (.bipush 6, 2) := by decide +kernel
theorem dX12_areNeighbours_5 : decode cX12_areNeighbours 5 = .ok (.if_icmp .ge 21, 3) := by decide +kernel
theorem dX12_areNeighbours_8 : decode cX12_areNeighbours 8 = .ok (.aload_n 0, 1) := by decide +kernel
theorem dX12_areNeighbours_9 : decode cX12_areNeighbours 9 = .ok (.iload_n 1, 1) := by decide +kernel
theorem dX12_areNeighbours_10 : decode cX12_areNeighbours 10 = .ok (.iload_n 3, 1) := by decide +kernel
theorem dX12_areNeighbours_11 : decode cX12_areNeighbours 11 = .ok (.invokevirtual 218, 3) := by decide +kernel
theorem dX12_areNeighbours_14 : decode cX12_areNeighbours 14 = .ok (.iload_n 2, 1) := by decide +kernel
theorem dX12_areNeighbours_15 : decode cX12_areNeighbours 15 = .ok (.if_icmp .ne 5, 3) := by decide +kernel
theorem dX12_areNeighbours_18 : decode cX12_areNeighbours 18 = .ok (.iconst 1, 1) := by decide +kernel
theorem dX12_areNeighbours_19 : decode cX12_areNeighbours 19 = .ok (.ireturn, 1) := by decide +kernel
theorem dX12_areNeighbours_20 : decode cX12_areNeighbours 20 = .ok (.iinc 3 1, 3) := by decide +kernel
theorem dX12_areNeighbours_23 : decode cX12_areNeighbours 23 = .ok (.goto (-21), 3) := by decide +kernel
theorem dX12_areNeighbours_26 : decode cX12_areNeighbours 26 = .ok (.iconst 0, 1) := by decide +kernel
theorem dX12_areNeighbours_27 : decode cX12_areNeighbours 27 = .ok (.ireturn, 1) := by decide +kernel
theorem dX12_edges_0 : decode cX12_edges 0 = .ok (.iload_n 1, 1) := by decide +kernel
theorem dX12_edges_1 : decode cX12_edges 1 = .ok (.ifCond .ne 11, 3) := by decide +kernel
theorem dX12_edges_4 : decode cX12_edges 4 = .ok (.aload_n 0, 1) := by decide +kernel
theorem dX12_edges_5 : decode cX12_edges 5 = .ok (.iload_n 2, 1) := by decide +kernel
theorem dX12_edges_6 : decode cX12_edges 6 = .ok (.invokevirtual 209, 3) := by decide +kernel
theorem dX12_edges_9 : decode cX12_edges 9 = .ok (.goto 8, 3) := by decide +kernel
theorem dX12_edges_12 : decode cX12_edges 12 = .ok (.aload_n 0, 1) := by decide +kernel
theorem dX12_edges_13 : decode cX12_edges 13 = .ok (.iload_n 2, 1) := by decide +kernel
theorem dX12_edges_14 : decode cX12_edges 14 = .ok (.invokevirtual 206, 3) := by decide +kernel
theorem dX12_edges_17 : decode cX12_edges 17 = .ok (.istore_n 3, 1) := by decide +kernel
theorem dX12_edges_18 : decode cX12_edges 18 = .ok (.iload_n 3, 1) := by decide +kernel
theorem dX12_edges_19 : decode cX12_edges 19 = .ok (.ifCond .ne 7, 3) := by decide +kernel
theorem dX12_edges_22 : decode cX12_edges 22 = .ok (.iconst 1, 1) := by decide +kernel
theorem dX12_edges_23 : decode cX12_edges 23 = .ok (.goto 4, 3) := by decide +kernel
theorem dX12_edges_26 : decode cX12_edges 26 = .ok (.iconst 0, 1) := by decide +kernel
theorem dX12_edges_27 : decode cX12_edges 27 = .ok (.iload_n 3, 1) := by decide +kernel
theorem dX12_edges_28 : decode cX12_edges 28 = .ok (.aload_n 0, 1) := by decide +kernel
theorem dX12_edges_29 : decode cX12_edges 29 = .ok (.getfield 9, 3) := by decide +kernel
theorem dX12_edges_32 : decode cX12_edges 32 = .ok (.iconst 0, 1) := by decide +kernel
theorem dX12_edges_33 : decode cX12_edges 33 = .ok (.iaload, 1) := by decide +kernel
theorem dX12_edges_34 : decode cX12_edges 34 = .ok (.iconst 1, 1) := by decide +kernel
theorem dX12_edges_35 : decode cX12_edges 35 = .ok (.isub, 1) := by decide +kernel
theorem dX12_edges_36 : decode cX12_edges 36 = .ok (.if_icmp .ne 7, 3) := by decide +kernel
theorem dX12_edges_39 : decode cX12_edges 39 = .ok (.iconst 2, 1) := by decide +kernel
theorem dX12_edges_40 : decode cX12_edges 40 = .ok (.goto 4, 3) := by decide +kernel
theorem dX12_edges_43 : decode cX12_edges 43 = .ok (.iconst 0, 1) := by decide +kernel
theorem dX12_edges_44 : decode cX12_edges 44 = .ok (.iadd, 1) := by decide +kernel
theorem dX12_edges_45 : decode cX12_edges 45 = .ok (.ireturn, 1) := by decide +kernel
theorem dX12_lowers_0 : decode cX12_lowers 0 = .ok (.aload_n 1, 1) := by decide +kernel
theorem dX12_lowers_1 : decode cX12_lowers 1 = .ok (.iload_n 2, 1) := by decide +kernel
theorem dX12_lowers_2 : decode cX12_lowers 2 = .ok (.iaload, 1) := by decide +kernel
theorem dX12_lowers_3 : decode cX12_lowers 3 = .ok (.aload_n 1, 1) := by decide +kernel
theorem dX12_lowers_4 : decode cX12_lowers 4 = .ok (.iload_n 3, 1) := by decide +kernel
theorem dX12_lowers_5 : decode cX12_lowers 5 = .ok (.iaload, 1) := by decide +kernel
theorem dX12_lowers_6 : decode cX12_lowers 6 = .ok (.invokestatic 222, 3) := by decide +kernel
theorem dX12_lowers_9 : decode cX12_lowers 9 = .ok (.istore 4, 2) := by decide +kernel
theorem dX12_lowers_11 : decode cX12_lowers 11 = .ok (.aload_n 1, 1) := by decide +kernel
theorem dX12_lowers_12 : decode cX12_lowers 12 = .ok (.iload_n 2, 1) := by decide +kernel
theorem dX12_lowers_13 : decode cX12_lowers 13 = .ok (.iaload, 1) := by decide +kernel
theorem dX12_lowers_14 : decode cX12_lowers 14 = .ok (.aload_n 1, 1) := by decide +kernel
theorem dX12_lowers_15 : decode cX12_lowers 15 = .ok (.iload_n 3, 1) := by decide +kernel
theorem dX12_lowers_16 : decode cX12_lowers 16 = .ok (.iaload, 1) := by decide +kernel
theorem dX12_lowers_17 : decode cX12_lowers 17 = .ok (.if_icmp .eq 7, 3) := by decide +kernel
theorem dX12_lowers_20 : decode cX12_lowers 20 = .ok (.iconst 1, 1) := by decide +kernel
theorem dX12_lowers_21 : decode cX12_lowers 21 = .ok (.goto 4, 3) := by decide +kernel
theorem dX12_lowers_24 : decode cX12_lowers 24 = .ok (.iconst 0, 1) := by decide +kernel
theorem dX12_lowers_25 : decode cX12_lowers 25 = .ok (.istore 5, 2) := by decide +kernel
theorem dX12_lowers_27 : decode cX12_lowers 27 = .ok (.aload_n 1, 1) := by decide +kernel
theorem dX12_lowers_28 : decode cX12_lowers 28 = .ok (.iload_n 2, 1) := by decide +kernel
theorem dX12_lowers_29 : decode cX12_lowers 29 = .ok (.iload 4, 2) := by decide +kernel
theorem dX12_lowers_31 : decode cX12_lowers 31 = .ok (.iastore, 1) := by decide +kernel
theorem dX12_lowers_32 : decode cX12_lowers 32 = .ok (.aload_n 1, 1) := by decide +kernel
theorem dX12_lowers_33 : decode cX12_lowers 33 = .ok (.iload_n 3, 1) := by decide +kernel
theorem dX12_lowers_34 : decode cX12_lowers 34 = .ok (.iload 4, 2) := by decide +kernel
theorem dX12_lowers_36 : decode cX12_lowers 36 = .ok (.iastore, 1) := by decide +kernel
theorem dX12_lowers_37 : decode cX12_lowers 37 = .ok (.iload 5, 2) := by decide +kernel
theorem dX12_lowers_39 : decode cX12_lowers 39 = .ok (.ireturn, 1) := by decide +kernel
theorem dX12_marksSelves_0 : decode cX12_marksSelves 0 = .ok (.iconst 0, 1) := by decide +kernel
theorem dX12_marksSelves_1 : decode cX12_marksSelves 1 = .ok (.istore_n 2, 1) := by decide +kernel
theorem dX12_marksSelves_2 : decode cX12_marksSelves 2 = .ok (.iload_n 2, 1) := by decide +kernel
theorem dX12_marksSelves_3 : decode cX12_marksSelves 3 = .ok (.aload_n 0, 1) := by decide +kernel
theorem dX12_marksSelves_4 : decode cX12_marksSelves 4 = .ok (.invokevirtual 212, 3) := by decide +kernel
theorem dX12_marksSelves_7 : decode cX12_marksSelves 7 = .ok (.if_icmp .ge 13, 3) := by decide +kernel
theorem dX12_marksSelves_10 : decode cX12_marksSelves 10 = .ok (.aload_n 1, 1) := by decide +kernel
theorem dX12_marksSelves_11 : decode cX12_marksSelves 11 = .ok (.iload_n 2, 1) := by decide +kernel
theorem dX12_marksSelves_12 : decode cX12_marksSelves 12 = .ok (.iload_n 2, 1) := by decide +kernel
theorem dX12_marksSelves_13 : decode cX12_marksSelves 13 = .ok (.iastore, 1) := by decide +kernel
theorem dX12_marksSelves_14 : decode cX12_marksSelves 14 = .ok (.iinc 2 1, 3) := by decide +kernel
theorem dX12_marksSelves_17 : decode cX12_marksSelves 17 = .ok (.goto (-15), 3) := by decide +kernel
theorem dX12_marksSelves_20 : decode cX12_marksSelves 20 = .ok (.return_, 1) := by decide +kernel
theorem dX12_lowersNeighbours_0 : decode cX12_lowersNeighbours 0 = .ok (.iconst 0, 1) := by decide +kernel
theorem dX12_lowersNeighbours_1 : decode cX12_lowersNeighbours 1 = .ok (.istore_n 2, 1) := by decide +kernel
theorem dX12_lowersNeighbours_2 : decode cX12_lowersNeighbours 2 = .ok (.iconst 0, 1) := by decide +kernel
theorem dX12_lowersNeighbours_3 : decode cX12_lowersNeighbours 3 = .ok (.istore_n 3, 1) := by decide +kernel
theorem dX12_lowersNeighbours_4 : decode cX12_lowersNeighbours 4 = .ok (.iload_n 3, 1) := by decide +kernel
theorem dX12_lowersNeighbours_5 : decode cX12_lowersNeighbours 5 = .ok (.aload_n 0, 1) := by decide +kernel
theorem dX12_lowersNeighbours_6 : decode cX12_lowersNeighbours 6 = .ok (.invokevirtual 212, 3) := by decide +kernel
theorem dX12_lowersNeighbours_9 : decode cX12_lowersNeighbours 9 = .ok (.if_icmp .ge 76, 3) := by decide +kernel
theorem dX12_lowersNeighbours_12 : decode cX12_lowersNeighbours 12 = .ok (.iconst 0, 1) := by decide +kernel
theorem dX12_lowersNeighbours_13 : decode cX12_lowersNeighbours 13 = .ok (.istore 4, 2) := by decide +kernel
theorem dX12_lowersNeighbours_15 : decode cX12_lowersNeighbours 15 = .ok (.iload 4, 2) := by decide +kernel
theorem dX12_lowersNeighbours_17 : decode cX12_lowersNeighbours 17 = .ok (.bipush 6, 2) := by decide +kernel
theorem dX12_lowersNeighbours_19 : decode cX12_lowersNeighbours 19 = .ok (.if_icmp .ge 60, 3) := by decide +kernel
theorem dX12_lowersNeighbours_22 : decode cX12_lowersNeighbours 22 = .ok (.aload_n 0, 1) := by decide +kernel
theorem dX12_lowersNeighbours_23 : decode cX12_lowersNeighbours 23 = .ok (.iload_n 3, 1) := by decide +kernel
theorem dX12_lowersNeighbours_24 : decode cX12_lowersNeighbours 24 = .ok (.iload 4, 2) := by decide +kernel
theorem dX12_lowersNeighbours_26 : decode cX12_lowersNeighbours 26 = .ok (.invokevirtual 218, 3) := by decide +kernel
theorem dX12_lowersNeighbours_29 : decode cX12_lowersNeighbours 29 = .ok (.istore 5, 2) := by decide +kernel
theorem dX12_lowersNeighbours_31 : decode cX12_lowersNeighbours 31 = .ok (.iload 5, 2) := by decide +kernel
theorem dX12_lowersNeighbours_33 : decode cX12_lowersNeighbours 33 = .ok (.iconst (-1), 1) := by decide +kernel
theorem dX12_lowersNeighbours_34 : decode cX12_lowersNeighbours 34 = .ok (.if_icmp .eq 39, 3) := by decide +kernel
theorem dX12_lowersNeighbours_37 : decode cX12_lowersNeighbours 37 = .ok (.aload_n 0, 1) := by decide +kernel
theorem dX12_lowersNeighbours_38 : decode cX12_lowersNeighbours 38 = .ok (.iload_n 3, 1) := by decide +kernel
theorem dX12_lowersNeighbours_39 : decode cX12_lowersNeighbours 39 = .ok (.invokevirtual 215, 3) := by decide +kernel
theorem dX12_lowersNeighbours_42 : decode cX12_lowersNeighbours 42 = .ok (.iconst (-1), 1) := by decide +kernel
theorem dX12_lowersNeighbours_43 : decode cX12_lowersNeighbours 43 = .ok (.if_icmp .eq 30, 3) := by decide +kernel
theorem dX12_lowersNeighbours_46 : decode cX12_lowersNeighbours 46 = .ok (.aload_n 0, 1) := by decide +kernel
theorem dX12_lowersNeighbours_47 : decode cX12_lowersNeighbours 47 = .ok (.iload_n 3, 1) := by decide +kernel
theorem dX12_lowersNeighbours_48 : decode cX12_lowersNeighbours 48 = .ok (.invokevirtual 215, 3) := by decide +kernel
theorem dX12_lowersNeighbours_51 : decode cX12_lowersNeighbours 51 = .ok (.aload_n 0, 1) := by decide +kernel
theorem dX12_lowersNeighbours_52 : decode cX12_lowersNeighbours 52 = .ok (.iload 5, 2) := by decide +kernel
theorem dX12_lowersNeighbours_54 : decode cX12_lowersNeighbours 54 = .ok (.invokevirtual 215, 3) := by decide +kernel
theorem dX12_lowersNeighbours_57 : decode cX12_lowersNeighbours 57 = .ok (.if_icmp .ne 16, 3) := by decide +kernel
theorem dX12_lowersNeighbours_60 : decode cX12_lowersNeighbours 60 = .ok (.aload_n 0, 1) := by decide +kernel
theorem dX12_lowersNeighbours_61 : decode cX12_lowersNeighbours 61 = .ok (.aload_n 1, 1) := by decide +kernel
theorem dX12_lowersNeighbours_62 : decode cX12_lowersNeighbours 62 = .ok (.iload_n 3, 1) := by decide +kernel
theorem dX12_lowersNeighbours_63 : decode cX12_lowersNeighbours 63 = .ok (.iload 5, 2) := by decide +kernel
theorem dX12_lowersNeighbours_65 : decode cX12_lowersNeighbours 65 = .ok (.invokevirtual 227, 3) := by decide +kernel
theorem dX12_lowersNeighbours_68 : decode cX12_lowersNeighbours 68 = .ok (.ifCond .eq 5, 3) := by decide +kernel
theorem dX12_lowersNeighbours_71 : decode cX12_lowersNeighbours 71 = .ok (.iconst 1, 1) := by decide +kernel
theorem dX12_lowersNeighbours_72 : decode cX12_lowersNeighbours 72 = .ok (.istore_n 2, 1) := by decide +kernel
theorem dX12_lowersNeighbours_73 : decode cX12_lowersNeighbours 73 = .ok (.iinc 4 1, 3) := by decide +kernel
theorem dX12_lowersNeighbours_76 : decode cX12_lowersNeighbours 76 = .ok (.goto (-61), 3) := by decide +kernel
theorem dX12_lowersNeighbours_79 : decode cX12_lowersNeighbours 79 = .ok (.iinc 3 1, 3) := by decide +kernel
theorem dX12_lowersNeighbours_82 : decode cX12_lowersNeighbours 82 = .ok (.goto (-78), 3) := by decide +kernel
theorem dX12_lowersNeighbours_85 : decode cX12_lowersNeighbours 85 = .ok (.iload_n 2, 1) := by decide +kernel
theorem dX12_lowersNeighbours_86 : decode cX12_lowersNeighbours 86 = .ok (.ireturn, 1) := by decide +kernel
theorem dX12_laysGroups_0 : decode cX12_laysGroups 0 = .ok (.aload_n 0, 1) := by decide +kernel
theorem dX12_laysGroups_1 : decode cX12_laysGroups 1 = .ok (.aload_n 0, 1) := by decide +kernel
theorem dX12_laysGroups_2 : decode cX12_laysGroups 2 = .ok (.getfield 34, 3) := by decide +kernel
theorem dX12_laysGroups_5 : decode cX12_laysGroups 5 = .ok (.invokevirtual 231, 3) := by decide +kernel
theorem dX12_laysGroups_8 : decode cX12_laysGroups 8 = .ok (.iconst 1, 1) := by decide +kernel
theorem dX12_laysGroups_9 : decode cX12_laysGroups 9 = .ok (.istore_n 1, 1) := by decide +kernel
theorem dX12_laysGroups_10 : decode cX12_laysGroups 10 = .ok (.iload_n 1, 1) := by decide +kernel
theorem dX12_laysGroups_11 : decode cX12_laysGroups 11 = .ok (.ifCond .eq 15, 3) := by decide +kernel
theorem dX12_laysGroups_14 : decode cX12_laysGroups 14 = .ok (.aload_n 0, 1) := by decide +kernel
theorem dX12_laysGroups_15 : decode cX12_laysGroups 15 = .ok (.aload_n 0, 1) := by decide +kernel
theorem dX12_laysGroups_16 : decode cX12_laysGroups 16 = .ok (.getfield 34, 3) := by decide +kernel
theorem dX12_laysGroups_19 : decode cX12_laysGroups 19 = .ok (.invokevirtual 235, 3) := by decide +kernel
theorem dX12_laysGroups_22 : decode cX12_laysGroups 22 = .ok (.istore_n 1, 1) := by decide +kernel
theorem dX12_laysGroups_23 : decode cX12_laysGroups 23 = .ok (.goto (-13), 3) := by decide +kernel
theorem dX12_laysGroups_26 : decode cX12_laysGroups 26 = .ok (.return_, 1) := by decide +kernel
theorem dX12_groupEdges_0 : decode cX12_groupEdges 0 = .ok (.iconst 0, 1) := by decide +kernel
theorem dX12_groupEdges_1 : decode cX12_groupEdges 1 = .ok (.istore_n 3, 1) := by decide +kernel
theorem dX12_groupEdges_2 : decode cX12_groupEdges 2 = .ok (.iconst 0, 1) := by decide +kernel
theorem dX12_groupEdges_3 : decode cX12_groupEdges 3 = .ok (.istore 4, 2) := by decide +kernel
theorem dX12_groupEdges_5 : decode cX12_groupEdges 5 = .ok (.iload 4, 2) := by decide +kernel
theorem dX12_groupEdges_7 : decode cX12_groupEdges 7 = .ok (.aload_n 0, 1) := by decide +kernel
theorem dX12_groupEdges_8 : decode cX12_groupEdges 8 = .ok (.invokevirtual 212, 3) := by decide +kernel
theorem dX12_groupEdges_11 : decode cX12_groupEdges 11 = .ok (.if_icmp .ge 40, 3) := by decide +kernel
theorem dX12_groupEdges_14 : decode cX12_groupEdges 14 = .ok (.aload_n 0, 1) := by decide +kernel
theorem dX12_groupEdges_15 : decode cX12_groupEdges 15 = .ok (.iload 4, 2) := by decide +kernel
theorem dX12_groupEdges_17 : decode cX12_groupEdges 17 = .ok (.invokevirtual 215, 3) := by decide +kernel
theorem dX12_groupEdges_20 : decode cX12_groupEdges 20 = .ok (.iload_n 1, 1) := by decide +kernel
theorem dX12_groupEdges_21 : decode cX12_groupEdges 21 = .ok (.if_icmp .ne 24, 3) := by decide +kernel
theorem dX12_groupEdges_24 : decode cX12_groupEdges 24 = .ok (.aload_n 0, 1) := by decide +kernel
theorem dX12_groupEdges_25 : decode cX12_groupEdges 25 = .ok (.getfield 34, 3) := by decide +kernel
theorem dX12_groupEdges_28 : decode cX12_groupEdges 28 = .ok (.iload 4, 2) := by decide +kernel
theorem dX12_groupEdges_30 : decode cX12_groupEdges 30 = .ok (.iaload, 1) := by decide +kernel
theorem dX12_groupEdges_31 : decode cX12_groupEdges 31 = .ok (.iload_n 2, 1) := by decide +kernel
theorem dX12_groupEdges_32 : decode cX12_groupEdges 32 = .ok (.if_icmp .ne 13, 3) := by decide +kernel
theorem dX12_groupEdges_35 : decode cX12_groupEdges 35 = .ok (.iload_n 3, 1) := by decide +kernel
theorem dX12_groupEdges_36 : decode cX12_groupEdges 36 = .ok (.aload_n 0, 1) := by decide +kernel
theorem dX12_groupEdges_37 : decode cX12_groupEdges 37 = .ok (.iload_n 1, 1) := by decide +kernel
theorem dX12_groupEdges_38 : decode cX12_groupEdges 38 = .ok (.iload 4, 2) := by decide +kernel
theorem dX12_groupEdges_40 : decode cX12_groupEdges 40 = .ok (.invokevirtual 239, 3) := by decide +kernel
theorem dX12_groupEdges_43 : decode cX12_groupEdges 43 = .ok (.ior, 1) := by decide +kernel
theorem dX12_groupEdges_44 : decode cX12_groupEdges 44 = .ok (.istore_n 3, 1) := by decide +kernel
theorem dX12_groupEdges_45 : decode cX12_groupEdges 45 = .ok (.iinc 4 1, 3) := by decide +kernel
theorem dX12_groupEdges_48 : decode cX12_groupEdges 48 = .ok (.goto (-43), 3) := by decide +kernel
theorem dX12_groupEdges_51 : decode cX12_groupEdges 51 = .ok (.iload_n 3, 1) := by decide +kernel
theorem dX12_groupEdges_52 : decode cX12_groupEdges 52 = .ok (.ireturn, 1) := by decide +kernel
theorem dX12_hasJoined_0 : decode cX12_hasJoined 0 = .ok (.aload_n 0, 1) := by decide +kernel
theorem dX12_hasJoined_1 : decode cX12_hasJoined 1 = .ok (.invokevirtual 242, 3) := by decide +kernel
theorem dX12_hasJoined_4 : decode cX12_hasJoined 4 = .ok (.iconst 0, 1) := by decide +kernel
theorem dX12_hasJoined_5 : decode cX12_hasJoined 5 = .ok (.istore_n 2, 1) := by decide +kernel
theorem dX12_hasJoined_6 : decode cX12_hasJoined 6 = .ok (.iload_n 2, 1) := by decide +kernel
theorem dX12_hasJoined_7 : decode cX12_hasJoined 7 = .ok (.aload_n 0, 1) := by decide +kernel
theorem dX12_hasJoined_8 : decode cX12_hasJoined 8 = .ok (.invokevirtual 212, 3) := by decide +kernel
theorem dX12_hasJoined_11 : decode cX12_hasJoined 11 = .ok (.if_icmp .ge 40, 3) := by decide +kernel
theorem dX12_hasJoined_14 : decode cX12_hasJoined 14 = .ok (.aload_n 0, 1) := by decide +kernel
theorem dX12_hasJoined_15 : decode cX12_hasJoined 15 = .ok (.iload_n 2, 1) := by decide +kernel
theorem dX12_hasJoined_16 : decode cX12_hasJoined 16 = .ok (.invokevirtual 215, 3) := by decide +kernel
theorem dX12_hasJoined_19 : decode cX12_hasJoined 19 = .ok (.iload_n 1, 1) := by decide +kernel
theorem dX12_hasJoined_20 : decode cX12_hasJoined 20 = .ok (.if_icmp .ne 25, 3) := by decide +kernel
theorem dX12_hasJoined_23 : decode cX12_hasJoined 23 = .ok (.aload_n 0, 1) := by decide +kernel
theorem dX12_hasJoined_24 : decode cX12_hasJoined 24 = .ok (.getfield 34, 3) := by decide +kernel
theorem dX12_hasJoined_27 : decode cX12_hasJoined 27 = .ok (.iload_n 2, 1) := by decide +kernel
theorem dX12_hasJoined_28 : decode cX12_hasJoined 28 = .ok (.iaload, 1) := by decide +kernel
theorem dX12_hasJoined_29 : decode cX12_hasJoined 29 = .ok (.iload_n 2, 1) := by decide +kernel
theorem dX12_hasJoined_30 : decode cX12_hasJoined 30 = .ok (.if_icmp .ne 15, 3) := by decide +kernel
theorem dX12_hasJoined_33 : decode cX12_hasJoined 33 = .ok (.aload_n 0, 1) := by decide +kernel
theorem dX12_hasJoined_34 : decode cX12_hasJoined 34 = .ok (.iload_n 1, 1) := by decide +kernel
theorem dX12_hasJoined_35 : decode cX12_hasJoined 35 = .ok (.iload_n 2, 1) := by decide +kernel
theorem dX12_hasJoined_36 : decode cX12_hasJoined 36 = .ok (.invokevirtual 245, 3) := by decide +kernel
theorem dX12_hasJoined_39 : decode cX12_hasJoined 39 = .ok (.iconst 3, 1) := by decide +kernel
theorem dX12_hasJoined_40 : decode cX12_hasJoined 40 = .ok (.if_icmp .ne 5, 3) := by decide +kernel
theorem dX12_hasJoined_43 : decode cX12_hasJoined 43 = .ok (.iconst 1, 1) := by decide +kernel
theorem dX12_hasJoined_44 : decode cX12_hasJoined 44 = .ok (.ireturn, 1) := by decide +kernel
theorem dX12_hasJoined_45 : decode cX12_hasJoined 45 = .ok (.iinc 2 1, 3) := by decide +kernel
theorem dX12_hasJoined_48 : decode cX12_hasJoined 48 = .ok (.goto (-42), 3) := by decide +kernel
theorem dX12_hasJoined_51 : decode cX12_hasJoined 51 = .ok (.iconst 0, 1) := by decide +kernel
theorem dX12_hasJoined_52 : decode cX12_hasJoined 52 = .ok (.ireturn, 1) := by decide +kernel
theorem dX12_joined_0 : decode cX12_joined 0 = .ok (.aload_n 0, 1) := by decide +kernel
theorem dX12_joined_1 : decode cX12_joined 1 = .ok (.iconst 0, 1) := by decide +kernel
theorem dX12_joined_2 : decode cX12_joined 2 = .ok (.invokevirtual 248, 3) := by decide +kernel
theorem dX12_joined_5 : decode cX12_joined 5 = .ok (.ifCond .eq 7, 3) := by decide +kernel
theorem dX12_joined_8 : decode cX12_joined 8 = .ok (.iconst 0, 1) := by decide +kernel
theorem dX12_joined_9 : decode cX12_joined 9 = .ok (.goto 16, 3) := by decide +kernel
theorem dX12_joined_12 : decode cX12_joined 12 = .ok (.aload_n 0, 1) := by decide +kernel
theorem dX12_joined_13 : decode cX12_joined 13 = .ok (.iconst 1, 1) := by decide +kernel
theorem dX12_joined_14 : decode cX12_joined 14 = .ok (.invokevirtual 248, 3) := by decide +kernel
theorem dX12_joined_17 : decode cX12_joined 17 = .ok (.ifCond .eq 7, 3) := by decide +kernel
theorem dX12_joined_20 : decode cX12_joined 20 = .ok (.iconst 1, 1) := by decide +kernel
theorem dX12_joined_21 : decode cX12_joined 21 = .ok (.goto 4, 3) := by decide +kernel
theorem dX12_joined_24 : decode cX12_joined 24 = .ok (.iconst (-1), 1) := by decide +kernel
theorem dX12_joined_25 : decode cX12_joined 25 = .ok (.ireturn, 1) := by decide +kernel
theorem dX12_winner_0 : decode cX12_winner 0 = .ok (.aload_n 0, 1) := by decide +kernel
theorem dX12_winner_1 : decode cX12_winner 1 = .ok (.invokevirtual 251, 3) := by decide +kernel
theorem dX12_winner_4 : decode cX12_winner 4 = .ok (.istore_n 1, 1) := by decide +kernel
theorem dX12_winner_5 : decode cX12_winner 5 = .ok (.iload_n 1, 1) := by decide +kernel
theorem dX12_winner_6 : decode cX12_winner 6 = .ok (.iconst (-1), 1) := by decide +kernel
theorem dX12_winner_7 : decode cX12_winner 7 = .ok (.if_icmp .ne 13, 3) := by decide +kernel
theorem dX12_winner_10 : decode cX12_winner 10 = .ok (.aload_n 0, 1) := by decide +kernel
theorem dX12_winner_11 : decode cX12_winner 11 = .ok (.getfield 9, 3) := by decide +kernel
theorem dX12_winner_14 : decode cX12_winner 14 = .ok (.iconst 3, 1) := by decide +kernel
theorem dX12_winner_15 : decode cX12_winner 15 = .ok (.iaload, 1) := by decide +kernel
theorem dX12_winner_16 : decode cX12_winner 16 = .ok (.iconst (-1), 1) := by decide +kernel
theorem dX12_winner_17 : decode cX12_winner 17 = .ok (.if_icmp .ne 7, 3) := by decide +kernel
theorem dX12_winner_20 : decode cX12_winner 20 = .ok (.iload_n 1, 1) := by decide +kernel
theorem dX12_winner_21 : decode cX12_winner 21 = .ok (.goto 11, 3) := by decide +kernel
theorem dX12_winner_24 : decode cX12_winner 24 = .ok (.iconst 1, 1) := by decide +kernel
theorem dX12_winner_25 : decode cX12_winner 25 = .ok (.aload_n 0, 1) := by decide +kernel
theorem dX12_winner_26 : decode cX12_winner 26 = .ok (.getfield 9, 3) := by decide +kernel
theorem dX12_winner_29 : decode cX12_winner 29 = .ok (.iconst 3, 1) := by decide +kernel
theorem dX12_winner_30 : decode cX12_winner 30 = .ok (.iaload, 1) := by decide +kernel
theorem dX12_winner_31 : decode cX12_winner 31 = .ok (.isub, 1) := by decide +kernel
theorem dX12_winner_32 : decode cX12_winner 32 = .ok (.ireturn, 1) := by decide +kernel
theorem dX12_shares_0 : decode cX12_shares 0 = .ok (.aload_n 0, 1) := by decide +kernel
theorem dX12_shares_1 : decode cX12_shares 1 = .ok (.getfield 254, 3) := by decide +kernel
theorem dX12_shares_4 : decode cX12_shares 4 = .ok (.ifCond .ne 11, 3) := by decide +kernel
theorem dX12_shares_7 : decode cX12_shares 7 = .ok (.aload_n 0, 1) := by decide +kernel
theorem dX12_shares_8 : decode cX12_shares 8 = .ok (.iload_n 1, 1) := by decide +kernel
theorem dX12_shares_9 : decode cX12_shares 9 = .ok (.putfield 257, 3) := by decide +kernel
theorem dX12_shares_12 : decode cX12_shares 12 = .ok (.goto 8, 3) := by decide +kernel
theorem dX12_shares_15 : decode cX12_shares 15 = .ok (.aload_n 0, 1) := by decide +kernel
theorem dX12_shares_16 : decode cX12_shares 16 = .ok (.iload_n 1, 1) := by decide +kernel
theorem dX12_shares_17 : decode cX12_shares 17 = .ok (.putfield 260, 3) := by decide +kernel
theorem dX12_shares_20 : decode cX12_shares 20 = .ok (.aload_n 0, 1) := by decide +kernel
theorem dX12_shares_21 : decode cX12_shares 21 = .ok (.dup, 1) := by decide +kernel
theorem dX12_shares_22 : decode cX12_shares 22 = .ok (.getfield 254, 3) := by decide +kernel
theorem dX12_shares_25 : decode cX12_shares 25 = .ok (.iconst 1, 1) := by decide +kernel
theorem dX12_shares_26 : decode cX12_shares 26 = .ok (.iadd, 1) := by decide +kernel
theorem dX12_shares_27 : decode cX12_shares 27 = .ok (.putfield 254, 3) := by decide +kernel
theorem dX12_shares_30 : decode cX12_shares 30 = .ok (.return_, 1) := by decide +kernel
theorem dX12_areCarriers_0 : decode cX12_areCarriers 0 = .ok (.aload_n 0, 1) := by decide +kernel
theorem dX12_areCarriers_1 : decode cX12_areCarriers 1 = .ok (.getfield 254, 3) := by decide +kernel
theorem dX12_areCarriers_4 : decode cX12_areCarriers 4 = .ok (.iconst 2, 1) := by decide +kernel
theorem dX12_areCarriers_5 : decode cX12_areCarriers 5 = .ok (.if_icmp .ne 31, 3) := by decide +kernel
theorem dX12_areCarriers_8 : decode cX12_areCarriers 8 = .ok (.aload_n 0, 1) := by decide +kernel
theorem dX12_areCarriers_9 : decode cX12_areCarriers 9 = .ok (.aload_n 0, 1) := by decide +kernel
theorem dX12_areCarriers_10 : decode cX12_areCarriers 10 = .ok (.getfield 257, 3) := by decide +kernel
theorem dX12_areCarriers_13 : decode cX12_areCarriers 13 = .ok (.invokevirtual 215, 3) := by decide +kernel
theorem dX12_areCarriers_16 : decode cX12_areCarriers 16 = .ok (.iconst (-1), 1) := by decide +kernel
theorem dX12_areCarriers_17 : decode cX12_areCarriers 17 = .ok (.if_icmp .ne 19, 3) := by decide +kernel
theorem dX12_areCarriers_20 : decode cX12_areCarriers 20 = .ok (.aload_n 0, 1) := by decide +kernel
theorem dX12_areCarriers_21 : decode cX12_areCarriers 21 = .ok (.aload_n 0, 1) := by decide +kernel
theorem dX12_areCarriers_22 : decode cX12_areCarriers 22 = .ok (.getfield 260, 3) := by decide +kernel
theorem dX12_areCarriers_25 : decode cX12_areCarriers 25 = .ok (.invokevirtual 215, 3) := by decide +kernel
theorem dX12_areCarriers_28 : decode cX12_areCarriers 28 = .ok (.iconst (-1), 1) := by decide +kernel
theorem dX12_areCarriers_29 : decode cX12_areCarriers 29 = .ok (.if_icmp .ne 7, 3) := by decide +kernel
theorem dX12_areCarriers_32 : decode cX12_areCarriers 32 = .ok (.iconst 1, 1) := by decide +kernel
theorem dX12_areCarriers_33 : decode cX12_areCarriers 33 = .ok (.goto 4, 3) := by decide +kernel
theorem dX12_areCarriers_36 : decode cX12_areCarriers 36 = .ok (.iconst 0, 1) := by decide +kernel
theorem dX12_areCarriers_37 : decode cX12_areCarriers 37 = .ok (.ireturn, 1) := by decide +kernel
theorem dX12_joinsCells_0 : decode cX12_joinsCells 0 = .ok (.iload_n 1, 1) := by decide +kernel
theorem dX12_joinsCells_1 : decode cX12_joinsCells 1 = .ok (.iload_n 2, 1) := by decide +kernel
theorem dX12_joinsCells_2 : decode cX12_joinsCells 2 = .ok (.if_icmp .eq 34, 3) := by decide +kernel
theorem dX12_joinsCells_5 : decode cX12_joinsCells 5 = .ok (.aload_n 0, 1) := by decide +kernel
theorem dX12_joinsCells_6 : decode cX12_joinsCells 6 = .ok (.iload_n 1, 1) := by decide +kernel
theorem dX12_joinsCells_7 : decode cX12_joinsCells 7 = .ok (.invokevirtual 215, 3) := by decide +kernel
theorem dX12_joinsCells_10 : decode cX12_joinsCells 10 = .ok (.iconst (-1), 1) := by decide +kernel
theorem dX12_joinsCells_11 : decode cX12_joinsCells 11 = .ok (.if_icmp .eq 25, 3) := by decide +kernel
theorem dX12_joinsCells_14 : decode cX12_joinsCells 14 = .ok (.aload_n 0, 1) := by decide +kernel
theorem dX12_joinsCells_15 : decode cX12_joinsCells 15 = .ok (.iload_n 1, 1) := by decide +kernel
theorem dX12_joinsCells_16 : decode cX12_joinsCells 16 = .ok (.invokevirtual 215, 3) := by decide +kernel
theorem dX12_joinsCells_19 : decode cX12_joinsCells 19 = .ok (.aload_n 0, 1) := by decide +kernel
theorem dX12_joinsCells_20 : decode cX12_joinsCells 20 = .ok (.iload_n 2, 1) := by decide +kernel
theorem dX12_joinsCells_21 : decode cX12_joinsCells 21 = .ok (.invokevirtual 215, 3) := by decide +kernel
theorem dX12_joinsCells_24 : decode cX12_joinsCells 24 = .ok (.if_icmp .ne 12, 3) := by decide +kernel
theorem dX12_joinsCells_27 : decode cX12_joinsCells 27 = .ok (.aload_n 0, 1) := by decide +kernel
theorem dX12_joinsCells_28 : decode cX12_joinsCells 28 = .ok (.iload_n 1, 1) := by decide +kernel
theorem dX12_joinsCells_29 : decode cX12_joinsCells 29 = .ok (.iload_n 2, 1) := by decide +kernel
theorem dX12_joinsCells_30 : decode cX12_joinsCells 30 = .ok (.invokevirtual 263, 3) := by decide +kernel
theorem dX12_joinsCells_33 : decode cX12_joinsCells 33 = .ok (.ifCond .eq 5, 3) := by decide +kernel
theorem dX12_joinsCells_36 : decode cX12_joinsCells 36 = .ok (.iconst 0, 1) := by decide +kernel
theorem dX12_joinsCells_37 : decode cX12_joinsCells 37 = .ok (.ireturn, 1) := by decide +kernel
theorem dX12_joinsCells_38 : decode cX12_joinsCells 38 = .ok (.aload_n 0, 1) := by decide +kernel
theorem dX12_joinsCells_39 : decode cX12_joinsCells 39 = .ok (.iconst 0, 1) := by decide +kernel
theorem dX12_joinsCells_40 : decode cX12_joinsCells 40 = .ok (.putfield 254, 3) := by decide +kernel
theorem dX12_joinsCells_43 : decode cX12_joinsCells 43 = .ok (.iconst 0, 1) := by decide +kernel
theorem dX12_joinsCells_44 : decode cX12_joinsCells 44 = .ok (.istore_n 3, 1) := by decide +kernel
theorem dX12_joinsCells_45 : decode cX12_joinsCells 45 = .ok (.iload_n 3, 1) := by decide +kernel
theorem dX12_joinsCells_46 : decode cX12_joinsCells 46 = .ok (.aload_n 0, 1) := by decide +kernel
theorem dX12_joinsCells_47 : decode cX12_joinsCells 47 = .ok (.invokevirtual 212, 3) := by decide +kernel
theorem dX12_joinsCells_50 : decode cX12_joinsCells 50 = .ok (.if_icmp .ge 32, 3) := by decide +kernel
theorem dX12_joinsCells_53 : decode cX12_joinsCells 53 = .ok (.aload_n 0, 1) := by decide +kernel
theorem dX12_joinsCells_54 : decode cX12_joinsCells 54 = .ok (.iload_n 1, 1) := by decide +kernel
theorem dX12_joinsCells_55 : decode cX12_joinsCells 55 = .ok (.iload_n 3, 1) := by decide +kernel
theorem dX12_joinsCells_56 : decode cX12_joinsCells 56 = .ok (.invokevirtual 263, 3) := by decide +kernel
theorem dX12_joinsCells_59 : decode cX12_joinsCells 59 = .ok (.ifCond .eq 17, 3) := by decide +kernel
theorem dX12_joinsCells_62 : decode cX12_joinsCells 62 = .ok (.aload_n 0, 1) := by decide +kernel
theorem dX12_joinsCells_63 : decode cX12_joinsCells 63 = .ok (.iload_n 2, 1) := by decide +kernel
theorem dX12_joinsCells_64 : decode cX12_joinsCells 64 = .ok (.iload_n 3, 1) := by decide +kernel
theorem dX12_joinsCells_65 : decode cX12_joinsCells 65 = .ok (.invokevirtual 263, 3) := by decide +kernel
theorem dX12_joinsCells_68 : decode cX12_joinsCells 68 = .ok (.ifCond .eq 8, 3) := by decide +kernel
theorem dX12_joinsCells_71 : decode cX12_joinsCells 71 = .ok (.aload_n 0, 1) := by decide +kernel
theorem dX12_joinsCells_72 : decode cX12_joinsCells 72 = .ok (.iload_n 3, 1) := by decide +kernel
theorem dX12_joinsCells_73 : decode cX12_joinsCells 73 = .ok (.invokevirtual 266, 3) := by decide +kernel
theorem dX12_joinsCells_76 : decode cX12_joinsCells 76 = .ok (.iinc 3 1, 3) := by decide +kernel
theorem dX12_joinsCells_79 : decode cX12_joinsCells 79 = .ok (.goto (-34), 3) := by decide +kernel
theorem dX12_joinsCells_82 : decode cX12_joinsCells 82 = .ok (.aload_n 0, 1) := by decide +kernel
theorem dX12_joinsCells_83 : decode cX12_joinsCells 83 = .ok (.invokevirtual 269, 3) := by decide +kernel
theorem dX12_joinsCells_86 : decode cX12_joinsCells 86 = .ok (.ireturn, 1) := by decide +kernel
theorem dX12_joinsEdge_0 : decode cX12_joinsEdge 0 = .ok (.aload_n 0, 1) := by decide +kernel
theorem dX12_joinsEdge_1 : decode cX12_joinsEdge 1 = .ok (.iload_n 1, 1) := by decide +kernel
theorem dX12_joinsEdge_2 : decode cX12_joinsEdge 2 = .ok (.invokevirtual 215, 3) := by decide +kernel
theorem dX12_joinsEdge_5 : decode cX12_joinsEdge 5 = .ok (.istore_n 3, 1) := by decide +kernel
theorem dX12_joinsEdge_6 : decode cX12_joinsEdge 6 = .ok (.iload_n 3, 1) := by decide +kernel
theorem dX12_joinsEdge_7 : decode cX12_joinsEdge 7 = .ok (.iconst (-1), 1) := by decide +kernel
theorem dX12_joinsEdge_8 : decode cX12_joinsEdge 8 = .ok (.if_icmp .eq 17, 3) := by decide +kernel
theorem dX12_joinsEdge_11 : decode cX12_joinsEdge 11 = .ok (.aload_n 0, 1) := by decide +kernel
theorem dX12_joinsEdge_12 : decode cX12_joinsEdge 12 = .ok (.iload_n 3, 1) := by decide +kernel
theorem dX12_joinsEdge_13 : decode cX12_joinsEdge 13 = .ok (.iload_n 1, 1) := by decide +kernel
theorem dX12_joinsEdge_14 : decode cX12_joinsEdge 14 = .ok (.invokevirtual 239, 3) := by decide +kernel
theorem dX12_joinsEdge_17 : decode cX12_joinsEdge 17 = .ok (.iload_n 2, 1) := by decide +kernel
theorem dX12_joinsEdge_18 : decode cX12_joinsEdge 18 = .ok (.ishr, 1) := by decide +kernel
theorem dX12_joinsEdge_19 : decode cX12_joinsEdge 19 = .ok (.iconst 1, 1) := by decide +kernel
theorem dX12_joinsEdge_20 : decode cX12_joinsEdge 20 = .ok (.iand, 1) := by decide +kernel
theorem dX12_joinsEdge_21 : decode cX12_joinsEdge 21 = .ok (.iconst 1, 1) := by decide +kernel
theorem dX12_joinsEdge_22 : decode cX12_joinsEdge 22 = .ok (.if_icmp .ne 5, 3) := by decide +kernel
theorem dX12_joinsEdge_25 : decode cX12_joinsEdge 25 = .ok (.iconst 0, 1) := by decide +kernel
theorem dX12_joinsEdge_26 : decode cX12_joinsEdge 26 = .ok (.ireturn, 1) := by decide +kernel
theorem dX12_joinsEdge_27 : decode cX12_joinsEdge 27 = .ok (.aload_n 0, 1) := by decide +kernel
theorem dX12_joinsEdge_28 : decode cX12_joinsEdge 28 = .ok (.iconst 0, 1) := by decide +kernel
theorem dX12_joinsEdge_29 : decode cX12_joinsEdge 29 = .ok (.putfield 254, 3) := by decide +kernel
theorem dX12_joinsEdge_32 : decode cX12_joinsEdge 32 = .ok (.iconst 0, 1) := by decide +kernel
theorem dX12_joinsEdge_33 : decode cX12_joinsEdge 33 = .ok (.istore 4, 2) := by decide +kernel
theorem dX12_joinsEdge_35 : decode cX12_joinsEdge 35 = .ok (.iload 4, 2) := by decide +kernel
theorem dX12_joinsEdge_37 : decode cX12_joinsEdge 37 = .ok (.bipush 6, 2) := by decide +kernel
theorem dX12_joinsEdge_39 : decode cX12_joinsEdge 39 = .ok (.if_icmp .ge 45, 3) := by decide +kernel
theorem dX12_joinsEdge_42 : decode cX12_joinsEdge 42 = .ok (.aload_n 0, 1) := by decide +kernel
theorem dX12_joinsEdge_43 : decode cX12_joinsEdge 43 = .ok (.iload_n 1, 1) := by decide +kernel
theorem dX12_joinsEdge_44 : decode cX12_joinsEdge 44 = .ok (.iload 4, 2) := by decide +kernel
theorem dX12_joinsEdge_46 : decode cX12_joinsEdge 46 = .ok (.invokevirtual 218, 3) := by decide +kernel
theorem dX12_joinsEdge_49 : decode cX12_joinsEdge 49 = .ok (.istore 5, 2) := by decide +kernel
theorem dX12_joinsEdge_51 : decode cX12_joinsEdge 51 = .ok (.iload 5, 2) := by decide +kernel
theorem dX12_joinsEdge_53 : decode cX12_joinsEdge 53 = .ok (.iconst (-1), 1) := by decide +kernel
theorem dX12_joinsEdge_54 : decode cX12_joinsEdge 54 = .ok (.if_icmp .eq 24, 3) := by decide +kernel
theorem dX12_joinsEdge_57 : decode cX12_joinsEdge 57 = .ok (.aload_n 0, 1) := by decide +kernel
theorem dX12_joinsEdge_58 : decode cX12_joinsEdge 58 = .ok (.iload_n 3, 1) := by decide +kernel
theorem dX12_joinsEdge_59 : decode cX12_joinsEdge 59 = .ok (.iload 5, 2) := by decide +kernel
theorem dX12_joinsEdge_61 : decode cX12_joinsEdge 61 = .ok (.invokevirtual 239, 3) := by decide +kernel
theorem dX12_joinsEdge_64 : decode cX12_joinsEdge 64 = .ok (.iload_n 2, 1) := by decide +kernel
theorem dX12_joinsEdge_65 : decode cX12_joinsEdge 65 = .ok (.ishr, 1) := by decide +kernel
theorem dX12_joinsEdge_66 : decode cX12_joinsEdge 66 = .ok (.iconst 1, 1) := by decide +kernel
theorem dX12_joinsEdge_67 : decode cX12_joinsEdge 67 = .ok (.iand, 1) := by decide +kernel
theorem dX12_joinsEdge_68 : decode cX12_joinsEdge 68 = .ok (.iconst 1, 1) := by decide +kernel
theorem dX12_joinsEdge_69 : decode cX12_joinsEdge 69 = .ok (.if_icmp .ne 9, 3) := by decide +kernel
theorem dX12_joinsEdge_72 : decode cX12_joinsEdge 72 = .ok (.aload_n 0, 1) := by decide +kernel
theorem dX12_joinsEdge_73 : decode cX12_joinsEdge 73 = .ok (.iload 5, 2) := by decide +kernel
theorem dX12_joinsEdge_75 : decode cX12_joinsEdge 75 = .ok (.invokevirtual 266, 3) := by decide +kernel
theorem dX12_joinsEdge_78 : decode cX12_joinsEdge 78 = .ok (.iinc 4 1, 3) := by decide +kernel
theorem dX12_joinsEdge_81 : decode cX12_joinsEdge 81 = .ok (.goto (-46), 3) := by decide +kernel
theorem dX12_joinsEdge_84 : decode cX12_joinsEdge 84 = .ok (.aload_n 0, 1) := by decide +kernel
theorem dX12_joinsEdge_85 : decode cX12_joinsEdge 85 = .ok (.invokevirtual 269, 3) := by decide +kernel
theorem dX12_joinsEdge_88 : decode cX12_joinsEdge 88 = .ok (.ireturn, 1) := by decide +kernel
theorem dX12_laysBridge_0 : decode cX12_laysBridge 0 = .ok (.aload_n 0, 1) := by decide +kernel
theorem dX12_laysBridge_1 : decode cX12_laysBridge 1 = .ok (.getfield 37, 3) := by decide +kernel
theorem dX12_laysBridge_4 : decode cX12_laysBridge 4 = .ok (.aload_n 0, 1) := by decide +kernel
theorem dX12_laysBridge_5 : decode cX12_laysBridge 5 = .ok (.getfield 272, 3) := by decide +kernel
theorem dX12_laysBridge_8 : decode cX12_laysBridge 8 = .ok (.iload_n 1, 1) := by decide +kernel
theorem dX12_laysBridge_9 : decode cX12_laysBridge 9 = .ok (.iastore, 1) := by decide +kernel
theorem dX12_laysBridge_10 : decode cX12_laysBridge 10 = .ok (.aload_n 0, 1) := by decide +kernel
theorem dX12_laysBridge_11 : decode cX12_laysBridge 11 = .ok (.getfield 40, 3) := by decide +kernel
theorem dX12_laysBridge_14 : decode cX12_laysBridge 14 = .ok (.aload_n 0, 1) := by decide +kernel
theorem dX12_laysBridge_15 : decode cX12_laysBridge 15 = .ok (.getfield 272, 3) := by decide +kernel
theorem dX12_laysBridge_18 : decode cX12_laysBridge 18 = .ok (.iload_n 2, 1) := by decide +kernel
theorem dX12_laysBridge_19 : decode cX12_laysBridge 19 = .ok (.iastore, 1) := by decide +kernel
theorem dX12_laysBridge_20 : decode cX12_laysBridge 20 = .ok (.aload_n 0, 1) := by decide +kernel
theorem dX12_laysBridge_21 : decode cX12_laysBridge 21 = .ok (.getfield 43, 3) := by decide +kernel
theorem dX12_laysBridge_24 : decode cX12_laysBridge 24 = .ok (.aload_n 0, 1) := by decide +kernel
theorem dX12_laysBridge_25 : decode cX12_laysBridge 25 = .ok (.getfield 272, 3) := by decide +kernel
theorem dX12_laysBridge_28 : decode cX12_laysBridge 28 = .ok (.aload_n 0, 1) := by decide +kernel
theorem dX12_laysBridge_29 : decode cX12_laysBridge 29 = .ok (.getfield 257, 3) := by decide +kernel
theorem dX12_laysBridge_32 : decode cX12_laysBridge 32 = .ok (.aload_n 0, 1) := by decide +kernel
theorem dX12_laysBridge_33 : decode cX12_laysBridge 33 = .ok (.getfield 260, 3) := by decide +kernel
theorem dX12_laysBridge_36 : decode cX12_laysBridge 36 = .ok (.invokestatic 222, 3) := by decide +kernel
theorem dX12_laysBridge_39 : decode cX12_laysBridge 39 = .ok (.iastore, 1) := by decide +kernel
theorem dX12_laysBridge_40 : decode cX12_laysBridge 40 = .ok (.aload_n 0, 1) := by decide +kernel
theorem dX12_laysBridge_41 : decode cX12_laysBridge 41 = .ok (.getfield 46, 3) := by decide +kernel
theorem dX12_laysBridge_44 : decode cX12_laysBridge 44 = .ok (.aload_n 0, 1) := by decide +kernel
theorem dX12_laysBridge_45 : decode cX12_laysBridge 45 = .ok (.getfield 272, 3) := by decide +kernel
theorem dX12_laysBridge_48 : decode cX12_laysBridge 48 = .ok (.aload_n 0, 1) := by decide +kernel
theorem dX12_laysBridge_49 : decode cX12_laysBridge 49 = .ok (.getfield 257, 3) := by decide +kernel
theorem dX12_laysBridge_52 : decode cX12_laysBridge 52 = .ok (.aload_n 0, 1) := by decide +kernel
theorem dX12_laysBridge_53 : decode cX12_laysBridge 53 = .ok (.getfield 260, 3) := by decide +kernel
theorem dX12_laysBridge_56 : decode cX12_laysBridge 56 = .ok (.invokestatic 275, 3) := by decide +kernel
theorem dX12_laysBridge_59 : decode cX12_laysBridge 59 = .ok (.iastore, 1) := by decide +kernel
theorem dX12_laysBridge_60 : decode cX12_laysBridge 60 = .ok (.aload_n 0, 1) := by decide +kernel
theorem dX12_laysBridge_61 : decode cX12_laysBridge 61 = .ok (.getfield 52, 3) := by decide +kernel
theorem dX12_laysBridge_64 : decode cX12_laysBridge 64 = .ok (.aload_n 0, 1) := by decide +kernel
theorem dX12_laysBridge_65 : decode cX12_laysBridge 65 = .ok (.getfield 257, 3) := by decide +kernel
theorem dX12_laysBridge_68 : decode cX12_laysBridge 68 = .ok (.baload, 1) := by decide +kernel
theorem dX12_laysBridge_69 : decode cX12_laysBridge 69 = .ok (.ifCond .ne 19, 3) := by decide +kernel
theorem dX12_laysBridge_72 : decode cX12_laysBridge 72 = .ok (.aload_n 0, 1) := by decide +kernel
theorem dX12_laysBridge_73 : decode cX12_laysBridge 73 = .ok (.getfield 52, 3) := by decide +kernel
theorem dX12_laysBridge_76 : decode cX12_laysBridge 76 = .ok (.aload_n 0, 1) := by decide +kernel
theorem dX12_laysBridge_77 : decode cX12_laysBridge 77 = .ok (.getfield 260, 3) := by decide +kernel
theorem dX12_laysBridge_80 : decode cX12_laysBridge 80 = .ok (.baload, 1) := by decide +kernel
theorem dX12_laysBridge_81 : decode cX12_laysBridge 81 = .ok (.ifCond .ne 7, 3) := by decide +kernel
theorem dX12_laysBridge_84 : decode cX12_laysBridge 84 = .ok (.iconst 1, 1) := by decide +kernel
theorem dX12_laysBridge_85 : decode cX12_laysBridge 85 = .ok (.goto 4, 3) := by decide +kernel
theorem dX12_laysBridge_88 : decode cX12_laysBridge 88 = .ok (.iconst 0, 1) := by decide +kernel
theorem dX12_laysBridge_89 : decode cX12_laysBridge 89 = .ok (.istore_n 3, 1) := by decide +kernel
theorem dX12_laysBridge_90 : decode cX12_laysBridge 90 = .ok (.aload_n 0, 1) := by decide +kernel
theorem dX12_laysBridge_91 : decode cX12_laysBridge 91 = .ok (.getfield 49, 3) := by decide +kernel
theorem dX12_laysBridge_94 : decode cX12_laysBridge 94 = .ok (.aload_n 0, 1) := by decide +kernel
theorem dX12_laysBridge_95 : decode cX12_laysBridge 95 = .ok (.getfield 272, 3) := by decide +kernel
theorem dX12_laysBridge_98 : decode cX12_laysBridge 98 = .ok (.iload_n 3, 1) := by decide +kernel
theorem dX12_laysBridge_99 : decode cX12_laysBridge 99 = .ok (.bastore, 1) := by decide +kernel
theorem dX12_laysBridge_100 : decode cX12_laysBridge 100 = .ok (.aload_n 0, 1) := by decide +kernel
theorem dX12_laysBridge_101 : decode cX12_laysBridge 101 = .ok (.getfield 52, 3) := by decide +kernel
theorem dX12_laysBridge_104 : decode cX12_laysBridge 104 = .ok (.aload_n 0, 1) := by decide +kernel
theorem dX12_laysBridge_105 : decode cX12_laysBridge 105 = .ok (.getfield 257, 3) := by decide +kernel
theorem dX12_laysBridge_108 : decode cX12_laysBridge 108 = .ok (.aload_n 0, 1) := by decide +kernel
theorem dX12_laysBridge_109 : decode cX12_laysBridge 109 = .ok (.getfield 52, 3) := by decide +kernel
theorem dX12_laysBridge_112 : decode cX12_laysBridge 112 = .ok (.aload_n 0, 1) := by decide +kernel
theorem dX12_laysBridge_113 : decode cX12_laysBridge 113 = .ok (.getfield 257, 3) := by decide +kernel
theorem dX12_laysBridge_116 : decode cX12_laysBridge 116 = .ok (.baload, 1) := by decide +kernel
theorem dX12_laysBridge_117 : decode cX12_laysBridge 117 = .ok (.ifCond .ne 7, 3) := by decide +kernel
theorem dX12_laysBridge_120 : decode cX12_laysBridge 120 = .ok (.iload_n 3, 1) := by decide +kernel
theorem dX12_laysBridge_121 : decode cX12_laysBridge 121 = .ok (.ifCond .eq 7, 3) := by decide +kernel
theorem dX12_laysBridge_124 : decode cX12_laysBridge 124 = .ok (.iconst 1, 1) := by decide +kernel
theorem dX12_laysBridge_125 : decode cX12_laysBridge 125 = .ok (.goto 4, 3) := by decide +kernel
theorem dX12_laysBridge_128 : decode cX12_laysBridge 128 = .ok (.iconst 0, 1) := by decide +kernel
theorem dX12_laysBridge_129 : decode cX12_laysBridge 129 = .ok (.bastore, 1) := by decide +kernel
theorem dX12_laysBridge_130 : decode cX12_laysBridge 130 = .ok (.aload_n 0, 1) := by decide +kernel
theorem dX12_laysBridge_131 : decode cX12_laysBridge 131 = .ok (.getfield 52, 3) := by decide +kernel
theorem dX12_laysBridge_134 : decode cX12_laysBridge 134 = .ok (.aload_n 0, 1) := by decide +kernel
theorem dX12_laysBridge_135 : decode cX12_laysBridge 135 = .ok (.getfield 260, 3) := by decide +kernel
theorem dX12_laysBridge_138 : decode cX12_laysBridge 138 = .ok (.aload_n 0, 1) := by decide +kernel
theorem dX12_laysBridge_139 : decode cX12_laysBridge 139 = .ok (.getfield 52, 3) := by decide +kernel
theorem dX12_laysBridge_142 : decode cX12_laysBridge 142 = .ok (.aload_n 0, 1) := by decide +kernel
theorem dX12_laysBridge_143 : decode cX12_laysBridge 143 = .ok (.getfield 260, 3) := by decide +kernel
theorem dX12_laysBridge_146 : decode cX12_laysBridge 146 = .ok (.baload, 1) := by decide +kernel
theorem dX12_laysBridge_147 : decode cX12_laysBridge 147 = .ok (.ifCond .ne 7, 3) := by decide +kernel
theorem dX12_laysBridge_150 : decode cX12_laysBridge 150 = .ok (.iload_n 3, 1) := by decide +kernel
theorem dX12_laysBridge_151 : decode cX12_laysBridge 151 = .ok (.ifCond .eq 7, 3) := by decide +kernel
theorem dX12_laysBridge_154 : decode cX12_laysBridge 154 = .ok (.iconst 1, 1) := by decide +kernel
theorem dX12_laysBridge_155 : decode cX12_laysBridge 155 = .ok (.goto 4, 3) := by decide +kernel
theorem dX12_laysBridge_158 : decode cX12_laysBridge 158 = .ok (.iconst 0, 1) := by decide +kernel
theorem dX12_laysBridge_159 : decode cX12_laysBridge 159 = .ok (.bastore, 1) := by decide +kernel
theorem dX12_laysBridge_160 : decode cX12_laysBridge 160 = .ok (.aload_n 0, 1) := by decide +kernel
theorem dX12_laysBridge_161 : decode cX12_laysBridge 161 = .ok (.dup, 1) := by decide +kernel
theorem dX12_laysBridge_162 : decode cX12_laysBridge 162 = .ok (.getfield 272, 3) := by decide +kernel
theorem dX12_laysBridge_165 : decode cX12_laysBridge 165 = .ok (.iconst 1, 1) := by decide +kernel
theorem dX12_laysBridge_166 : decode cX12_laysBridge 166 = .ok (.iadd, 1) := by decide +kernel
theorem dX12_laysBridge_167 : decode cX12_laysBridge 167 = .ok (.putfield 272, 3) := by decide +kernel
theorem dX12_laysBridge_170 : decode cX12_laysBridge 170 = .ok (.return_, 1) := by decide +kernel
theorem dX12_laysBridges_0 : decode cX12_laysBridges 0 = .ok (.aload_n 0, 1) := by decide +kernel
theorem dX12_laysBridges_1 : decode cX12_laysBridges 1 = .ok (.iconst 0, 1) := by decide +kernel
theorem dX12_laysBridges_2 : decode cX12_laysBridges 2 = .ok (.putfield 272, 3) := by decide +kernel
theorem dX12_laysBridges_5 : decode cX12_laysBridges 5 = .ok (.iconst 0, 1) := by decide +kernel
theorem dX12_laysBridges_6 : decode cX12_laysBridges 6 = .ok (.istore_n 2, 1) := by decide +kernel
theorem dX12_laysBridges_7 : decode cX12_laysBridges 7 = .ok (.iload_n 2, 1) := by decide +kernel
theorem dX12_laysBridges_8 : decode cX12_laysBridges 8 = .ok (.bipush 81, 2) := by decide +kernel
theorem dX12_laysBridges_10 : decode cX12_laysBridges 10 = .ok (.if_icmp .ge 16, 3) := by decide +kernel
theorem dX12_laysBridges_13 : decode cX12_laysBridges 13 = .ok (.aload_n 0, 1) := by decide +kernel
theorem dX12_laysBridges_14 : decode cX12_laysBridges 14 = .ok (.getfield 52, 3) := by decide +kernel
theorem dX12_laysBridges_17 : decode cX12_laysBridges 17 = .ok (.iload_n 2, 1) := by decide +kernel
theorem dX12_laysBridges_18 : decode cX12_laysBridges 18 = .ok (.iconst 0, 1) := by decide +kernel
theorem dX12_laysBridges_19 : decode cX12_laysBridges 19 = .ok (.bastore, 1) := by decide +kernel
theorem dX12_laysBridges_20 : decode cX12_laysBridges 20 = .ok (.iinc 2 1, 3) := by decide +kernel
theorem dX12_laysBridges_23 : decode cX12_laysBridges 23 = .ok (.goto (-16), 3) := by decide +kernel
theorem dX12_laysBridges_26 : decode cX12_laysBridges 26 = .ok (.iconst 0, 1) := by decide +kernel
theorem dX12_laysBridges_27 : decode cX12_laysBridges 27 = .ok (.istore_n 2, 1) := by decide +kernel
theorem dX12_laysBridges_28 : decode cX12_laysBridges 28 = .ok (.iload_n 2, 1) := by decide +kernel
theorem dX12_laysBridges_29 : decode cX12_laysBridges 29 = .ok (.aload_n 0, 1) := by decide +kernel
theorem dX12_laysBridges_30 : decode cX12_laysBridges 30 = .ok (.invokevirtual 212, 3) := by decide +kernel
theorem dX12_laysBridges_33 : decode cX12_laysBridges 33 = .ok (.if_icmp .ge 85, 3) := by decide +kernel
theorem dX12_laysBridges_36 : decode cX12_laysBridges 36 = .ok (.aload_n 0, 1) := by decide +kernel
theorem dX12_laysBridges_37 : decode cX12_laysBridges 37 = .ok (.iload_n 2, 1) := by decide +kernel
theorem dX12_laysBridges_38 : decode cX12_laysBridges 38 = .ok (.invokevirtual 215, 3) := by decide +kernel
theorem dX12_laysBridges_41 : decode cX12_laysBridges 41 = .ok (.iload_n 1, 1) := by decide +kernel
theorem dX12_laysBridges_42 : decode cX12_laysBridges 42 = .ok (.if_icmp .eq 6, 3) := by decide +kernel
theorem dX12_laysBridges_45 : decode cX12_laysBridges 45 = .ok (.goto 67, 3) := by decide +kernel
theorem dX12_laysBridges_48 : decode cX12_laysBridges 48 = .ok (.iload_n 2, 1) := by decide +kernel
theorem dX12_laysBridges_49 : decode cX12_laysBridges 49 = .ok (.iconst 1, 1) := by decide +kernel
theorem dX12_laysBridges_50 : decode cX12_laysBridges 50 = .ok (.iadd, 1) := by decide +kernel
theorem dX12_laysBridges_51 : decode cX12_laysBridges 51 = .ok (.istore_n 3, 1) := by decide +kernel
theorem dX12_laysBridges_52 : decode cX12_laysBridges 52 = .ok (.iload_n 3, 1) := by decide +kernel
theorem dX12_laysBridges_53 : decode cX12_laysBridges 53 = .ok (.aload_n 0, 1) := by decide +kernel
theorem dX12_laysBridges_54 : decode cX12_laysBridges 54 = .ok (.invokevirtual 212, 3) := by decide +kernel
theorem dX12_laysBridges_57 : decode cX12_laysBridges 57 = .ok (.if_icmp .ge 24, 3) := by decide +kernel
theorem dX12_laysBridges_60 : decode cX12_laysBridges 60 = .ok (.aload_n 0, 1) := by decide +kernel
theorem dX12_laysBridges_61 : decode cX12_laysBridges 61 = .ok (.iload_n 2, 1) := by decide +kernel
theorem dX12_laysBridges_62 : decode cX12_laysBridges 62 = .ok (.iload_n 3, 1) := by decide +kernel
theorem dX12_laysBridges_63 : decode cX12_laysBridges 63 = .ok (.invokevirtual 278, 3) := by decide +kernel
theorem dX12_laysBridges_66 : decode cX12_laysBridges 66 = .ok (.ifCond .eq 9, 3) := by decide +kernel
theorem dX12_laysBridges_69 : decode cX12_laysBridges 69 = .ok (.aload_n 0, 1) := by decide +kernel
theorem dX12_laysBridges_70 : decode cX12_laysBridges 70 = .ok (.iload_n 2, 1) := by decide +kernel
theorem dX12_laysBridges_71 : decode cX12_laysBridges 71 = .ok (.iload_n 3, 1) := by decide +kernel
theorem dX12_laysBridges_72 : decode cX12_laysBridges 72 = .ok (.invokevirtual 281, 3) := by decide +kernel
theorem dX12_laysBridges_75 : decode cX12_laysBridges 75 = .ok (.iinc 3 1, 3) := by decide +kernel
theorem dX12_laysBridges_78 : decode cX12_laysBridges 78 = .ok (.goto (-26), 3) := by decide +kernel
theorem dX12_laysBridges_81 : decode cX12_laysBridges 81 = .ok (.iconst 0, 1) := by decide +kernel
theorem dX12_laysBridges_82 : decode cX12_laysBridges 82 = .ok (.istore_n 3, 1) := by decide +kernel
theorem dX12_laysBridges_83 : decode cX12_laysBridges 83 = .ok (.iload_n 3, 1) := by decide +kernel
theorem dX12_laysBridges_84 : decode cX12_laysBridges 84 = .ok (.iconst 2, 1) := by decide +kernel
theorem dX12_laysBridges_85 : decode cX12_laysBridges 85 = .ok (.if_icmp .ge 27, 3) := by decide +kernel
theorem dX12_laysBridges_88 : decode cX12_laysBridges 88 = .ok (.aload_n 0, 1) := by decide +kernel
theorem dX12_laysBridges_89 : decode cX12_laysBridges 89 = .ok (.iload_n 2, 1) := by decide +kernel
theorem dX12_laysBridges_90 : decode cX12_laysBridges 90 = .ok (.iload_n 3, 1) := by decide +kernel
theorem dX12_laysBridges_91 : decode cX12_laysBridges 91 = .ok (.invokevirtual 285, 3) := by decide +kernel
theorem dX12_laysBridges_94 : decode cX12_laysBridges 94 = .ok (.ifCond .eq 12, 3) := by decide +kernel
theorem dX12_laysBridges_97 : decode cX12_laysBridges 97 = .ok (.aload_n 0, 1) := by decide +kernel
theorem dX12_laysBridges_98 : decode cX12_laysBridges 98 = .ok (.iload_n 2, 1) := by decide +kernel
theorem dX12_laysBridges_99 : decode cX12_laysBridges 99 = .ok (.bipush (-10), 2) := by decide +kernel
theorem dX12_laysBridges_101 : decode cX12_laysBridges 101 = .ok (.iload_n 3, 1) := by decide +kernel
theorem dX12_laysBridges_102 : decode cX12_laysBridges 102 = .ok (.isub, 1) := by decide +kernel
theorem dX12_laysBridges_103 : decode cX12_laysBridges 103 = .ok (.invokevirtual 281, 3) := by decide +kernel
theorem dX12_laysBridges_106 : decode cX12_laysBridges 106 = .ok (.iinc 3 1, 3) := by decide +kernel
theorem dX12_laysBridges_109 : decode cX12_laysBridges 109 = .ok (.goto (-26), 3) := by decide +kernel
theorem dX12_laysBridges_112 : decode cX12_laysBridges 112 = .ok (.iinc 2 1, 3) := by decide +kernel
theorem dX12_laysBridges_115 : decode cX12_laysBridges 115 = .ok (.goto (-87), 3) := by decide +kernel
theorem dX12_laysBridges_118 : decode cX12_laysBridges 118 = .ok (.return_, 1) := by decide +kernel
theorem dX12_laysChains_0 : decode cX12_laysChains 0 = .ok (.aload_n 0, 1) := by decide +kernel
theorem dX12_laysChains_1 : decode cX12_laysChains 1 = .ok (.iload_n 1, 1) := by decide +kernel
theorem dX12_laysChains_2 : decode cX12_laysChains 2 = .ok (.invokevirtual 288, 3) := by decide +kernel
theorem dX12_laysChains_5 : decode cX12_laysChains 5 = .ok (.aload_n 0, 1) := by decide +kernel
theorem dX12_laysChains_6 : decode cX12_laysChains 6 = .ok (.aload_n 0, 1) := by decide +kernel
theorem dX12_laysChains_7 : decode cX12_laysChains 7 = .ok (.getfield 55, 3) := by decide +kernel
theorem dX12_laysChains_10 : decode cX12_laysChains 10 = .ok (.invokevirtual 231, 3) := by decide +kernel
theorem dX12_laysChains_13 : decode cX12_laysChains 13 = .ok (.iconst 1, 1) := by decide +kernel
theorem dX12_laysChains_14 : decode cX12_laysChains 14 = .ok (.istore_n 2, 1) := by decide +kernel
theorem dX12_laysChains_15 : decode cX12_laysChains 15 = .ok (.iload_n 2, 1) := by decide +kernel
theorem dX12_laysChains_16 : decode cX12_laysChains 16 = .ok (.ifCond .eq 74, 3) := by decide +kernel
theorem dX12_laysChains_19 : decode cX12_laysChains 19 = .ok (.aload_n 0, 1) := by decide +kernel
theorem dX12_laysChains_20 : decode cX12_laysChains 20 = .ok (.aload_n 0, 1) := by decide +kernel
theorem dX12_laysChains_21 : decode cX12_laysChains 21 = .ok (.getfield 55, 3) := by decide +kernel
theorem dX12_laysChains_24 : decode cX12_laysChains 24 = .ok (.invokevirtual 235, 3) := by decide +kernel
theorem dX12_laysChains_27 : decode cX12_laysChains 27 = .ok (.istore_n 2, 1) := by decide +kernel
theorem dX12_laysChains_28 : decode cX12_laysChains 28 = .ok (.iconst 0, 1) := by decide +kernel
theorem dX12_laysChains_29 : decode cX12_laysChains 29 = .ok (.istore_n 3, 1) := by decide +kernel
theorem dX12_laysChains_30 : decode cX12_laysChains 30 = .ok (.iload_n 3, 1) := by decide +kernel
theorem dX12_laysChains_31 : decode cX12_laysChains 31 = .ok (.aload_n 0, 1) := by decide +kernel
theorem dX12_laysChains_32 : decode cX12_laysChains 32 = .ok (.getfield 272, 3) := by decide +kernel
theorem dX12_laysChains_35 : decode cX12_laysChains 35 = .ok (.if_icmp .ge 52, 3) := by decide +kernel
theorem dX12_laysChains_38 : decode cX12_laysChains 38 = .ok (.aload_n 0, 1) := by decide +kernel
theorem dX12_laysChains_39 : decode cX12_laysChains 39 = .ok (.getfield 49, 3) := by decide +kernel
theorem dX12_laysChains_42 : decode cX12_laysChains 42 = .ok (.iload_n 3, 1) := by decide +kernel
theorem dX12_laysChains_43 : decode cX12_laysChains 43 = .ok (.baload, 1) := by decide +kernel
theorem dX12_laysChains_44 : decode cX12_laysChains 44 = .ok (.ifCond .eq 37, 3) := by decide +kernel
theorem dX12_laysChains_47 : decode cX12_laysChains 47 = .ok (.aload_n 0, 1) := by decide +kernel
theorem dX12_laysChains_48 : decode cX12_laysChains 48 = .ok (.getfield 40, 3) := by decide +kernel
theorem dX12_laysChains_51 : decode cX12_laysChains 51 = .ok (.iload_n 3, 1) := by decide +kernel
theorem dX12_laysChains_52 : decode cX12_laysChains 52 = .ok (.iaload, 1) := by decide +kernel
theorem dX12_laysChains_53 : decode cX12_laysChains 53 = .ok (.ifCond .lt 28, 3) := by decide +kernel
theorem dX12_laysChains_56 : decode cX12_laysChains 56 = .ok (.aload_n 0, 1) := by decide +kernel
theorem dX12_laysChains_57 : decode cX12_laysChains 57 = .ok (.aload_n 0, 1) := by decide +kernel
theorem dX12_laysChains_58 : decode cX12_laysChains 58 = .ok (.getfield 55, 3) := by decide +kernel
theorem dX12_laysChains_61 : decode cX12_laysChains 61 = .ok (.aload_n 0, 1) := by decide +kernel
theorem dX12_laysChains_62 : decode cX12_laysChains 62 = .ok (.getfield 37, 3) := by decide +kernel
theorem dX12_laysChains_65 : decode cX12_laysChains 65 = .ok (.iload_n 3, 1) := by decide +kernel
theorem dX12_laysChains_66 : decode cX12_laysChains 66 = .ok (.iaload, 1) := by decide +kernel
theorem dX12_laysChains_67 : decode cX12_laysChains 67 = .ok (.aload_n 0, 1) := by decide +kernel
theorem dX12_laysChains_68 : decode cX12_laysChains 68 = .ok (.getfield 40, 3) := by decide +kernel
theorem dX12_laysChains_71 : decode cX12_laysChains 71 = .ok (.iload_n 3, 1) := by decide +kernel
theorem dX12_laysChains_72 : decode cX12_laysChains 72 = .ok (.iaload, 1) := by decide +kernel
theorem dX12_laysChains_73 : decode cX12_laysChains 73 = .ok (.invokevirtual 227, 3) := by decide +kernel
theorem dX12_laysChains_76 : decode cX12_laysChains 76 = .ok (.ifCond .eq 5, 3) := by decide +kernel
theorem dX12_laysChains_79 : decode cX12_laysChains 79 = .ok (.iconst 1, 1) := by decide +kernel
theorem dX12_laysChains_80 : decode cX12_laysChains 80 = .ok (.istore_n 2, 1) := by decide +kernel
theorem dX12_laysChains_81 : decode cX12_laysChains 81 = .ok (.iinc 3 1, 3) := by decide +kernel
theorem dX12_laysChains_84 : decode cX12_laysChains 84 = .ok (.goto (-54), 3) := by decide +kernel
theorem dX12_laysChains_87 : decode cX12_laysChains 87 = .ok (.goto (-72), 3) := by decide +kernel
theorem dX12_laysChains_90 : decode cX12_laysChains 90 = .ok (.return_, 1) := by decide +kernel
theorem dX12_chainBridges_0 : decode cX12_chainBridges 0 = .ok (.iconst 0, 1) := by decide +kernel
theorem dX12_chainBridges_1 : decode cX12_chainBridges 1 = .ok (.istore_n 2, 1) := by decide +kernel
theorem dX12_chainBridges_2 : decode cX12_chainBridges 2 = .ok (.iconst 0, 1) := by decide +kernel
theorem dX12_chainBridges_3 : decode cX12_chainBridges 3 = .ok (.istore_n 3, 1) := by decide +kernel
theorem dX12_chainBridges_4 : decode cX12_chainBridges 4 = .ok (.iload_n 3, 1) := by decide +kernel
theorem dX12_chainBridges_5 : decode cX12_chainBridges 5 = .ok (.aload_n 0, 1) := by decide +kernel
theorem dX12_chainBridges_6 : decode cX12_chainBridges 6 = .ok (.getfield 272, 3) := by decide +kernel
theorem dX12_chainBridges_9 : decode cX12_chainBridges 9 = .ok (.if_icmp .ge 41, 3) := by decide +kernel
theorem dX12_chainBridges_12 : decode cX12_chainBridges 12 = .ok (.iload_n 2, 1) := by decide +kernel
theorem dX12_chainBridges_13 : decode cX12_chainBridges 13 = .ok (.aload_n 0, 1) := by decide +kernel
theorem dX12_chainBridges_14 : decode cX12_chainBridges 14 = .ok (.getfield 49, 3) := by decide +kernel
theorem dX12_chainBridges_17 : decode cX12_chainBridges 17 = .ok (.iload_n 3, 1) := by decide +kernel
theorem dX12_chainBridges_18 : decode cX12_chainBridges 18 = .ok (.baload, 1) := by decide +kernel
theorem dX12_chainBridges_19 : decode cX12_chainBridges 19 = .ok (.ifCond .eq 22, 3) := by decide +kernel
theorem dX12_chainBridges_22 : decode cX12_chainBridges 22 = .ok (.aload_n 0, 1) := by decide +kernel
theorem dX12_chainBridges_23 : decode cX12_chainBridges 23 = .ok (.getfield 55, 3) := by decide +kernel
theorem dX12_chainBridges_26 : decode cX12_chainBridges 26 = .ok (.aload_n 0, 1) := by decide +kernel
theorem dX12_chainBridges_27 : decode cX12_chainBridges 27 = .ok (.getfield 37, 3) := by decide +kernel
theorem dX12_chainBridges_30 : decode cX12_chainBridges 30 = .ok (.iload_n 3, 1) := by decide +kernel
theorem dX12_chainBridges_31 : decode cX12_chainBridges 31 = .ok (.iaload, 1) := by decide +kernel
theorem dX12_chainBridges_32 : decode cX12_chainBridges 32 = .ok (.iaload, 1) := by decide +kernel
theorem dX12_chainBridges_33 : decode cX12_chainBridges 33 = .ok (.iload_n 1, 1) := by decide +kernel
theorem dX12_chainBridges_34 : decode cX12_chainBridges 34 = .ok (.if_icmp .ne 7, 3) := by decide +kernel
theorem dX12_chainBridges_37 : decode cX12_chainBridges 37 = .ok (.iconst 1, 1) := by decide +kernel
theorem dX12_chainBridges_38 : decode cX12_chainBridges 38 = .ok (.goto 4, 3) := by decide +kernel
theorem dX12_chainBridges_41 : decode cX12_chainBridges 41 = .ok (.iconst 0, 1) := by decide +kernel
theorem dX12_chainBridges_42 : decode cX12_chainBridges 42 = .ok (.iadd, 1) := by decide +kernel
theorem dX12_chainBridges_43 : decode cX12_chainBridges 43 = .ok (.istore_n 2, 1) := by decide +kernel
theorem dX12_chainBridges_44 : decode cX12_chainBridges 44 = .ok (.iinc 3 1, 3) := by decide +kernel
theorem dX12_chainBridges_47 : decode cX12_chainBridges 47 = .ok (.goto (-43), 3) := by decide +kernel
theorem dX12_chainBridges_50 : decode cX12_chainBridges 50 = .ok (.iload_n 2, 1) := by decide +kernel
theorem dX12_chainBridges_51 : decode cX12_chainBridges 51 = .ok (.ireturn, 1) := by decide +kernel
theorem dX12_chainStones_0 : decode cX12_chainStones 0 = .ok (.iconst 0, 1) := by decide +kernel
theorem dX12_chainStones_1 : decode cX12_chainStones 1 = .ok (.istore_n 3, 1) := by decide +kernel
theorem dX12_chainStones_2 : decode cX12_chainStones 2 = .ok (.iconst 0, 1) := by decide +kernel
theorem dX12_chainStones_3 : decode cX12_chainStones 3 = .ok (.istore 4, 2) := by decide +kernel
theorem dX12_chainStones_5 : decode cX12_chainStones 5 = .ok (.iload 4, 2) := by decide +kernel
theorem dX12_chainStones_7 : decode cX12_chainStones 7 = .ok (.aload_n 0, 1) := by decide +kernel
theorem dX12_chainStones_8 : decode cX12_chainStones 8 = .ok (.invokevirtual 212, 3) := by decide +kernel
theorem dX12_chainStones_11 : decode cX12_chainStones 11 = .ok (.if_icmp .ge 38, 3) := by decide +kernel
theorem dX12_chainStones_14 : decode cX12_chainStones 14 = .ok (.iload_n 3, 1) := by decide +kernel
theorem dX12_chainStones_15 : decode cX12_chainStones 15 = .ok (.aload_n 0, 1) := by decide +kernel
theorem dX12_chainStones_16 : decode cX12_chainStones 16 = .ok (.iload 4, 2) := by decide +kernel
theorem dX12_chainStones_18 : decode cX12_chainStones 18 = .ok (.invokevirtual 215, 3) := by decide +kernel
theorem dX12_chainStones_21 : decode cX12_chainStones 21 = .ok (.iload_n 1, 1) := by decide +kernel
theorem dX12_chainStones_22 : decode cX12_chainStones 22 = .ok (.if_icmp .ne 18, 3) := by decide +kernel
theorem dX12_chainStones_25 : decode cX12_chainStones 25 = .ok (.aload_n 0, 1) := by decide +kernel
theorem dX12_chainStones_26 : decode cX12_chainStones 26 = .ok (.getfield 55, 3) := by decide +kernel
theorem dX12_chainStones_29 : decode cX12_chainStones 29 = .ok (.iload 4, 2) := by decide +kernel
theorem dX12_chainStones_31 : decode cX12_chainStones 31 = .ok (.iaload, 1) := by decide +kernel
theorem dX12_chainStones_32 : decode cX12_chainStones 32 = .ok (.iload_n 2, 1) := by decide +kernel
theorem dX12_chainStones_33 : decode cX12_chainStones 33 = .ok (.if_icmp .ne 7, 3) := by decide +kernel
theorem dX12_chainStones_36 : decode cX12_chainStones 36 = .ok (.iconst 1, 1) := by decide +kernel
theorem dX12_chainStones_37 : decode cX12_chainStones 37 = .ok (.goto 4, 3) := by decide +kernel
theorem dX12_chainStones_40 : decode cX12_chainStones 40 = .ok (.iconst 0, 1) := by decide +kernel
theorem dX12_chainStones_41 : decode cX12_chainStones 41 = .ok (.iadd, 1) := by decide +kernel
theorem dX12_chainStones_42 : decode cX12_chainStones 42 = .ok (.istore_n 3, 1) := by decide +kernel
theorem dX12_chainStones_43 : decode cX12_chainStones 43 = .ok (.iinc 4 1, 3) := by decide +kernel
theorem dX12_chainStones_46 : decode cX12_chainStones 46 = .ok (.goto (-41), 3) := by decide +kernel
theorem dX12_chainStones_49 : decode cX12_chainStones 49 = .ok (.iload_n 3, 1) := by decide +kernel
theorem dX12_chainStones_50 : decode cX12_chainStones 50 = .ok (.ireturn, 1) := by decide +kernel
theorem dX12_chainEdges_0 : decode cX12_chainEdges 0 = .ok (.iconst 0, 1) := by decide +kernel
theorem dX12_chainEdges_1 : decode cX12_chainEdges 1 = .ok (.istore_n 3, 1) := by decide +kernel
theorem dX12_chainEdges_2 : decode cX12_chainEdges 2 = .ok (.iconst 0, 1) := by decide +kernel
theorem dX12_chainEdges_3 : decode cX12_chainEdges 3 = .ok (.istore 4, 2) := by decide +kernel
theorem dX12_chainEdges_5 : decode cX12_chainEdges 5 = .ok (.iload 4, 2) := by decide +kernel
theorem dX12_chainEdges_7 : decode cX12_chainEdges 7 = .ok (.aload_n 0, 1) := by decide +kernel
theorem dX12_chainEdges_8 : decode cX12_chainEdges 8 = .ok (.invokevirtual 212, 3) := by decide +kernel
theorem dX12_chainEdges_11 : decode cX12_chainEdges 11 = .ok (.if_icmp .ge 40, 3) := by decide +kernel
theorem dX12_chainEdges_14 : decode cX12_chainEdges 14 = .ok (.aload_n 0, 1) := by decide +kernel
theorem dX12_chainEdges_15 : decode cX12_chainEdges 15 = .ok (.iload 4, 2) := by decide +kernel
theorem dX12_chainEdges_17 : decode cX12_chainEdges 17 = .ok (.invokevirtual 215, 3) := by decide +kernel
theorem dX12_chainEdges_20 : decode cX12_chainEdges 20 = .ok (.iload_n 1, 1) := by decide +kernel
theorem dX12_chainEdges_21 : decode cX12_chainEdges 21 = .ok (.if_icmp .ne 24, 3) := by decide +kernel
theorem dX12_chainEdges_24 : decode cX12_chainEdges 24 = .ok (.aload_n 0, 1) := by decide +kernel
theorem dX12_chainEdges_25 : decode cX12_chainEdges 25 = .ok (.getfield 55, 3) := by decide +kernel
theorem dX12_chainEdges_28 : decode cX12_chainEdges 28 = .ok (.iload 4, 2) := by decide +kernel
theorem dX12_chainEdges_30 : decode cX12_chainEdges 30 = .ok (.iaload, 1) := by decide +kernel
theorem dX12_chainEdges_31 : decode cX12_chainEdges 31 = .ok (.iload_n 2, 1) := by decide +kernel
theorem dX12_chainEdges_32 : decode cX12_chainEdges 32 = .ok (.if_icmp .ne 13, 3) := by decide +kernel
theorem dX12_chainEdges_35 : decode cX12_chainEdges 35 = .ok (.iload_n 3, 1) := by decide +kernel
theorem dX12_chainEdges_36 : decode cX12_chainEdges 36 = .ok (.aload_n 0, 1) := by decide +kernel
theorem dX12_chainEdges_37 : decode cX12_chainEdges 37 = .ok (.iload_n 1, 1) := by decide +kernel
theorem dX12_chainEdges_38 : decode cX12_chainEdges 38 = .ok (.iload 4, 2) := by decide +kernel
theorem dX12_chainEdges_40 : decode cX12_chainEdges 40 = .ok (.invokevirtual 239, 3) := by decide +kernel
theorem dX12_chainEdges_43 : decode cX12_chainEdges 43 = .ok (.ior, 1) := by decide +kernel
theorem dX12_chainEdges_44 : decode cX12_chainEdges 44 = .ok (.istore_n 3, 1) := by decide +kernel
theorem dX12_chainEdges_45 : decode cX12_chainEdges 45 = .ok (.iinc 4 1, 3) := by decide +kernel
theorem dX12_chainEdges_48 : decode cX12_chainEdges 48 = .ok (.goto (-43), 3) := by decide +kernel
theorem dX12_chainEdges_51 : decode cX12_chainEdges 51 = .ok (.iconst 0, 1) := by decide +kernel
theorem dX12_chainEdges_52 : decode cX12_chainEdges 52 = .ok (.istore 4, 2) := by decide +kernel
theorem dX12_chainEdges_54 : decode cX12_chainEdges 54 = .ok (.iload 4, 2) := by decide +kernel
theorem dX12_chainEdges_56 : decode cX12_chainEdges 56 = .ok (.aload_n 0, 1) := by decide +kernel
theorem dX12_chainEdges_57 : decode cX12_chainEdges 57 = .ok (.getfield 272, 3) := by decide +kernel
theorem dX12_chainEdges_60 : decode cX12_chainEdges 60 = .ok (.if_icmp .ge 60, 3) := by decide +kernel
theorem dX12_chainEdges_63 : decode cX12_chainEdges 63 = .ok (.aload_n 0, 1) := by decide +kernel
theorem dX12_chainEdges_64 : decode cX12_chainEdges 64 = .ok (.getfield 49, 3) := by decide +kernel
theorem dX12_chainEdges_67 : decode cX12_chainEdges 67 = .ok (.iload 4, 2) := by decide +kernel
theorem dX12_chainEdges_69 : decode cX12_chainEdges 69 = .ok (.baload, 1) := by decide +kernel
theorem dX12_chainEdges_70 : decode cX12_chainEdges 70 = .ok (.ifCond .eq 44, 3) := by decide +kernel
theorem dX12_chainEdges_73 : decode cX12_chainEdges 73 = .ok (.aload_n 0, 1) := by decide +kernel
theorem dX12_chainEdges_74 : decode cX12_chainEdges 74 = .ok (.getfield 40, 3) := by decide +kernel
theorem dX12_chainEdges_77 : decode cX12_chainEdges 77 = .ok (.iload 4, 2) := by decide +kernel
theorem dX12_chainEdges_79 : decode cX12_chainEdges 79 = .ok (.iaload, 1) := by decide +kernel
theorem dX12_chainEdges_80 : decode cX12_chainEdges 80 = .ok (.ifCond .ge 34, 3) := by decide +kernel
theorem dX12_chainEdges_83 : decode cX12_chainEdges 83 = .ok (.aload_n 0, 1) := by decide +kernel
theorem dX12_chainEdges_84 : decode cX12_chainEdges 84 = .ok (.getfield 55, 3) := by decide +kernel
theorem dX12_chainEdges_87 : decode cX12_chainEdges 87 = .ok (.aload_n 0, 1) := by decide +kernel
theorem dX12_chainEdges_88 : decode cX12_chainEdges 88 = .ok (.getfield 37, 3) := by decide +kernel
theorem dX12_chainEdges_91 : decode cX12_chainEdges 91 = .ok (.iload 4, 2) := by decide +kernel
theorem dX12_chainEdges_93 : decode cX12_chainEdges 93 = .ok (.iaload, 1) := by decide +kernel
theorem dX12_chainEdges_94 : decode cX12_chainEdges 94 = .ok (.iaload, 1) := by decide +kernel
theorem dX12_chainEdges_95 : decode cX12_chainEdges 95 = .ok (.iload_n 2, 1) := by decide +kernel
theorem dX12_chainEdges_96 : decode cX12_chainEdges 96 = .ok (.if_icmp .ne 18, 3) := by decide +kernel
theorem dX12_chainEdges_99 : decode cX12_chainEdges 99 = .ok (.iload_n 3, 1) := by decide +kernel
theorem dX12_chainEdges_100 : decode cX12_chainEdges 100 = .ok (.iconst 1, 1) := by decide +kernel
theorem dX12_chainEdges_101 : decode cX12_chainEdges 101 = .ok (.bipush (-10), 2) := by decide +kernel
theorem dX12_chainEdges_103 : decode cX12_chainEdges 103 = .ok (.aload_n 0, 1) := by decide +kernel
theorem dX12_chainEdges_104 : decode cX12_chainEdges 104 = .ok (.getfield 40, 3) := by decide +kernel
theorem dX12_chainEdges_107 : decode cX12_chainEdges 107 = .ok (.iload 4, 2) := by decide +kernel
theorem dX12_chainEdges_109 : decode cX12_chainEdges 109 = .ok (.iaload, 1) := by decide +kernel
theorem dX12_chainEdges_110 : decode cX12_chainEdges 110 = .ok (.isub, 1) := by decide +kernel
theorem dX12_chainEdges_111 : decode cX12_chainEdges 111 = .ok (.ishl, 1) := by decide +kernel
theorem dX12_chainEdges_112 : decode cX12_chainEdges 112 = .ok (.ior, 1) := by decide +kernel
theorem dX12_chainEdges_113 : decode cX12_chainEdges 113 = .ok (.istore_n 3, 1) := by decide +kernel
theorem dX12_chainEdges_114 : decode cX12_chainEdges 114 = .ok (.iinc 4 1, 3) := by decide +kernel
theorem dX12_chainEdges_117 : decode cX12_chainEdges 117 = .ok (.goto (-63), 3) := by decide +kernel
theorem dX12_chainEdges_120 : decode cX12_chainEdges 120 = .ok (.iload_n 3, 1) := by decide +kernel
theorem dX12_chainEdges_121 : decode cX12_chainEdges 121 = .ok (.ireturn, 1) := by decide +kernel
theorem dX12_canSwap_0 : decode cX12_canSwap 0 = .ok (.aload_n 0, 1) := by decide +kernel
theorem dX12_canSwap_1 : decode cX12_canSwap 1 = .ok (.getfield 9, 3) := by decide +kernel
theorem dX12_canSwap_4 : decode cX12_canSwap 4 = .ok (.iconst 1, 1) := by decide +kernel
theorem dX12_canSwap_5 : decode cX12_canSwap 5 = .ok (.iaload, 1) := by decide +kernel
theorem dX12_canSwap_6 : decode cX12_canSwap 6 = .ok (.ifCond .eq 21, 3) := by decide +kernel
theorem dX12_canSwap_9 : decode cX12_canSwap 9 = .ok (.aload_n 0, 1) := by decide +kernel
theorem dX12_canSwap_10 : decode cX12_canSwap 10 = .ok (.getfield 9, 3) := by decide +kernel
theorem dX12_canSwap_13 : decode cX12_canSwap 13 = .ok (.iconst 4, 1) := by decide +kernel
theorem dX12_canSwap_14 : decode cX12_canSwap 14 = .ok (.iaload, 1) := by decide +kernel
theorem dX12_canSwap_15 : decode cX12_canSwap 15 = .ok (.iconst 1, 1) := by decide +kernel
theorem dX12_canSwap_16 : decode cX12_canSwap 16 = .ok (.if_icmp .ne 11, 3) := by decide +kernel
theorem dX12_canSwap_19 : decode cX12_canSwap 19 = .ok (.aload_n 0, 1) := by decide +kernel
theorem dX12_canSwap_20 : decode cX12_canSwap 20 = .ok (.invokevirtual 155, 3) := by decide +kernel
theorem dX12_canSwap_23 : decode cX12_canSwap 23 = .ok (.iconst (-1), 1) := by decide +kernel
theorem dX12_canSwap_24 : decode cX12_canSwap 24 = .ok (.if_icmp .eq 5, 3) := by decide +kernel
theorem dX12_canSwap_27 : decode cX12_canSwap 27 = .ok (.iconst 0, 1) := by decide +kernel
theorem dX12_canSwap_28 : decode cX12_canSwap 28 = .ok (.ireturn, 1) := by decide +kernel
theorem dX12_canSwap_29 : decode cX12_canSwap 29 = .ok (.aload_n 0, 1) := by decide +kernel
theorem dX12_canSwap_30 : decode cX12_canSwap 30 = .ok (.aload_n 0, 1) := by decide +kernel
theorem dX12_canSwap_31 : decode cX12_canSwap 31 = .ok (.getfield 9, 3) := by decide +kernel
theorem dX12_canSwap_34 : decode cX12_canSwap 34 = .ok (.bipush 86, 2) := by decide +kernel
theorem dX12_canSwap_36 : decode cX12_canSwap 36 = .ok (.iaload, 1) := by decide +kernel
theorem dX12_canSwap_37 : decode cX12_canSwap 37 = .ok (.invokevirtual 215, 3) := by decide +kernel
theorem dX12_canSwap_40 : decode cX12_canSwap 40 = .ok (.iconst 1, 1) := by decide +kernel
theorem dX12_canSwap_41 : decode cX12_canSwap 41 = .ok (.aload_n 0, 1) := by decide +kernel
theorem dX12_canSwap_42 : decode cX12_canSwap 42 = .ok (.getfield 9, 3) := by decide +kernel
theorem dX12_canSwap_45 : decode cX12_canSwap 45 = .ok (.iconst 2, 1) := by decide +kernel
theorem dX12_canSwap_46 : decode cX12_canSwap 46 = .ok (.iaload, 1) := by decide +kernel
theorem dX12_canSwap_47 : decode cX12_canSwap 47 = .ok (.isub, 1) := by decide +kernel
theorem dX12_canSwap_48 : decode cX12_canSwap 48 = .ok (.if_icmp .ne 21, 3) := by decide +kernel
theorem dX12_canSwap_51 : decode cX12_canSwap 51 = .ok (.aload_n 0, 1) := by decide +kernel
theorem dX12_canSwap_52 : decode cX12_canSwap 52 = .ok (.iconst (-1), 1) := by decide +kernel
theorem dX12_canSwap_53 : decode cX12_canSwap 53 = .ok (.invokevirtual 291, 3) := by decide +kernel
theorem dX12_canSwap_56 : decode cX12_canSwap 56 = .ok (.aload_n 0, 1) := by decide +kernel
theorem dX12_canSwap_57 : decode cX12_canSwap 57 = .ok (.invokevirtual 212, 3) := by decide +kernel
theorem dX12_canSwap_60 : decode cX12_canSwap 60 = .ok (.iconst 1, 1) := by decide +kernel
theorem dX12_canSwap_61 : decode cX12_canSwap 61 = .ok (.isub, 1) := by decide +kernel
theorem dX12_canSwap_62 : decode cX12_canSwap 62 = .ok (.if_icmp .ne 7, 3) := by decide +kernel
theorem dX12_canSwap_65 : decode cX12_canSwap 65 = .ok (.iconst 1, 1) := by decide +kernel
theorem dX12_canSwap_66 : decode cX12_canSwap 66 = .ok (.goto 4, 3) := by decide +kernel
theorem dX12_canSwap_69 : decode cX12_canSwap 69 = .ok (.iconst 0, 1) := by decide +kernel
theorem dX12_canSwap_70 : decode cX12_canSwap 70 = .ok (.ireturn, 1) := by decide +kernel
theorem dX12_size_0 : decode cX12_size 0 = .ok (.aload_n 0, 1) := by decide +kernel
theorem dX12_size_1 : decode cX12_size 1 = .ok (.iload_n 1, 1) := by decide +kernel
theorem dX12_size_2 : decode cX12_size 2 = .ok (.i2l, 1) := by decide +kernel
theorem dX12_size_3 : decode cX12_size 3 = .ok (.lconst 0, 1) := by decide +kernel
theorem dX12_size_4 : decode cX12_size 4 = .ok (.ldc2_w 294, 3) := by decide +kernel
theorem dX12_size_7 : decode cX12_size 7 = .ok (.invokestatic 108, 3) := by decide +kernel
theorem dX12_size_10 : decode cX12_size 10 = .ok (.ifCond .ne 7, 3) := by decide +kernel
theorem dX12_size_13 : decode cX12_size 13 = .ok (.iconst 1, 1) := by decide +kernel
theorem dX12_size_14 : decode cX12_size 14 = .ok (.goto 4, 3) := by decide +kernel
theorem dX12_size_17 : decode cX12_size 17 = .ok (.iconst 0, 1) := by decide +kernel
theorem dX12_size_18 : decode cX12_size 18 = .ok (.invokevirtual 296, 3) := by decide +kernel
theorem dX12_size_21 : decode cX12_size 21 = .ok (.ifCond .eq 5, 3) := by decide +kernel
theorem dX12_size_24 : decode cX12_size 24 = .ok (.iconst 0, 1) := by decide +kernel
theorem dX12_size_25 : decode cX12_size 25 = .ok (.ireturn, 1) := by decide +kernel
theorem dX12_size_26 : decode cX12_size 26 = .ok (.iload_n 1, 1) := by decide +kernel
theorem dX12_size_27 : decode cX12_size 27 = .ok (.tableswitch 113 0 8 #[49, 56, 62, 68, 74, 81, 88, 93, 106], 49) := by decide +kernel
theorem dX12_size_76 : decode cX12_size 76 = .ok (.aload_n 0, 1) := by decide +kernel
theorem dX12_size_77 : decode cX12_size 77 = .ok (.getfield 9, 3) := by decide +kernel
theorem dX12_size_80 : decode cX12_size 80 = .ok (.iconst 0, 1) := by decide +kernel
theorem dX12_size_81 : decode cX12_size 81 = .ok (.iaload, 1) := by decide +kernel
theorem dX12_size_82 : decode cX12_size 82 = .ok (.ireturn, 1) := by decide +kernel
theorem dX12_size_83 : decode cX12_size 83 = .ok (.aload_n 0, 1) := by decide +kernel
theorem dX12_size_84 : decode cX12_size 84 = .ok (.iconst 0, 1) := by decide +kernel
theorem dX12_size_85 : decode cX12_size 85 = .ok (.invokevirtual 291, 3) := by decide +kernel
theorem dX12_size_88 : decode cX12_size 88 = .ok (.ireturn, 1) := by decide +kernel
theorem dX12_size_89 : decode cX12_size 89 = .ok (.aload_n 0, 1) := by decide +kernel
theorem dX12_size_90 : decode cX12_size 90 = .ok (.iconst 1, 1) := by decide +kernel
theorem dX12_size_91 : decode cX12_size 91 = .ok (.invokevirtual 291, 3) := by decide +kernel
theorem dX12_size_94 : decode cX12_size 94 = .ok (.ireturn, 1) := by decide +kernel
theorem dX12_size_95 : decode cX12_size 95 = .ok (.aload_n 0, 1) := by decide +kernel
theorem dX12_size_96 : decode cX12_size 96 = .ok (.iconst (-1), 1) := by decide +kernel
theorem dX12_size_97 : decode cX12_size 97 = .ok (.invokevirtual 291, 3) := by decide +kernel
theorem dX12_size_100 : decode cX12_size 100 = .ok (.ireturn, 1) := by decide +kernel
theorem dX12_size_101 : decode cX12_size 101 = .ok (.aload_n 0, 1) := by decide +kernel
theorem dX12_size_102 : decode cX12_size 102 = .ok (.getfield 9, 3) := by decide +kernel
theorem dX12_size_105 : decode cX12_size 105 = .ok (.iconst 4, 1) := by decide +kernel
theorem dX12_size_106 : decode cX12_size 106 = .ok (.iaload, 1) := by decide +kernel
theorem dX12_size_107 : decode cX12_size 107 = .ok (.ireturn, 1) := by decide +kernel
theorem dX12_size_108 : decode cX12_size 108 = .ok (.aload_n 0, 1) := by decide +kernel
theorem dX12_size_109 : decode cX12_size 109 = .ok (.getfield 9, 3) := by decide +kernel
theorem dX12_size_112 : decode cX12_size 112 = .ok (.iconst 2, 1) := by decide +kernel
theorem dX12_size_113 : decode cX12_size 113 = .ok (.iaload, 1) := by decide +kernel
theorem dX12_size_114 : decode cX12_size 114 = .ok (.ireturn, 1) := by decide +kernel
theorem dX12_size_115 : decode cX12_size 115 = .ok (.aload_n 0, 1) := by decide +kernel
theorem dX12_size_116 : decode cX12_size 116 = .ok (.invokevirtual 155, 3) := by decide +kernel
theorem dX12_size_119 : decode cX12_size 119 = .ok (.ireturn, 1) := by decide +kernel
theorem dX12_size_120 : decode cX12_size 120 = .ok (.aload_n 0, 1) := by decide +kernel
theorem dX12_size_121 : decode cX12_size 121 = .ok (.invokevirtual 299, 3) := by decide +kernel
theorem dX12_size_124 : decode cX12_size 124 = .ok (.ifCond .eq 7, 3) := by decide +kernel
theorem dX12_size_127 : decode cX12_size 127 = .ok (.iconst 1, 1) := by decide +kernel
theorem dX12_size_128 : decode cX12_size 128 = .ok (.goto 4, 3) := by decide +kernel
theorem dX12_size_131 : decode cX12_size 131 = .ok (.iconst 0, 1) := by decide +kernel
theorem dX12_size_132 : decode cX12_size 132 = .ok (.ireturn, 1) := by decide +kernel
theorem dX12_size_133 : decode cX12_size 133 = .ok (.aload_n 0, 1) := by decide +kernel
theorem dX12_size_134 : decode cX12_size 134 = .ok (.getfield 9, 3) := by decide +kernel
theorem dX12_size_137 : decode cX12_size 137 = .ok (.iconst 3, 1) := by decide +kernel
theorem dX12_size_138 : decode cX12_size 138 = .ok (.iaload, 1) := by decide +kernel
theorem dX12_size_139 : decode cX12_size 139 = .ok (.ireturn, 1) := by decide +kernel
theorem dX12_size_140 : decode cX12_size 140 = .ok (.aload_n 0, 1) := by decide +kernel
theorem dX12_size_141 : decode cX12_size 141 = .ok (.getfield 80, 3) := by decide +kernel
theorem dX12_size_144 : decode cX12_size 144 = .ok (.ireturn, 1) := by decide +kernel
theorem dX12_noCell_0 : decode cX12_noCell 0 = .ok (.aload_n 0, 1) := by decide +kernel
theorem dX12_noCell_1 : decode cX12_noCell 1 = .ok (.aload_n 0, 1) := by decide +kernel
theorem dX12_noCell_2 : decode cX12_noCell 2 = .ok (.iload_n 1, 1) := by decide +kernel
theorem dX12_noCell_3 : decode cX12_noCell 3 = .ok (.invokevirtual 302, 3) := by decide +kernel
theorem dX12_noCell_6 : decode cX12_noCell 6 = .ok (.ifCond .ne 7, 3) := by decide +kernel
theorem dX12_noCell_9 : decode cX12_noCell 9 = .ok (.iconst 1, 1) := by decide +kernel
theorem dX12_noCell_10 : decode cX12_noCell 10 = .ok (.goto 4, 3) := by decide +kernel
theorem dX12_noCell_13 : decode cX12_noCell 13 = .ok (.iconst 0, 1) := by decide +kernel
theorem dX12_noCell_14 : decode cX12_noCell 14 = .ok (.invokevirtual 296, 3) := by decide +kernel
theorem dX12_noCell_17 : decode cX12_noCell 17 = .ok (.ireturn, 1) := by decide +kernel
theorem dX12_noSide_0 : decode cX12_noSide 0 = .ok (.aload_n 0, 1) := by decide +kernel
theorem dX12_noSide_1 : decode cX12_noSide 1 = .ok (.iload_n 1, 1) := by decide +kernel
theorem dX12_noSide_2 : decode cX12_noSide 2 = .ok (.invokestatic 305, 3) := by decide +kernel
theorem dX12_noSide_5 : decode cX12_noSide 5 = .ok (.ifCond .ne 7, 3) := by decide +kernel
theorem dX12_noSide_8 : decode cX12_noSide 8 = .ok (.iconst 1, 1) := by decide +kernel
theorem dX12_noSide_9 : decode cX12_noSide 9 = .ok (.goto 4, 3) := by decide +kernel
theorem dX12_noSide_12 : decode cX12_noSide 12 = .ok (.iconst 0, 1) := by decide +kernel
theorem dX12_noSide_13 : decode cX12_noSide 13 = .ok (.invokevirtual 296, 3) := by decide +kernel
theorem dX12_noSide_16 : decode cX12_noSide 16 = .ok (.ireturn, 1) := by decide +kernel
theorem dX12_cell_0 : decode cX12_cell 0 = .ok (.aload_n 0, 1) := by decide +kernel
theorem dX12_cell_1 : decode cX12_cell 1 = .ok (.iload_n 1, 1) := by decide +kernel
theorem dX12_cell_2 : decode cX12_cell 2 = .ok (.invokevirtual 308, 3) := by decide +kernel
theorem dX12_cell_5 : decode cX12_cell 5 = .ok (.ifCond .eq 7, 3) := by decide +kernel
theorem dX12_cell_8 : decode cX12_cell 8 = .ok (.iconst 0, 1) := by decide +kernel
theorem dX12_cell_9 : decode cX12_cell 9 = .ok (.goto 8, 3) := by decide +kernel
theorem dX12_cell_12 : decode cX12_cell 12 = .ok (.aload_n 0, 1) := by decide +kernel
theorem dX12_cell_13 : decode cX12_cell 13 = .ok (.iload_n 1, 1) := by decide +kernel
theorem dX12_cell_14 : decode cX12_cell 14 = .ok (.invokevirtual 215, 3) := by decide +kernel
theorem dX12_cell_17 : decode cX12_cell 17 = .ok (.ireturn, 1) := by decide +kernel
theorem dX12_neighbour_0 : decode cX12_neighbour 0 = .ok (.aload_n 0, 1) := by decide +kernel
theorem dX12_neighbour_1 : decode cX12_neighbour 1 = .ok (.iload_n 1, 1) := by decide +kernel
theorem dX12_neighbour_2 : decode cX12_neighbour 2 = .ok (.invokevirtual 308, 3) := by decide +kernel
theorem dX12_neighbour_5 : decode cX12_neighbour 5 = .ok (.ifCond .eq 5, 3) := by decide +kernel
theorem dX12_neighbour_8 : decode cX12_neighbour 8 = .ok (.iconst 0, 1) := by decide +kernel
theorem dX12_neighbour_9 : decode cX12_neighbour 9 = .ok (.ireturn, 1) := by decide +kernel
theorem dX12_neighbour_10 : decode cX12_neighbour 10 = .ok (.iload_n 2, 1) := by decide +kernel
theorem dX12_neighbour_11 : decode cX12_neighbour 11 = .ok (.istore_n 3, 1) := by decide +kernel
theorem dX12_neighbour_12 : decode cX12_neighbour 12 = .ok (.iconst 0, 1) := by decide +kernel
theorem dX12_neighbour_13 : decode cX12_neighbour 13 = .ok (.istore 4, 2) := by decide +kernel
theorem dX12_neighbour_15 : decode cX12_neighbour 15 = .ok (.iload 4, 2) := by decide +kernel
theorem dX12_neighbour_17 : decode cX12_neighbour 17 = .ok (.bipush 6, 2) := by decide +kernel
theorem dX12_neighbour_19 : decode cX12_neighbour 19 = .ok (.if_icmp .ge 38, 3) := by decide +kernel
theorem dX12_neighbour_22 : decode cX12_neighbour 22 = .ok (.aload_n 0, 1) := by decide +kernel
theorem dX12_neighbour_23 : decode cX12_neighbour 23 = .ok (.iload_n 1, 1) := by decide +kernel
theorem dX12_neighbour_24 : decode cX12_neighbour 24 = .ok (.iload 4, 2) := by decide +kernel
theorem dX12_neighbour_26 : decode cX12_neighbour 26 = .ok (.invokevirtual 218, 3) := by decide +kernel
theorem dX12_neighbour_29 : decode cX12_neighbour 29 = .ok (.iconst (-1), 1) := by decide +kernel
theorem dX12_neighbour_30 : decode cX12_neighbour 30 = .ok (.if_icmp .ne 6, 3) := by decide +kernel
theorem dX12_neighbour_33 : decode cX12_neighbour 33 = .ok (.goto 18, 3) := by decide +kernel
theorem dX12_neighbour_36 : decode cX12_neighbour 36 = .ok (.iload_n 3, 1) := by decide +kernel
theorem dX12_neighbour_37 : decode cX12_neighbour 37 = .ok (.ifCond .ne 11, 3) := by decide +kernel
theorem dX12_neighbour_40 : decode cX12_neighbour 40 = .ok (.aload_n 0, 1) := by decide +kernel
theorem dX12_neighbour_41 : decode cX12_neighbour 41 = .ok (.iload_n 1, 1) := by decide +kernel
theorem dX12_neighbour_42 : decode cX12_neighbour 42 = .ok (.iload 4, 2) := by decide +kernel
theorem dX12_neighbour_44 : decode cX12_neighbour 44 = .ok (.invokevirtual 218, 3) := by decide +kernel
theorem dX12_neighbour_47 : decode cX12_neighbour 47 = .ok (.ireturn, 1) := by decide +kernel
theorem dX12_neighbour_48 : decode cX12_neighbour 48 = .ok (.iinc 3 (-1), 3) := by decide +kernel
theorem dX12_neighbour_51 : decode cX12_neighbour 51 = .ok (.iinc 4 1, 3) := by decide +kernel
theorem dX12_neighbour_54 : decode cX12_neighbour 54 = .ok (.goto (-39), 3) := by decide +kernel
theorem dX12_neighbour_57 : decode cX12_neighbour 57 = .ok (.iconst (-1), 1) := by decide +kernel
theorem dX12_neighbour_58 : decode cX12_neighbour 58 = .ok (.ireturn, 1) := by decide +kernel
theorem dX12_freeBeside_0 : decode cX12_freeBeside 0 = .ok (.iconst 0, 1) := by decide +kernel
theorem dX12_freeBeside_1 : decode cX12_freeBeside 1 = .ok (.istore_n 2, 1) := by decide +kernel
theorem dX12_freeBeside_2 : decode cX12_freeBeside 2 = .ok (.iconst 0, 1) := by decide +kernel
theorem dX12_freeBeside_3 : decode cX12_freeBeside 3 = .ok (.istore_n 3, 1) := by decide +kernel
theorem dX12_freeBeside_4 : decode cX12_freeBeside 4 = .ok (.iload_n 3, 1) := by decide +kernel
theorem dX12_freeBeside_5 : decode cX12_freeBeside 5 = .ok (.aload_n 0, 1) := by decide +kernel
theorem dX12_freeBeside_6 : decode cX12_freeBeside 6 = .ok (.invokevirtual 212, 3) := by decide +kernel
theorem dX12_freeBeside_9 : decode cX12_freeBeside 9 = .ok (.if_icmp .ge 107, 3) := by decide +kernel
theorem dX12_freeBeside_12 : decode cX12_freeBeside 12 = .ok (.aload_n 0, 1) := by decide +kernel
theorem dX12_freeBeside_13 : decode cX12_freeBeside 13 = .ok (.iload_n 3, 1) := by decide +kernel
theorem dX12_freeBeside_14 : decode cX12_freeBeside 14 = .ok (.invokevirtual 215, 3) := by decide +kernel
theorem dX12_freeBeside_17 : decode cX12_freeBeside 17 = .ok (.iconst (-1), 1) := by decide +kernel
theorem dX12_freeBeside_18 : decode cX12_freeBeside 18 = .ok (.if_icmp .eq 6, 3) := by decide +kernel
theorem dX12_freeBeside_21 : decode cX12_freeBeside 21 = .ok (.goto 89, 3) := by decide +kernel
theorem dX12_freeBeside_24 : decode cX12_freeBeside 24 = .ok (.iconst 0, 1) := by decide +kernel
theorem dX12_freeBeside_25 : decode cX12_freeBeside 25 = .ok (.istore 4, 2) := by decide +kernel
theorem dX12_freeBeside_27 : decode cX12_freeBeside 27 = .ok (.iconst 0, 1) := by decide +kernel
theorem dX12_freeBeside_28 : decode cX12_freeBeside 28 = .ok (.istore 5, 2) := by decide +kernel
theorem dX12_freeBeside_30 : decode cX12_freeBeside 30 = .ok (.iload 5, 2) := by decide +kernel
theorem dX12_freeBeside_32 : decode cX12_freeBeside 32 = .ok (.bipush 6, 2) := by decide +kernel
theorem dX12_freeBeside_34 : decode cX12_freeBeside 34 = .ok (.if_icmp .ge 63, 3) := by decide +kernel
theorem dX12_freeBeside_37 : decode cX12_freeBeside 37 = .ok (.iload 4, 2) := by decide +kernel
theorem dX12_freeBeside_39 : decode cX12_freeBeside 39 = .ok (.ifCond .ne 45, 3) := by decide +kernel
theorem dX12_freeBeside_42 : decode cX12_freeBeside 42 = .ok (.aload_n 0, 1) := by decide +kernel
theorem dX12_freeBeside_43 : decode cX12_freeBeside 43 = .ok (.iload_n 3, 1) := by decide +kernel
theorem dX12_freeBeside_44 : decode cX12_freeBeside 44 = .ok (.iload 5, 2) := by decide +kernel
theorem dX12_freeBeside_46 : decode cX12_freeBeside 46 = .ok (.invokevirtual 218, 3) := by decide +kernel
theorem dX12_freeBeside_49 : decode cX12_freeBeside 49 = .ok (.iconst (-1), 1) := by decide +kernel
theorem dX12_freeBeside_50 : decode cX12_freeBeside 50 = .ok (.if_icmp .eq 38, 3) := by decide +kernel
theorem dX12_freeBeside_53 : decode cX12_freeBeside 53 = .ok (.aload_n 0, 1) := by decide +kernel
theorem dX12_freeBeside_54 : decode cX12_freeBeside 54 = .ok (.aload_n 0, 1) := by decide +kernel
theorem dX12_freeBeside_55 : decode cX12_freeBeside 55 = .ok (.iload_n 3, 1) := by decide +kernel
theorem dX12_freeBeside_56 : decode cX12_freeBeside 56 = .ok (.iload 5, 2) := by decide +kernel
theorem dX12_freeBeside_58 : decode cX12_freeBeside 58 = .ok (.invokevirtual 218, 3) := by decide +kernel
theorem dX12_freeBeside_61 : decode cX12_freeBeside 61 = .ok (.invokevirtual 215, 3) := by decide +kernel
theorem dX12_freeBeside_64 : decode cX12_freeBeside 64 = .ok (.iconst (-1), 1) := by decide +kernel
theorem dX12_freeBeside_65 : decode cX12_freeBeside 65 = .ok (.if_icmp .eq 23, 3) := by decide +kernel
theorem dX12_freeBeside_68 : decode cX12_freeBeside 68 = .ok (.aload_n 0, 1) := by decide +kernel
theorem dX12_freeBeside_69 : decode cX12_freeBeside 69 = .ok (.getfield 34, 3) := by decide +kernel
theorem dX12_freeBeside_72 : decode cX12_freeBeside 72 = .ok (.aload_n 0, 1) := by decide +kernel
theorem dX12_freeBeside_73 : decode cX12_freeBeside 73 = .ok (.iload_n 3, 1) := by decide +kernel
theorem dX12_freeBeside_74 : decode cX12_freeBeside 74 = .ok (.iload 5, 2) := by decide +kernel
theorem dX12_freeBeside_76 : decode cX12_freeBeside 76 = .ok (.invokevirtual 218, 3) := by decide +kernel
theorem dX12_freeBeside_79 : decode cX12_freeBeside 79 = .ok (.iaload, 1) := by decide +kernel
theorem dX12_freeBeside_80 : decode cX12_freeBeside 80 = .ok (.iload_n 1, 1) := by decide +kernel
theorem dX12_freeBeside_81 : decode cX12_freeBeside 81 = .ok (.if_icmp .ne 7, 3) := by decide +kernel
theorem dX12_freeBeside_84 : decode cX12_freeBeside 84 = .ok (.iconst 1, 1) := by decide +kernel
theorem dX12_freeBeside_85 : decode cX12_freeBeside 85 = .ok (.goto 4, 3) := by decide +kernel
theorem dX12_freeBeside_88 : decode cX12_freeBeside 88 = .ok (.iconst 0, 1) := by decide +kernel
theorem dX12_freeBeside_89 : decode cX12_freeBeside 89 = .ok (.istore 4, 2) := by decide +kernel
theorem dX12_freeBeside_91 : decode cX12_freeBeside 91 = .ok (.iinc 5 1, 3) := by decide +kernel
theorem dX12_freeBeside_94 : decode cX12_freeBeside 94 = .ok (.goto (-64), 3) := by decide +kernel
theorem dX12_freeBeside_97 : decode cX12_freeBeside 97 = .ok (.iload_n 2, 1) := by decide +kernel
theorem dX12_freeBeside_98 : decode cX12_freeBeside 98 = .ok (.iload 4, 2) := by decide +kernel
theorem dX12_freeBeside_100 : decode cX12_freeBeside 100 = .ok (.ifCond .eq 7, 3) := by decide +kernel
theorem dX12_freeBeside_103 : decode cX12_freeBeside 103 = .ok (.iconst 1, 1) := by decide +kernel
theorem dX12_freeBeside_104 : decode cX12_freeBeside 104 = .ok (.goto 4, 3) := by decide +kernel
theorem dX12_freeBeside_107 : decode cX12_freeBeside 107 = .ok (.iconst 0, 1) := by decide +kernel
theorem dX12_freeBeside_108 : decode cX12_freeBeside 108 = .ok (.iadd, 1) := by decide +kernel
theorem dX12_freeBeside_109 : decode cX12_freeBeside 109 = .ok (.istore_n 2, 1) := by decide +kernel
theorem dX12_freeBeside_110 : decode cX12_freeBeside 110 = .ok (.iinc 3 1, 3) := by decide +kernel
theorem dX12_freeBeside_113 : decode cX12_freeBeside 113 = .ok (.goto (-109), 3) := by decide +kernel
theorem dX12_freeBeside_116 : decode cX12_freeBeside 116 = .ok (.iload_n 2, 1) := by decide +kernel
theorem dX12_freeBeside_117 : decode cX12_freeBeside 117 = .ok (.ireturn, 1) := by decide +kernel
theorem dX12_groupStones_0 : decode cX12_groupStones 0 = .ok (.iconst 0, 1) := by decide +kernel
theorem dX12_groupStones_1 : decode cX12_groupStones 1 = .ok (.istore_n 2, 1) := by decide +kernel
theorem dX12_groupStones_2 : decode cX12_groupStones 2 = .ok (.iconst 0, 1) := by decide +kernel
theorem dX12_groupStones_3 : decode cX12_groupStones 3 = .ok (.istore_n 3, 1) := by decide +kernel
theorem dX12_groupStones_4 : decode cX12_groupStones 4 = .ok (.iload_n 3, 1) := by decide +kernel
theorem dX12_groupStones_5 : decode cX12_groupStones 5 = .ok (.aload_n 0, 1) := by decide +kernel
theorem dX12_groupStones_6 : decode cX12_groupStones 6 = .ok (.invokevirtual 212, 3) := by decide +kernel
theorem dX12_groupStones_9 : decode cX12_groupStones 9 = .ok (.if_icmp .ge 36, 3) := by decide +kernel
theorem dX12_groupStones_12 : decode cX12_groupStones 12 = .ok (.iload_n 2, 1) := by decide +kernel
theorem dX12_groupStones_13 : decode cX12_groupStones 13 = .ok (.aload_n 0, 1) := by decide +kernel
theorem dX12_groupStones_14 : decode cX12_groupStones 14 = .ok (.iload_n 3, 1) := by decide +kernel
theorem dX12_groupStones_15 : decode cX12_groupStones 15 = .ok (.invokevirtual 215, 3) := by decide +kernel
theorem dX12_groupStones_18 : decode cX12_groupStones 18 = .ok (.iconst (-1), 1) := by decide +kernel
theorem dX12_groupStones_19 : decode cX12_groupStones 19 = .ok (.if_icmp .eq 17, 3) := by decide +kernel
theorem dX12_groupStones_22 : decode cX12_groupStones 22 = .ok (.aload_n 0, 1) := by decide +kernel
theorem dX12_groupStones_23 : decode cX12_groupStones 23 = .ok (.getfield 34, 3) := by decide +kernel
theorem dX12_groupStones_26 : decode cX12_groupStones 26 = .ok (.iload_n 3, 1) := by decide +kernel
theorem dX12_groupStones_27 : decode cX12_groupStones 27 = .ok (.iaload, 1) := by decide +kernel
theorem dX12_groupStones_28 : decode cX12_groupStones 28 = .ok (.iload_n 1, 1) := by decide +kernel
theorem dX12_groupStones_29 : decode cX12_groupStones 29 = .ok (.if_icmp .ne 7, 3) := by decide +kernel
theorem dX12_groupStones_32 : decode cX12_groupStones 32 = .ok (.iconst 1, 1) := by decide +kernel
theorem dX12_groupStones_33 : decode cX12_groupStones 33 = .ok (.goto 4, 3) := by decide +kernel
theorem dX12_groupStones_36 : decode cX12_groupStones 36 = .ok (.iconst 0, 1) := by decide +kernel
theorem dX12_groupStones_37 : decode cX12_groupStones 37 = .ok (.iadd, 1) := by decide +kernel
theorem dX12_groupStones_38 : decode cX12_groupStones 38 = .ok (.istore_n 2, 1) := by decide +kernel
theorem dX12_groupStones_39 : decode cX12_groupStones 39 = .ok (.iinc 3 1, 3) := by decide +kernel
theorem dX12_groupStones_42 : decode cX12_groupStones 42 = .ok (.goto (-38), 3) := by decide +kernel
theorem dX12_groupStones_45 : decode cX12_groupStones 45 = .ok (.iload_n 2, 1) := by decide +kernel
theorem dX12_groupStones_46 : decode cX12_groupStones 46 = .ok (.ireturn, 1) := by decide +kernel
theorem dX12_group_0 : decode cX12_group 0 = .ok (.aload_n 0, 1) := by decide +kernel
theorem dX12_group_1 : decode cX12_group 1 = .ok (.iload_n 1, 1) := by decide +kernel
theorem dX12_group_2 : decode cX12_group 2 = .ok (.invokevirtual 308, 3) := by decide +kernel
theorem dX12_group_5 : decode cX12_group 5 = .ok (.ifCond .ne 28, 3) := by decide +kernel
theorem dX12_group_8 : decode cX12_group 8 = .ok (.aload_n 0, 1) := by decide +kernel
theorem dX12_group_9 : decode cX12_group 9 = .ok (.iload_n 2, 1) := by decide +kernel
theorem dX12_group_10 : decode cX12_group 10 = .ok (.i2l, 1) := by decide +kernel
theorem dX12_group_11 : decode cX12_group 11 = .ok (.lconst 0, 1) := by decide +kernel
theorem dX12_group_12 : decode cX12_group 12 = .ok (.ldc2_w 311, 3) := by decide +kernel
theorem dX12_group_15 : decode cX12_group 15 = .ok (.invokestatic 108, 3) := by decide +kernel
theorem dX12_group_18 : decode cX12_group 18 = .ok (.ifCond .ne 7, 3) := by decide +kernel
theorem dX12_group_21 : decode cX12_group 21 = .ok (.iconst 1, 1) := by decide +kernel
theorem dX12_group_22 : decode cX12_group 22 = .ok (.goto 4, 3) := by decide +kernel
theorem dX12_group_25 : decode cX12_group 25 = .ok (.iconst 0, 1) := by decide +kernel
theorem dX12_group_26 : decode cX12_group 26 = .ok (.iconst 2, 1) := by decide +kernel
theorem dX12_group_27 : decode cX12_group 27 = .ok (.invokevirtual 313, 3) := by decide +kernel
theorem dX12_group_30 : decode cX12_group 30 = .ok (.ifCond .eq 5, 3) := by decide +kernel
theorem dX12_group_33 : decode cX12_group 33 = .ok (.iconst 0, 1) := by decide +kernel
theorem dX12_group_34 : decode cX12_group 34 = .ok (.ireturn, 1) := by decide +kernel
theorem dX12_group_35 : decode cX12_group 35 = .ok (.aload_n 0, 1) := by decide +kernel
theorem dX12_group_36 : decode cX12_group 36 = .ok (.iload_n 1, 1) := by decide +kernel
theorem dX12_group_37 : decode cX12_group 37 = .ok (.invokevirtual 215, 3) := by decide +kernel
theorem dX12_group_40 : decode cX12_group 40 = .ok (.iconst (-1), 1) := by decide +kernel
theorem dX12_group_41 : decode cX12_group 41 = .ok (.if_icmp .ne 5, 3) := by decide +kernel
theorem dX12_group_44 : decode cX12_group 44 = .ok (.iconst (-1), 1) := by decide +kernel
theorem dX12_group_45 : decode cX12_group 45 = .ok (.ireturn, 1) := by decide +kernel
theorem dX12_group_46 : decode cX12_group 46 = .ok (.aload_n 0, 1) := by decide +kernel
theorem dX12_group_47 : decode cX12_group 47 = .ok (.invokevirtual 242, 3) := by decide +kernel
theorem dX12_group_50 : decode cX12_group 50 = .ok (.aload_n 0, 1) := by decide +kernel
theorem dX12_group_51 : decode cX12_group 51 = .ok (.getfield 34, 3) := by decide +kernel
theorem dX12_group_54 : decode cX12_group 54 = .ok (.iload_n 1, 1) := by decide +kernel
theorem dX12_group_55 : decode cX12_group 55 = .ok (.iaload, 1) := by decide +kernel
theorem dX12_group_56 : decode cX12_group 56 = .ok (.istore_n 3, 1) := by decide +kernel
theorem dX12_group_57 : decode cX12_group 57 = .ok (.iload_n 2, 1) := by decide +kernel
theorem dX12_group_58 : decode cX12_group 58 = .ok (.ifCond .ne 7, 3) := by decide +kernel
theorem dX12_group_61 : decode cX12_group 61 = .ok (.iload_n 3, 1) := by decide +kernel
theorem dX12_group_62 : decode cX12_group 62 = .ok (.goto 39, 3) := by decide +kernel
theorem dX12_group_65 : decode cX12_group 65 = .ok (.iload_n 2, 1) := by decide +kernel
theorem dX12_group_66 : decode cX12_group 66 = .ok (.iconst 1, 1) := by decide +kernel
theorem dX12_group_67 : decode cX12_group 67 = .ok (.if_icmp .ne 11, 3) := by decide +kernel
theorem dX12_group_70 : decode cX12_group 70 = .ok (.aload_n 0, 1) := by decide +kernel
theorem dX12_group_71 : decode cX12_group 71 = .ok (.iload_n 3, 1) := by decide +kernel
theorem dX12_group_72 : decode cX12_group 72 = .ok (.invokevirtual 317, 3) := by decide +kernel
theorem dX12_group_75 : decode cX12_group 75 = .ok (.goto 26, 3) := by decide +kernel
theorem dX12_group_78 : decode cX12_group 78 = .ok (.iload_n 2, 1) := by decide +kernel
theorem dX12_group_79 : decode cX12_group 79 = .ok (.iconst 2, 1) := by decide +kernel
theorem dX12_group_80 : decode cX12_group 80 = .ok (.if_icmp .ne 11, 3) := by decide +kernel
theorem dX12_group_83 : decode cX12_group 83 = .ok (.aload_n 0, 1) := by decide +kernel
theorem dX12_group_84 : decode cX12_group 84 = .ok (.iload_n 3, 1) := by decide +kernel
theorem dX12_group_85 : decode cX12_group 85 = .ok (.invokevirtual 320, 3) := by decide +kernel
theorem dX12_group_88 : decode cX12_group 88 = .ok (.goto 13, 3) := by decide +kernel
theorem dX12_group_91 : decode cX12_group 91 = .ok (.aload_n 0, 1) := by decide +kernel
theorem dX12_group_92 : decode cX12_group 92 = .ok (.aload_n 0, 1) := by decide +kernel
theorem dX12_group_93 : decode cX12_group 93 = .ok (.iload_n 1, 1) := by decide +kernel
theorem dX12_group_94 : decode cX12_group 94 = .ok (.invokevirtual 215, 3) := by decide +kernel
theorem dX12_group_97 : decode cX12_group 97 = .ok (.iload_n 3, 1) := by decide +kernel
theorem dX12_group_98 : decode cX12_group 98 = .ok (.invokevirtual 245, 3) := by decide +kernel
theorem dX12_group_101 : decode cX12_group 101 = .ok (.ireturn, 1) := by decide +kernel
theorem dX12_groups_0 : decode cX12_groups 0 = .ok (.aload_n 0, 1) := by decide +kernel
theorem dX12_groups_1 : decode cX12_groups 1 = .ok (.iload_n 1, 1) := by decide +kernel
theorem dX12_groups_2 : decode cX12_groups 2 = .ok (.invokevirtual 323, 3) := by decide +kernel
theorem dX12_groups_5 : decode cX12_groups 5 = .ok (.ifCond .eq 5, 3) := by decide +kernel
theorem dX12_groups_8 : decode cX12_groups 8 = .ok (.iconst 0, 1) := by decide +kernel
theorem dX12_groups_9 : decode cX12_groups 9 = .ok (.ireturn, 1) := by decide +kernel
theorem dX12_groups_10 : decode cX12_groups 10 = .ok (.aload_n 0, 1) := by decide +kernel
theorem dX12_groups_11 : decode cX12_groups 11 = .ok (.invokevirtual 242, 3) := by decide +kernel
theorem dX12_groups_14 : decode cX12_groups 14 = .ok (.iconst 0, 1) := by decide +kernel
theorem dX12_groups_15 : decode cX12_groups 15 = .ok (.istore_n 2, 1) := by decide +kernel
theorem dX12_groups_16 : decode cX12_groups 16 = .ok (.iconst 0, 1) := by decide +kernel
theorem dX12_groups_17 : decode cX12_groups 17 = .ok (.istore_n 3, 1) := by decide +kernel
theorem dX12_groups_18 : decode cX12_groups 18 = .ok (.iload_n 3, 1) := by decide +kernel
theorem dX12_groups_19 : decode cX12_groups 19 = .ok (.aload_n 0, 1) := by decide +kernel
theorem dX12_groups_20 : decode cX12_groups 20 = .ok (.invokevirtual 212, 3) := by decide +kernel
theorem dX12_groups_23 : decode cX12_groups 23 = .ok (.if_icmp .ge 36, 3) := by decide +kernel
theorem dX12_groups_26 : decode cX12_groups 26 = .ok (.iload_n 2, 1) := by decide +kernel
theorem dX12_groups_27 : decode cX12_groups 27 = .ok (.aload_n 0, 1) := by decide +kernel
theorem dX12_groups_28 : decode cX12_groups 28 = .ok (.iload_n 3, 1) := by decide +kernel
theorem dX12_groups_29 : decode cX12_groups 29 = .ok (.invokevirtual 215, 3) := by decide +kernel
theorem dX12_groups_32 : decode cX12_groups 32 = .ok (.iload_n 1, 1) := by decide +kernel
theorem dX12_groups_33 : decode cX12_groups 33 = .ok (.if_icmp .ne 17, 3) := by decide +kernel
theorem dX12_groups_36 : decode cX12_groups 36 = .ok (.aload_n 0, 1) := by decide +kernel
theorem dX12_groups_37 : decode cX12_groups 37 = .ok (.getfield 34, 3) := by decide +kernel
theorem dX12_groups_40 : decode cX12_groups 40 = .ok (.iload_n 3, 1) := by decide +kernel
theorem dX12_groups_41 : decode cX12_groups 41 = .ok (.iaload, 1) := by decide +kernel
theorem dX12_groups_42 : decode cX12_groups 42 = .ok (.iload_n 3, 1) := by decide +kernel
theorem dX12_groups_43 : decode cX12_groups 43 = .ok (.if_icmp .ne 7, 3) := by decide +kernel
theorem dX12_groups_46 : decode cX12_groups 46 = .ok (.iconst 1, 1) := by decide +kernel
theorem dX12_groups_47 : decode cX12_groups 47 = .ok (.goto 4, 3) := by decide +kernel
theorem dX12_groups_50 : decode cX12_groups 50 = .ok (.iconst 0, 1) := by decide +kernel
theorem dX12_groups_51 : decode cX12_groups 51 = .ok (.iadd, 1) := by decide +kernel
theorem dX12_groups_52 : decode cX12_groups 52 = .ok (.istore_n 2, 1) := by decide +kernel
theorem dX12_groups_53 : decode cX12_groups 53 = .ok (.iinc 3 1, 3) := by decide +kernel
theorem dX12_groups_56 : decode cX12_groups 56 = .ok (.goto (-38), 3) := by decide +kernel
theorem dX12_groups_59 : decode cX12_groups 59 = .ok (.iload_n 2, 1) := by decide +kernel
theorem dX12_groups_60 : decode cX12_groups 60 = .ok (.ireturn, 1) := by decide +kernel
theorem dX12_largest_0 : decode cX12_largest 0 = .ok (.aload_n 0, 1) := by decide +kernel
theorem dX12_largest_1 : decode cX12_largest 1 = .ok (.iload_n 1, 1) := by decide +kernel
theorem dX12_largest_2 : decode cX12_largest 2 = .ok (.invokevirtual 323, 3) := by decide +kernel
theorem dX12_largest_5 : decode cX12_largest 5 = .ok (.ifCond .eq 5, 3) := by decide +kernel
theorem dX12_largest_8 : decode cX12_largest 8 = .ok (.iconst 0, 1) := by decide +kernel
theorem dX12_largest_9 : decode cX12_largest 9 = .ok (.ireturn, 1) := by decide +kernel
theorem dX12_largest_10 : decode cX12_largest 10 = .ok (.aload_n 0, 1) := by decide +kernel
theorem dX12_largest_11 : decode cX12_largest 11 = .ok (.invokevirtual 242, 3) := by decide +kernel
theorem dX12_largest_14 : decode cX12_largest 14 = .ok (.iconst (-1), 1) := by decide +kernel
theorem dX12_largest_15 : decode cX12_largest 15 = .ok (.istore_n 2, 1) := by decide +kernel
theorem dX12_largest_16 : decode cX12_largest 16 = .ok (.iconst 0, 1) := by decide +kernel
theorem dX12_largest_17 : decode cX12_largest 17 = .ok (.istore_n 3, 1) := by decide +kernel
theorem dX12_largest_18 : decode cX12_largest 18 = .ok (.iload_n 3, 1) := by decide +kernel
theorem dX12_largest_19 : decode cX12_largest 19 = .ok (.aload_n 0, 1) := by decide +kernel
theorem dX12_largest_20 : decode cX12_largest 20 = .ok (.invokevirtual 212, 3) := by decide +kernel
theorem dX12_largest_23 : decode cX12_largest 23 = .ok (.if_icmp .ge 51, 3) := by decide +kernel
theorem dX12_largest_26 : decode cX12_largest 26 = .ok (.aload_n 0, 1) := by decide +kernel
theorem dX12_largest_27 : decode cX12_largest 27 = .ok (.iload_n 3, 1) := by decide +kernel
theorem dX12_largest_28 : decode cX12_largest 28 = .ok (.invokevirtual 215, 3) := by decide +kernel
theorem dX12_largest_31 : decode cX12_largest 31 = .ok (.iload_n 1, 1) := by decide +kernel
theorem dX12_largest_32 : decode cX12_largest 32 = .ok (.if_icmp .ne 36, 3) := by decide +kernel
theorem dX12_largest_35 : decode cX12_largest 35 = .ok (.aload_n 0, 1) := by decide +kernel
theorem dX12_largest_36 : decode cX12_largest 36 = .ok (.getfield 34, 3) := by decide +kernel
theorem dX12_largest_39 : decode cX12_largest 39 = .ok (.iload_n 3, 1) := by decide +kernel
theorem dX12_largest_40 : decode cX12_largest 40 = .ok (.iaload, 1) := by decide +kernel
theorem dX12_largest_41 : decode cX12_largest 41 = .ok (.iload_n 3, 1) := by decide +kernel
theorem dX12_largest_42 : decode cX12_largest 42 = .ok (.if_icmp .eq 6, 3) := by decide +kernel
theorem dX12_largest_45 : decode cX12_largest 45 = .ok (.goto 23, 3) := by decide +kernel
theorem dX12_largest_48 : decode cX12_largest 48 = .ok (.iload_n 2, 1) := by decide +kernel
theorem dX12_largest_49 : decode cX12_largest 49 = .ok (.iconst (-1), 1) := by decide +kernel
theorem dX12_largest_50 : decode cX12_largest 50 = .ok (.if_icmp .eq 16, 3) := by decide +kernel
theorem dX12_largest_53 : decode cX12_largest 53 = .ok (.aload_n 0, 1) := by decide +kernel
theorem dX12_largest_54 : decode cX12_largest 54 = .ok (.iload_n 3, 1) := by decide +kernel
theorem dX12_largest_55 : decode cX12_largest 55 = .ok (.invokevirtual 317, 3) := by decide +kernel
theorem dX12_largest_58 : decode cX12_largest 58 = .ok (.aload_n 0, 1) := by decide +kernel
theorem dX12_largest_59 : decode cX12_largest 59 = .ok (.iload_n 2, 1) := by decide +kernel
theorem dX12_largest_60 : decode cX12_largest 60 = .ok (.invokevirtual 317, 3) := by decide +kernel
theorem dX12_largest_63 : decode cX12_largest 63 = .ok (.if_icmp .le 5, 3) := by decide +kernel
theorem dX12_largest_66 : decode cX12_largest 66 = .ok (.iload_n 3, 1) := by decide +kernel
theorem dX12_largest_67 : decode cX12_largest 67 = .ok (.istore_n 2, 1) := by decide +kernel
theorem dX12_largest_68 : decode cX12_largest 68 = .ok (.iinc 3 1, 3) := by decide +kernel
theorem dX12_largest_71 : decode cX12_largest 71 = .ok (.goto (-53), 3) := by decide +kernel
theorem dX12_largest_74 : decode cX12_largest 74 = .ok (.iload_n 2, 1) := by decide +kernel
theorem dX12_largest_75 : decode cX12_largest 75 = .ok (.ireturn, 1) := by decide +kernel
theorem dX12_isBridge_0 : decode cX12_isBridge 0 = .ok (.aload_n 0, 1) := by decide +kernel
theorem dX12_isBridge_1 : decode cX12_isBridge 1 = .ok (.aload_n 0, 1) := by decide +kernel
theorem dX12_isBridge_2 : decode cX12_isBridge 2 = .ok (.iload_n 1, 1) := by decide +kernel
theorem dX12_isBridge_3 : decode cX12_isBridge 3 = .ok (.invokevirtual 302, 3) := by decide +kernel
theorem dX12_isBridge_6 : decode cX12_isBridge 6 = .ok (.ifCond .eq 11, 3) := by decide +kernel
theorem dX12_isBridge_9 : decode cX12_isBridge 9 = .ok (.aload_n 0, 1) := by decide +kernel
theorem dX12_isBridge_10 : decode cX12_isBridge 10 = .ok (.iload_n 2, 1) := by decide +kernel
theorem dX12_isBridge_11 : decode cX12_isBridge 11 = .ok (.invokevirtual 302, 3) := by decide +kernel
theorem dX12_isBridge_14 : decode cX12_isBridge 14 = .ok (.ifCond .ne 7, 3) := by decide +kernel
theorem dX12_isBridge_17 : decode cX12_isBridge 17 = .ok (.iconst 1, 1) := by decide +kernel
theorem dX12_isBridge_18 : decode cX12_isBridge 18 = .ok (.goto 4, 3) := by decide +kernel
theorem dX12_isBridge_21 : decode cX12_isBridge 21 = .ok (.iconst 0, 1) := by decide +kernel
theorem dX12_isBridge_22 : decode cX12_isBridge 22 = .ok (.invokevirtual 296, 3) := by decide +kernel
theorem dX12_isBridge_25 : decode cX12_isBridge 25 = .ok (.ifCond .eq 5, 3) := by decide +kernel
theorem dX12_isBridge_28 : decode cX12_isBridge 28 = .ok (.iconst 0, 1) := by decide +kernel
theorem dX12_isBridge_29 : decode cX12_isBridge 29 = .ok (.ireturn, 1) := by decide +kernel
theorem dX12_isBridge_30 : decode cX12_isBridge 30 = .ok (.aload_n 0, 1) := by decide +kernel
theorem dX12_isBridge_31 : decode cX12_isBridge 31 = .ok (.iload_n 1, 1) := by decide +kernel
theorem dX12_isBridge_32 : decode cX12_isBridge 32 = .ok (.iload_n 2, 1) := by decide +kernel
theorem dX12_isBridge_33 : decode cX12_isBridge 33 = .ok (.invokevirtual 278, 3) := by decide +kernel
theorem dX12_isBridge_36 : decode cX12_isBridge 36 = .ok (.ireturn, 1) := by decide +kernel
theorem dX12_bridges_0 : decode cX12_bridges 0 = .ok (.aload_n 0, 1) := by decide +kernel
theorem dX12_bridges_1 : decode cX12_bridges 1 = .ok (.iload_n 1, 1) := by decide +kernel
theorem dX12_bridges_2 : decode cX12_bridges 2 = .ok (.invokevirtual 323, 3) := by decide +kernel
theorem dX12_bridges_5 : decode cX12_bridges 5 = .ok (.ifCond .eq 5, 3) := by decide +kernel
theorem dX12_bridges_8 : decode cX12_bridges 8 = .ok (.iconst 0, 1) := by decide +kernel
theorem dX12_bridges_9 : decode cX12_bridges 9 = .ok (.ireturn, 1) := by decide +kernel
theorem dX12_bridges_10 : decode cX12_bridges 10 = .ok (.aload_n 0, 1) := by decide +kernel
theorem dX12_bridges_11 : decode cX12_bridges 11 = .ok (.iload_n 1, 1) := by decide +kernel
theorem dX12_bridges_12 : decode cX12_bridges 12 = .ok (.invokevirtual 288, 3) := by decide +kernel
theorem dX12_bridges_15 : decode cX12_bridges 15 = .ok (.iconst 0, 1) := by decide +kernel
theorem dX12_bridges_16 : decode cX12_bridges 16 = .ok (.istore_n 3, 1) := by decide +kernel
theorem dX12_bridges_17 : decode cX12_bridges 17 = .ok (.iconst 0, 1) := by decide +kernel
theorem dX12_bridges_18 : decode cX12_bridges 18 = .ok (.istore 4, 2) := by decide +kernel
theorem dX12_bridges_20 : decode cX12_bridges 20 = .ok (.iload 4, 2) := by decide +kernel
theorem dX12_bridges_22 : decode cX12_bridges 22 = .ok (.aload_n 0, 1) := by decide +kernel
theorem dX12_bridges_23 : decode cX12_bridges 23 = .ok (.getfield 272, 3) := by decide +kernel
theorem dX12_bridges_26 : decode cX12_bridges 26 = .ok (.if_icmp .ge 31, 3) := by decide +kernel
theorem dX12_bridges_29 : decode cX12_bridges 29 = .ok (.iload_n 3, 1) := by decide +kernel
theorem dX12_bridges_30 : decode cX12_bridges 30 = .ok (.aload_n 0, 1) := by decide +kernel
theorem dX12_bridges_31 : decode cX12_bridges 31 = .ok (.getfield 49, 3) := by decide +kernel
theorem dX12_bridges_34 : decode cX12_bridges 34 = .ok (.iload 4, 2) := by decide +kernel
theorem dX12_bridges_36 : decode cX12_bridges 36 = .ok (.baload, 1) := by decide +kernel
theorem dX12_bridges_37 : decode cX12_bridges 37 = .ok (.ifCond .ne 7, 3) := by decide +kernel
theorem dX12_bridges_40 : decode cX12_bridges 40 = .ok (.iload_n 2, 1) := by decide +kernel
theorem dX12_bridges_41 : decode cX12_bridges 41 = .ok (.ifCond .ne 7, 3) := by decide +kernel
theorem dX12_bridges_44 : decode cX12_bridges 44 = .ok (.iconst 1, 1) := by decide +kernel
theorem dX12_bridges_45 : decode cX12_bridges 45 = .ok (.goto 4, 3) := by decide +kernel
theorem dX12_bridges_48 : decode cX12_bridges 48 = .ok (.iconst 0, 1) := by decide +kernel
theorem dX12_bridges_49 : decode cX12_bridges 49 = .ok (.iadd, 1) := by decide +kernel
theorem dX12_bridges_50 : decode cX12_bridges 50 = .ok (.istore_n 3, 1) := by decide +kernel
theorem dX12_bridges_51 : decode cX12_bridges 51 = .ok (.iinc 4 1, 3) := by decide +kernel
theorem dX12_bridges_54 : decode cX12_bridges 54 = .ok (.goto (-34), 3) := by decide +kernel
theorem dX12_bridges_57 : decode cX12_bridges 57 = .ok (.iload_n 3, 1) := by decide +kernel
theorem dX12_bridges_58 : decode cX12_bridges 58 = .ok (.ireturn, 1) := by decide +kernel
theorem dX12_bridge_0 : decode cX12_bridge 0 = .ok (.aload_n 0, 1) := by decide +kernel
theorem dX12_bridge_1 : decode cX12_bridge 1 = .ok (.iload_n 1, 1) := by decide +kernel
theorem dX12_bridge_2 : decode cX12_bridge 2 = .ok (.invokestatic 305, 3) := by decide +kernel
theorem dX12_bridge_5 : decode cX12_bridge 5 = .ok (.ifCond .eq 15, 3) := by decide +kernel
theorem dX12_bridge_8 : decode cX12_bridge 8 = .ok (.iload_n 3, 1) := by decide +kernel
theorem dX12_bridge_9 : decode cX12_bridge 9 = .ok (.i2l, 1) := by decide +kernel
theorem dX12_bridge_10 : decode cX12_bridge 10 = .ok (.lconst 0, 1) := by decide +kernel
theorem dX12_bridge_11 : decode cX12_bridge 11 = .ok (.ldc2_w 326, 3) := by decide +kernel
theorem dX12_bridge_14 : decode cX12_bridge 14 = .ok (.invokestatic 108, 3) := by decide +kernel
theorem dX12_bridge_17 : decode cX12_bridge 17 = .ok (.ifCond .ne 7, 3) := by decide +kernel
theorem dX12_bridge_20 : decode cX12_bridge 20 = .ok (.iconst 1, 1) := by decide +kernel
theorem dX12_bridge_21 : decode cX12_bridge 21 = .ok (.goto 4, 3) := by decide +kernel
theorem dX12_bridge_24 : decode cX12_bridge 24 = .ok (.iconst 0, 1) := by decide +kernel
theorem dX12_bridge_25 : decode cX12_bridge 25 = .ok (.invokevirtual 296, 3) := by decide +kernel
theorem dX12_bridge_28 : decode cX12_bridge 28 = .ok (.ifCond .eq 5, 3) := by decide +kernel
theorem dX12_bridge_31 : decode cX12_bridge 31 = .ok (.iconst 0, 1) := by decide +kernel
theorem dX12_bridge_32 : decode cX12_bridge 32 = .ok (.ireturn, 1) := by decide +kernel
theorem dX12_bridge_33 : decode cX12_bridge 33 = .ok (.aload_n 0, 1) := by decide +kernel
theorem dX12_bridge_34 : decode cX12_bridge 34 = .ok (.iload_n 1, 1) := by decide +kernel
theorem dX12_bridge_35 : decode cX12_bridge 35 = .ok (.invokevirtual 288, 3) := by decide +kernel
theorem dX12_bridge_38 : decode cX12_bridge 38 = .ok (.iload_n 2, 1) := by decide +kernel
theorem dX12_bridge_39 : decode cX12_bridge 39 = .ok (.i2l, 1) := by decide +kernel
theorem dX12_bridge_40 : decode cX12_bridge 40 = .ok (.lconst 0, 1) := by decide +kernel
theorem dX12_bridge_41 : decode cX12_bridge 41 = .ok (.aload_n 0, 1) := by decide +kernel
theorem dX12_bridge_42 : decode cX12_bridge 42 = .ok (.getfield 272, 3) := by decide +kernel
theorem dX12_bridge_45 : decode cX12_bridge 45 = .ok (.iconst 1, 1) := by decide +kernel
theorem dX12_bridge_46 : decode cX12_bridge 46 = .ok (.isub, 1) := by decide +kernel
theorem dX12_bridge_47 : decode cX12_bridge 47 = .ok (.i2l, 1) := by decide +kernel
theorem dX12_bridge_48 : decode cX12_bridge 48 = .ok (.invokestatic 108, 3) := by decide +kernel
theorem dX12_bridge_51 : decode cX12_bridge 51 = .ok (.ifCond .ne 5, 3) := by decide +kernel
theorem dX12_bridge_54 : decode cX12_bridge 54 = .ok (.iconst (-1), 1) := by decide +kernel
theorem dX12_bridge_55 : decode cX12_bridge 55 = .ok (.ireturn, 1) := by decide +kernel
theorem dX12_bridge_56 : decode cX12_bridge 56 = .ok (.iload_n 3, 1) := by decide +kernel
theorem dX12_bridge_57 : decode cX12_bridge 57 = .ok (.tableswitch 59 0 3 #[31, 38, 45, 52], 31) := by decide +kernel
theorem dX12_bridge_88 : decode cX12_bridge 88 = .ok (.aload_n 0, 1) := by decide +kernel
theorem dX12_bridge_89 : decode cX12_bridge 89 = .ok (.getfield 37, 3) := by decide +kernel
theorem dX12_bridge_92 : decode cX12_bridge 92 = .ok (.iload_n 2, 1) := by decide +kernel
theorem dX12_bridge_93 : decode cX12_bridge 93 = .ok (.iaload, 1) := by decide +kernel
theorem dX12_bridge_94 : decode cX12_bridge 94 = .ok (.ireturn, 1) := by decide +kernel
theorem dX12_bridge_95 : decode cX12_bridge 95 = .ok (.aload_n 0, 1) := by decide +kernel
theorem dX12_bridge_96 : decode cX12_bridge 96 = .ok (.getfield 40, 3) := by decide +kernel
theorem dX12_bridge_99 : decode cX12_bridge 99 = .ok (.iload_n 2, 1) := by decide +kernel
theorem dX12_bridge_100 : decode cX12_bridge 100 = .ok (.iaload, 1) := by decide +kernel
theorem dX12_bridge_101 : decode cX12_bridge 101 = .ok (.ireturn, 1) := by decide +kernel
theorem dX12_bridge_102 : decode cX12_bridge 102 = .ok (.aload_n 0, 1) := by decide +kernel
theorem dX12_bridge_103 : decode cX12_bridge 103 = .ok (.getfield 43, 3) := by decide +kernel
theorem dX12_bridge_106 : decode cX12_bridge 106 = .ok (.iload_n 2, 1) := by decide +kernel
theorem dX12_bridge_107 : decode cX12_bridge 107 = .ok (.iaload, 1) := by decide +kernel
theorem dX12_bridge_108 : decode cX12_bridge 108 = .ok (.ireturn, 1) := by decide +kernel
theorem dX12_bridge_109 : decode cX12_bridge 109 = .ok (.aload_n 0, 1) := by decide +kernel
theorem dX12_bridge_110 : decode cX12_bridge 110 = .ok (.getfield 46, 3) := by decide +kernel
theorem dX12_bridge_113 : decode cX12_bridge 113 = .ok (.iload_n 2, 1) := by decide +kernel
theorem dX12_bridge_114 : decode cX12_bridge 114 = .ok (.iaload, 1) := by decide +kernel
theorem dX12_bridge_115 : decode cX12_bridge 115 = .ok (.ireturn, 1) := by decide +kernel
theorem dX12_bridge_116 : decode cX12_bridge 116 = .ok (.aload_n 0, 1) := by decide +kernel
theorem dX12_bridge_117 : decode cX12_bridge 117 = .ok (.getfield 49, 3) := by decide +kernel
theorem dX12_bridge_120 : decode cX12_bridge 120 = .ok (.iload_n 2, 1) := by decide +kernel
theorem dX12_bridge_121 : decode cX12_bridge 121 = .ok (.baload, 1) := by decide +kernel
theorem dX12_bridge_122 : decode cX12_bridge 122 = .ok (.ifCond .eq 7, 3) := by decide +kernel
theorem dX12_bridge_125 : decode cX12_bridge 125 = .ok (.iconst 1, 1) := by decide +kernel
theorem dX12_bridge_126 : decode cX12_bridge 126 = .ok (.goto 4, 3) := by decide +kernel
theorem dX12_bridge_129 : decode cX12_bridge 129 = .ok (.iconst 0, 1) := by decide +kernel
theorem dX12_bridge_130 : decode cX12_bridge 130 = .ok (.ireturn, 1) := by decide +kernel
theorem dX12_chain_0 : decode cX12_chain 0 = .ok (.aload_n 0, 1) := by decide +kernel
theorem dX12_chain_1 : decode cX12_chain 1 = .ok (.iload_n 1, 1) := by decide +kernel
theorem dX12_chain_2 : decode cX12_chain 2 = .ok (.invokevirtual 308, 3) := by decide +kernel
theorem dX12_chain_5 : decode cX12_chain 5 = .ok (.ifCond .ne 28, 3) := by decide +kernel
theorem dX12_chain_8 : decode cX12_chain 8 = .ok (.aload_n 0, 1) := by decide +kernel
theorem dX12_chain_9 : decode cX12_chain 9 = .ok (.iload_n 2, 1) := by decide +kernel
theorem dX12_chain_10 : decode cX12_chain 10 = .ok (.i2l, 1) := by decide +kernel
theorem dX12_chain_11 : decode cX12_chain 11 = .ok (.lconst 0, 1) := by decide +kernel
theorem dX12_chain_12 : decode cX12_chain 12 = .ok (.ldc2_w 311, 3) := by decide +kernel
theorem dX12_chain_15 : decode cX12_chain 15 = .ok (.invokestatic 108, 3) := by decide +kernel
theorem dX12_chain_18 : decode cX12_chain 18 = .ok (.ifCond .ne 7, 3) := by decide +kernel
theorem dX12_chain_21 : decode cX12_chain 21 = .ok (.iconst 1, 1) := by decide +kernel
theorem dX12_chain_22 : decode cX12_chain 22 = .ok (.goto 4, 3) := by decide +kernel
theorem dX12_chain_25 : decode cX12_chain 25 = .ok (.iconst 0, 1) := by decide +kernel
theorem dX12_chain_26 : decode cX12_chain 26 = .ok (.iconst 2, 1) := by decide +kernel
theorem dX12_chain_27 : decode cX12_chain 27 = .ok (.invokevirtual 313, 3) := by decide +kernel
theorem dX12_chain_30 : decode cX12_chain 30 = .ok (.ifCond .eq 5, 3) := by decide +kernel
theorem dX12_chain_33 : decode cX12_chain 33 = .ok (.iconst 0, 1) := by decide +kernel
theorem dX12_chain_34 : decode cX12_chain 34 = .ok (.ireturn, 1) := by decide +kernel
theorem dX12_chain_35 : decode cX12_chain 35 = .ok (.aload_n 0, 1) := by decide +kernel
theorem dX12_chain_36 : decode cX12_chain 36 = .ok (.iload_n 1, 1) := by decide +kernel
theorem dX12_chain_37 : decode cX12_chain 37 = .ok (.invokevirtual 215, 3) := by decide +kernel
theorem dX12_chain_40 : decode cX12_chain 40 = .ok (.istore_n 3, 1) := by decide +kernel
theorem dX12_chain_41 : decode cX12_chain 41 = .ok (.iload_n 3, 1) := by decide +kernel
theorem dX12_chain_42 : decode cX12_chain 42 = .ok (.iconst (-1), 1) := by decide +kernel
theorem dX12_chain_43 : decode cX12_chain 43 = .ok (.if_icmp .ne 5, 3) := by decide +kernel
theorem dX12_chain_46 : decode cX12_chain 46 = .ok (.iconst (-1), 1) := by decide +kernel
theorem dX12_chain_47 : decode cX12_chain 47 = .ok (.ireturn, 1) := by decide +kernel
theorem dX12_chain_48 : decode cX12_chain 48 = .ok (.aload_n 0, 1) := by decide +kernel
theorem dX12_chain_49 : decode cX12_chain 49 = .ok (.iload_n 3, 1) := by decide +kernel
theorem dX12_chain_50 : decode cX12_chain 50 = .ok (.invokevirtual 328, 3) := by decide +kernel
theorem dX12_chain_53 : decode cX12_chain 53 = .ok (.aload_n 0, 1) := by decide +kernel
theorem dX12_chain_54 : decode cX12_chain 54 = .ok (.getfield 55, 3) := by decide +kernel
theorem dX12_chain_57 : decode cX12_chain 57 = .ok (.iload_n 1, 1) := by decide +kernel
theorem dX12_chain_58 : decode cX12_chain 58 = .ok (.iaload, 1) := by decide +kernel
theorem dX12_chain_59 : decode cX12_chain 59 = .ok (.istore 4, 2) := by decide +kernel
theorem dX12_chain_61 : decode cX12_chain 61 = .ok (.iload_n 2, 1) := by decide +kernel
theorem dX12_chain_62 : decode cX12_chain 62 = .ok (.ifCond .ne 8, 3) := by decide +kernel
theorem dX12_chain_65 : decode cX12_chain 65 = .ok (.iload 4, 2) := by decide +kernel
theorem dX12_chain_67 : decode cX12_chain 67 = .ok (.goto 39, 3) := by decide +kernel
theorem dX12_chain_70 : decode cX12_chain 70 = .ok (.iload_n 2, 1) := by decide +kernel
theorem dX12_chain_71 : decode cX12_chain 71 = .ok (.iconst 1, 1) := by decide +kernel
theorem dX12_chain_72 : decode cX12_chain 72 = .ok (.if_icmp .ne 13, 3) := by decide +kernel
theorem dX12_chain_75 : decode cX12_chain 75 = .ok (.aload_n 0, 1) := by decide +kernel
theorem dX12_chain_76 : decode cX12_chain 76 = .ok (.iload_n 3, 1) := by decide +kernel
theorem dX12_chain_77 : decode cX12_chain 77 = .ok (.iload 4, 2) := by decide +kernel
theorem dX12_chain_79 : decode cX12_chain 79 = .ok (.invokevirtual 331, 3) := by decide +kernel
theorem dX12_chain_82 : decode cX12_chain 82 = .ok (.goto 24, 3) := by decide +kernel
theorem dX12_chain_85 : decode cX12_chain 85 = .ok (.iload_n 2, 1) := by decide +kernel
theorem dX12_chain_86 : decode cX12_chain 86 = .ok (.iconst 2, 1) := by decide +kernel
theorem dX12_chain_87 : decode cX12_chain 87 = .ok (.if_icmp .ne 12, 3) := by decide +kernel
theorem dX12_chain_90 : decode cX12_chain 90 = .ok (.aload_n 0, 1) := by decide +kernel
theorem dX12_chain_91 : decode cX12_chain 91 = .ok (.iload 4, 2) := by decide +kernel
theorem dX12_chain_93 : decode cX12_chain 93 = .ok (.invokevirtual 334, 3) := by decide +kernel
theorem dX12_chain_96 : decode cX12_chain 96 = .ok (.goto 10, 3) := by decide +kernel
theorem dX12_chain_99 : decode cX12_chain 99 = .ok (.aload_n 0, 1) := by decide +kernel
theorem dX12_chain_100 : decode cX12_chain 100 = .ok (.iload_n 3, 1) := by decide +kernel
theorem dX12_chain_101 : decode cX12_chain 101 = .ok (.iload 4, 2) := by decide +kernel
theorem dX12_chain_103 : decode cX12_chain 103 = .ok (.invokevirtual 337, 3) := by decide +kernel
theorem dX12_chain_106 : decode cX12_chain 106 = .ok (.ireturn, 1) := by decide +kernel
theorem dX12_chains_0 : decode cX12_chains 0 = .ok (.aload_n 0, 1) := by decide +kernel
theorem dX12_chains_1 : decode cX12_chains 1 = .ok (.iload_n 1, 1) := by decide +kernel
theorem dX12_chains_2 : decode cX12_chains 2 = .ok (.invokevirtual 323, 3) := by decide +kernel
theorem dX12_chains_5 : decode cX12_chains 5 = .ok (.ifCond .eq 5, 3) := by decide +kernel
theorem dX12_chains_8 : decode cX12_chains 8 = .ok (.iconst 0, 1) := by decide +kernel
theorem dX12_chains_9 : decode cX12_chains 9 = .ok (.ireturn, 1) := by decide +kernel
theorem dX12_chains_10 : decode cX12_chains 10 = .ok (.aload_n 0, 1) := by decide +kernel
theorem dX12_chains_11 : decode cX12_chains 11 = .ok (.iload_n 1, 1) := by decide +kernel
theorem dX12_chains_12 : decode cX12_chains 12 = .ok (.invokevirtual 328, 3) := by decide +kernel
theorem dX12_chains_15 : decode cX12_chains 15 = .ok (.iconst 0, 1) := by decide +kernel
theorem dX12_chains_16 : decode cX12_chains 16 = .ok (.istore_n 2, 1) := by decide +kernel
theorem dX12_chains_17 : decode cX12_chains 17 = .ok (.iconst 0, 1) := by decide +kernel
theorem dX12_chains_18 : decode cX12_chains 18 = .ok (.istore_n 3, 1) := by decide +kernel
theorem dX12_chains_19 : decode cX12_chains 19 = .ok (.iload_n 3, 1) := by decide +kernel
theorem dX12_chains_20 : decode cX12_chains 20 = .ok (.aload_n 0, 1) := by decide +kernel
theorem dX12_chains_21 : decode cX12_chains 21 = .ok (.invokevirtual 212, 3) := by decide +kernel
theorem dX12_chains_24 : decode cX12_chains 24 = .ok (.if_icmp .ge 36, 3) := by decide +kernel
theorem dX12_chains_27 : decode cX12_chains 27 = .ok (.iload_n 2, 1) := by decide +kernel
theorem dX12_chains_28 : decode cX12_chains 28 = .ok (.aload_n 0, 1) := by decide +kernel
theorem dX12_chains_29 : decode cX12_chains 29 = .ok (.iload_n 3, 1) := by decide +kernel
theorem dX12_chains_30 : decode cX12_chains 30 = .ok (.invokevirtual 215, 3) := by decide +kernel
theorem dX12_chains_33 : decode cX12_chains 33 = .ok (.iload_n 1, 1) := by decide +kernel
theorem dX12_chains_34 : decode cX12_chains 34 = .ok (.if_icmp .ne 17, 3) := by decide +kernel
theorem dX12_chains_37 : decode cX12_chains 37 = .ok (.aload_n 0, 1) := by decide +kernel
theorem dX12_chains_38 : decode cX12_chains 38 = .ok (.getfield 55, 3) := by decide +kernel
theorem dX12_chains_41 : decode cX12_chains 41 = .ok (.iload_n 3, 1) := by decide +kernel
theorem dX12_chains_42 : decode cX12_chains 42 = .ok (.iaload, 1) := by decide +kernel
theorem dX12_chains_43 : decode cX12_chains 43 = .ok (.iload_n 3, 1) := by decide +kernel
theorem dX12_chains_44 : decode cX12_chains 44 = .ok (.if_icmp .ne 7, 3) := by decide +kernel
theorem dX12_chains_47 : decode cX12_chains 47 = .ok (.iconst 1, 1) := by decide +kernel
theorem dX12_chains_48 : decode cX12_chains 48 = .ok (.goto 4, 3) := by decide +kernel
theorem dX12_chains_51 : decode cX12_chains 51 = .ok (.iconst 0, 1) := by decide +kernel
theorem dX12_chains_52 : decode cX12_chains 52 = .ok (.iadd, 1) := by decide +kernel
theorem dX12_chains_53 : decode cX12_chains 53 = .ok (.istore_n 2, 1) := by decide +kernel
theorem dX12_chains_54 : decode cX12_chains 54 = .ok (.iinc 3 1, 3) := by decide +kernel
theorem dX12_chains_57 : decode cX12_chains 57 = .ok (.goto (-38), 3) := by decide +kernel
theorem dX12_chains_60 : decode cX12_chains 60 = .ok (.iload_n 2, 1) := by decide +kernel
theorem dX12_chains_61 : decode cX12_chains 61 = .ok (.ireturn, 1) := by decide +kernel
theorem dX12_isSafe_0 : decode cX12_isSafe 0 = .ok (.aload_n 0, 1) := by decide +kernel
theorem dX12_isSafe_1 : decode cX12_isSafe 1 = .ok (.iload_n 1, 1) := by decide +kernel
theorem dX12_isSafe_2 : decode cX12_isSafe 2 = .ok (.invokevirtual 323, 3) := by decide +kernel
theorem dX12_isSafe_5 : decode cX12_isSafe 5 = .ok (.ifCond .eq 5, 3) := by decide +kernel
theorem dX12_isSafe_8 : decode cX12_isSafe 8 = .ok (.iconst 0, 1) := by decide +kernel
theorem dX12_isSafe_9 : decode cX12_isSafe 9 = .ok (.ireturn, 1) := by decide +kernel
theorem dX12_isSafe_10 : decode cX12_isSafe 10 = .ok (.aload_n 0, 1) := by decide +kernel
theorem dX12_isSafe_11 : decode cX12_isSafe 11 = .ok (.iload_n 1, 1) := by decide +kernel
theorem dX12_isSafe_12 : decode cX12_isSafe 12 = .ok (.invokevirtual 328, 3) := by decide +kernel
theorem dX12_isSafe_15 : decode cX12_isSafe 15 = .ok (.iconst 0, 1) := by decide +kernel
theorem dX12_isSafe_16 : decode cX12_isSafe 16 = .ok (.istore_n 2, 1) := by decide +kernel
theorem dX12_isSafe_17 : decode cX12_isSafe 17 = .ok (.iload_n 2, 1) := by decide +kernel
theorem dX12_isSafe_18 : decode cX12_isSafe 18 = .ok (.aload_n 0, 1) := by decide +kernel
theorem dX12_isSafe_19 : decode cX12_isSafe 19 = .ok (.invokevirtual 212, 3) := by decide +kernel
theorem dX12_isSafe_22 : decode cX12_isSafe 22 = .ok (.if_icmp .ge 40, 3) := by decide +kernel
theorem dX12_isSafe_25 : decode cX12_isSafe 25 = .ok (.aload_n 0, 1) := by decide +kernel
theorem dX12_isSafe_26 : decode cX12_isSafe 26 = .ok (.iload_n 2, 1) := by decide +kernel
theorem dX12_isSafe_27 : decode cX12_isSafe 27 = .ok (.invokevirtual 215, 3) := by decide +kernel
theorem dX12_isSafe_30 : decode cX12_isSafe 30 = .ok (.iload_n 1, 1) := by decide +kernel
theorem dX12_isSafe_31 : decode cX12_isSafe 31 = .ok (.if_icmp .ne 25, 3) := by decide +kernel
theorem dX12_isSafe_34 : decode cX12_isSafe 34 = .ok (.aload_n 0, 1) := by decide +kernel
theorem dX12_isSafe_35 : decode cX12_isSafe 35 = .ok (.getfield 55, 3) := by decide +kernel
theorem dX12_isSafe_38 : decode cX12_isSafe 38 = .ok (.iload_n 2, 1) := by decide +kernel
theorem dX12_isSafe_39 : decode cX12_isSafe 39 = .ok (.iaload, 1) := by decide +kernel
theorem dX12_isSafe_40 : decode cX12_isSafe 40 = .ok (.iload_n 2, 1) := by decide +kernel
theorem dX12_isSafe_41 : decode cX12_isSafe 41 = .ok (.if_icmp .ne 15, 3) := by decide +kernel
theorem dX12_isSafe_44 : decode cX12_isSafe 44 = .ok (.aload_n 0, 1) := by decide +kernel
theorem dX12_isSafe_45 : decode cX12_isSafe 45 = .ok (.iload_n 1, 1) := by decide +kernel
theorem dX12_isSafe_46 : decode cX12_isSafe 46 = .ok (.iload_n 2, 1) := by decide +kernel
theorem dX12_isSafe_47 : decode cX12_isSafe 47 = .ok (.invokevirtual 337, 3) := by decide +kernel
theorem dX12_isSafe_50 : decode cX12_isSafe 50 = .ok (.iconst 3, 1) := by decide +kernel
theorem dX12_isSafe_51 : decode cX12_isSafe 51 = .ok (.if_icmp .ne 5, 3) := by decide +kernel
theorem dX12_isSafe_54 : decode cX12_isSafe 54 = .ok (.iconst 1, 1) := by decide +kernel
theorem dX12_isSafe_55 : decode cX12_isSafe 55 = .ok (.ireturn, 1) := by decide +kernel
theorem dX12_isSafe_56 : decode cX12_isSafe 56 = .ok (.iinc 2 1, 3) := by decide +kernel
theorem dX12_isSafe_59 : decode cX12_isSafe 59 = .ok (.goto (-42), 3) := by decide +kernel
theorem dX12_isSafe_62 : decode cX12_isSafe 62 = .ok (.iconst 0, 1) := by decide +kernel
theorem dX12_isSafe_63 : decode cX12_isSafe 63 = .ok (.ireturn, 1) := by decide +kernel
theorem dX12_answerBy_0 : decode cX12_answerBy 0 = .ok (.aload_n 0, 1) := by decide +kernel
theorem dX12_answerBy_1 : decode cX12_answerBy 1 = .ok (.iload_n 1, 1) := by decide +kernel
theorem dX12_answerBy_2 : decode cX12_answerBy 2 = .ok (.invokevirtual 288, 3) := by decide +kernel
theorem dX12_answerBy_5 : decode cX12_answerBy 5 = .ok (.iconst 0, 1) := by decide +kernel
theorem dX12_answerBy_6 : decode cX12_answerBy 6 = .ok (.istore_n 3, 1) := by decide +kernel
theorem dX12_answerBy_7 : decode cX12_answerBy 7 = .ok (.iload_n 3, 1) := by decide +kernel
theorem dX12_answerBy_8 : decode cX12_answerBy 8 = .ok (.aload_n 0, 1) := by decide +kernel
theorem dX12_answerBy_9 : decode cX12_answerBy 9 = .ok (.getfield 272, 3) := by decide +kernel
theorem dX12_answerBy_12 : decode cX12_answerBy 12 = .ok (.if_icmp .ge 55, 3) := by decide +kernel
theorem dX12_answerBy_15 : decode cX12_answerBy 15 = .ok (.aload_n 0, 1) := by decide +kernel
theorem dX12_answerBy_16 : decode cX12_answerBy 16 = .ok (.getfield 49, 3) := by decide +kernel
theorem dX12_answerBy_19 : decode cX12_answerBy 19 = .ok (.iload_n 3, 1) := by decide +kernel
theorem dX12_answerBy_20 : decode cX12_answerBy 20 = .ok (.baload, 1) := by decide +kernel
theorem dX12_answerBy_21 : decode cX12_answerBy 21 = .ok (.ifCond .ne 6, 3) := by decide +kernel
theorem dX12_answerBy_24 : decode cX12_answerBy 24 = .ok (.goto 37, 3) := by decide +kernel
theorem dX12_answerBy_27 : decode cX12_answerBy 27 = .ok (.aload_n 0, 1) := by decide +kernel
theorem dX12_answerBy_28 : decode cX12_answerBy 28 = .ok (.getfield 43, 3) := by decide +kernel
theorem dX12_answerBy_31 : decode cX12_answerBy 31 = .ok (.iload_n 3, 1) := by decide +kernel
theorem dX12_answerBy_32 : decode cX12_answerBy 32 = .ok (.iaload, 1) := by decide +kernel
theorem dX12_answerBy_33 : decode cX12_answerBy 33 = .ok (.iload_n 2, 1) := by decide +kernel
theorem dX12_answerBy_34 : decode cX12_answerBy 34 = .ok (.if_icmp .ne 10, 3) := by decide +kernel
theorem dX12_answerBy_37 : decode cX12_answerBy 37 = .ok (.aload_n 0, 1) := by decide +kernel
theorem dX12_answerBy_38 : decode cX12_answerBy 38 = .ok (.getfield 46, 3) := by decide +kernel
theorem dX12_answerBy_41 : decode cX12_answerBy 41 = .ok (.iload_n 3, 1) := by decide +kernel
theorem dX12_answerBy_42 : decode cX12_answerBy 42 = .ok (.iaload, 1) := by decide +kernel
theorem dX12_answerBy_43 : decode cX12_answerBy 43 = .ok (.ireturn, 1) := by decide +kernel
theorem dX12_answerBy_44 : decode cX12_answerBy 44 = .ok (.aload_n 0, 1) := by decide +kernel
theorem dX12_answerBy_45 : decode cX12_answerBy 45 = .ok (.getfield 46, 3) := by decide +kernel
theorem dX12_answerBy_48 : decode cX12_answerBy 48 = .ok (.iload_n 3, 1) := by decide +kernel
theorem dX12_answerBy_49 : decode cX12_answerBy 49 = .ok (.iaload, 1) := by decide +kernel
theorem dX12_answerBy_50 : decode cX12_answerBy 50 = .ok (.iload_n 2, 1) := by decide +kernel
theorem dX12_answerBy_51 : decode cX12_answerBy 51 = .ok (.if_icmp .ne 10, 3) := by decide +kernel
theorem dX12_answerBy_54 : decode cX12_answerBy 54 = .ok (.aload_n 0, 1) := by decide +kernel
theorem dX12_answerBy_55 : decode cX12_answerBy 55 = .ok (.getfield 43, 3) := by decide +kernel
theorem dX12_answerBy_58 : decode cX12_answerBy 58 = .ok (.iload_n 3, 1) := by decide +kernel
theorem dX12_answerBy_59 : decode cX12_answerBy 59 = .ok (.iaload, 1) := by decide +kernel
theorem dX12_answerBy_60 : decode cX12_answerBy 60 = .ok (.ireturn, 1) := by decide +kernel
theorem dX12_answerBy_61 : decode cX12_answerBy 61 = .ok (.iinc 3 1, 3) := by decide +kernel
theorem dX12_answerBy_64 : decode cX12_answerBy 64 = .ok (.goto (-57), 3) := by decide +kernel
theorem dX12_answerBy_67 : decode cX12_answerBy 67 = .ok (.iconst (-1), 1) := by decide +kernel
theorem dX12_answerBy_68 : decode cX12_answerBy 68 = .ok (.ireturn, 1) := by decide +kernel
theorem dX12_answer_0 : decode cX12_answer 0 = .ok (.aload_n 0, 1) := by decide +kernel
theorem dX12_answer_1 : decode cX12_answer 1 = .ok (.iload_n 1, 1) := by decide +kernel
theorem dX12_answer_2 : decode cX12_answer 2 = .ok (.invokevirtual 308, 3) := by decide +kernel
theorem dX12_answer_5 : decode cX12_answer 5 = .ok (.ifCond .eq 5, 3) := by decide +kernel
theorem dX12_answer_8 : decode cX12_answer 8 = .ok (.iconst 0, 1) := by decide +kernel
theorem dX12_answer_9 : decode cX12_answer 9 = .ok (.ireturn, 1) := by decide +kernel
theorem dX12_answer_10 : decode cX12_answer 10 = .ok (.aload_n 0, 1) := by decide +kernel
theorem dX12_answer_11 : decode cX12_answer 11 = .ok (.iload_n 1, 1) := by decide +kernel
theorem dX12_answer_12 : decode cX12_answer 12 = .ok (.invokevirtual 215, 3) := by decide +kernel
theorem dX12_answer_15 : decode cX12_answer 15 = .ok (.iconst (-1), 1) := by decide +kernel
theorem dX12_answer_16 : decode cX12_answer 16 = .ok (.if_icmp .ne 19, 3) := by decide +kernel
theorem dX12_answer_19 : decode cX12_answer 19 = .ok (.aload_n 0, 1) := by decide +kernel
theorem dX12_answer_20 : decode cX12_answer 20 = .ok (.iconst 1, 1) := by decide +kernel
theorem dX12_answer_21 : decode cX12_answer 21 = .ok (.aload_n 0, 1) := by decide +kernel
theorem dX12_answer_22 : decode cX12_answer 22 = .ok (.getfield 9, 3) := by decide +kernel
theorem dX12_answer_25 : decode cX12_answer 25 = .ok (.iconst 2, 1) := by decide +kernel
theorem dX12_answer_26 : decode cX12_answer 26 = .ok (.iaload, 1) := by decide +kernel
theorem dX12_answer_27 : decode cX12_answer 27 = .ok (.isub, 1) := by decide +kernel
theorem dX12_answer_28 : decode cX12_answer 28 = .ok (.iload_n 1, 1) := by decide +kernel
theorem dX12_answer_29 : decode cX12_answer 29 = .ok (.invokevirtual 340, 3) := by decide +kernel
theorem dX12_answer_32 : decode cX12_answer 32 = .ok (.goto 4, 3) := by decide +kernel
theorem dX12_answer_35 : decode cX12_answer 35 = .ok (.iconst (-1), 1) := by decide +kernel
theorem dX12_answer_36 : decode cX12_answer 36 = .ok (.ireturn, 1) := by decide +kernel
theorem dX12_isThreat_0 : decode cX12_isThreat 0 = .ok (.aload_n 0, 1) := by decide +kernel
theorem dX12_isThreat_1 : decode cX12_isThreat 1 = .ok (.iload_n 2, 1) := by decide +kernel
theorem dX12_isThreat_2 : decode cX12_isThreat 2 = .ok (.invokevirtual 215, 3) := by decide +kernel
theorem dX12_isThreat_5 : decode cX12_isThreat 5 = .ok (.iconst (-1), 1) := by decide +kernel
theorem dX12_isThreat_6 : decode cX12_isThreat 6 = .ok (.if_icmp .eq 5, 3) := by decide +kernel
theorem dX12_isThreat_9 : decode cX12_isThreat 9 = .ok (.iconst 0, 1) := by decide +kernel
theorem dX12_isThreat_10 : decode cX12_isThreat 10 = .ok (.ireturn, 1) := by decide +kernel
theorem dX12_isThreat_11 : decode cX12_isThreat 11 = .ok (.aload_n 0, 1) := by decide +kernel
theorem dX12_isThreat_12 : decode cX12_isThreat 12 = .ok (.getfield 9, 3) := by decide +kernel
theorem dX12_isThreat_15 : decode cX12_isThreat 15 = .ok (.iconst 5, 1) := by decide +kernel
theorem dX12_isThreat_16 : decode cX12_isThreat 16 = .ok (.iload_n 2, 1) := by decide +kernel
theorem dX12_isThreat_17 : decode cX12_isThreat 17 = .ok (.iadd, 1) := by decide +kernel
theorem dX12_isThreat_18 : decode cX12_isThreat 18 = .ok (.iload_n 1, 1) := by decide +kernel
theorem dX12_isThreat_19 : decode cX12_isThreat 19 = .ok (.iastore, 1) := by decide +kernel
theorem dX12_isThreat_20 : decode cX12_isThreat 20 = .ok (.aload_n 0, 1) := by decide +kernel
theorem dX12_isThreat_21 : decode cX12_isThreat 21 = .ok (.iload_n 1, 1) := by decide +kernel
theorem dX12_isThreat_22 : decode cX12_isThreat 22 = .ok (.invokevirtual 248, 3) := by decide +kernel
theorem dX12_isThreat_25 : decode cX12_isThreat 25 = .ok (.istore_n 3, 1) := by decide +kernel
theorem dX12_isThreat_26 : decode cX12_isThreat 26 = .ok (.aload_n 0, 1) := by decide +kernel
theorem dX12_isThreat_27 : decode cX12_isThreat 27 = .ok (.getfield 9, 3) := by decide +kernel
theorem dX12_isThreat_30 : decode cX12_isThreat 30 = .ok (.iconst 5, 1) := by decide +kernel
theorem dX12_isThreat_31 : decode cX12_isThreat 31 = .ok (.iload_n 2, 1) := by decide +kernel
theorem dX12_isThreat_32 : decode cX12_isThreat 32 = .ok (.iadd, 1) := by decide +kernel
theorem dX12_isThreat_33 : decode cX12_isThreat 33 = .ok (.iconst (-1), 1) := by decide +kernel
theorem dX12_isThreat_34 : decode cX12_isThreat 34 = .ok (.iastore, 1) := by decide +kernel
theorem dX12_isThreat_35 : decode cX12_isThreat 35 = .ok (.iload_n 3, 1) := by decide +kernel
theorem dX12_isThreat_36 : decode cX12_isThreat 36 = .ok (.ireturn, 1) := by decide +kernel
theorem dX12_threatOf_0 : decode cX12_threatOf 0 = .ok (.aload_n 0, 1) := by decide +kernel
theorem dX12_threatOf_1 : decode cX12_threatOf 1 = .ok (.iload_n 1, 1) := by decide +kernel
theorem dX12_threatOf_2 : decode cX12_threatOf 2 = .ok (.invokevirtual 248, 3) := by decide +kernel
theorem dX12_threatOf_5 : decode cX12_threatOf 5 = .ok (.ifCond .eq 5, 3) := by decide +kernel
theorem dX12_threatOf_8 : decode cX12_threatOf 8 = .ok (.iconst (-1), 1) := by decide +kernel
theorem dX12_threatOf_9 : decode cX12_threatOf 9 = .ok (.ireturn, 1) := by decide +kernel
theorem dX12_threatOf_10 : decode cX12_threatOf 10 = .ok (.iload_n 2, 1) := by decide +kernel
theorem dX12_threatOf_11 : decode cX12_threatOf 11 = .ok (.istore_n 3, 1) := by decide +kernel
theorem dX12_threatOf_12 : decode cX12_threatOf 12 = .ok (.iconst 0, 1) := by decide +kernel
theorem dX12_threatOf_13 : decode cX12_threatOf 13 = .ok (.istore 4, 2) := by decide +kernel
theorem dX12_threatOf_15 : decode cX12_threatOf 15 = .ok (.iload 4, 2) := by decide +kernel
theorem dX12_threatOf_17 : decode cX12_threatOf 17 = .ok (.aload_n 0, 1) := by decide +kernel
theorem dX12_threatOf_18 : decode cX12_threatOf 18 = .ok (.invokevirtual 212, 3) := by decide +kernel
theorem dX12_threatOf_21 : decode cX12_threatOf 21 = .ok (.if_icmp .ge 32, 3) := by decide +kernel
theorem dX12_threatOf_24 : decode cX12_threatOf 24 = .ok (.aload_n 0, 1) := by decide +kernel
theorem dX12_threatOf_25 : decode cX12_threatOf 25 = .ok (.iload_n 1, 1) := by decide +kernel
theorem dX12_threatOf_26 : decode cX12_threatOf 26 = .ok (.iload 4, 2) := by decide +kernel
theorem dX12_threatOf_28 : decode cX12_threatOf 28 = .ok (.invokevirtual 343, 3) := by decide +kernel
theorem dX12_threatOf_31 : decode cX12_threatOf 31 = .ok (.ifCond .ne 6, 3) := by decide +kernel
theorem dX12_threatOf_34 : decode cX12_threatOf 34 = .ok (.goto 13, 3) := by decide +kernel
theorem dX12_threatOf_37 : decode cX12_threatOf 37 = .ok (.iload_n 3, 1) := by decide +kernel
theorem dX12_threatOf_38 : decode cX12_threatOf 38 = .ok (.ifCond .ne 6, 3) := by decide +kernel
theorem dX12_threatOf_41 : decode cX12_threatOf 41 = .ok (.iload 4, 2) := by decide +kernel
theorem dX12_threatOf_43 : decode cX12_threatOf 43 = .ok (.ireturn, 1) := by decide +kernel
theorem dX12_threatOf_44 : decode cX12_threatOf 44 = .ok (.iinc 3 (-1), 3) := by decide +kernel
theorem dX12_threatOf_47 : decode cX12_threatOf 47 = .ok (.iinc 4 1, 3) := by decide +kernel
theorem dX12_threatOf_50 : decode cX12_threatOf 50 = .ok (.goto (-35), 3) := by decide +kernel
theorem dX12_threatOf_53 : decode cX12_threatOf 53 = .ok (.iconst (-1), 1) := by decide +kernel
theorem dX12_threatOf_54 : decode cX12_threatOf 54 = .ok (.ireturn, 1) := by decide +kernel
theorem dX12_threats_0 : decode cX12_threats 0 = .ok (.aload_n 0, 1) := by decide +kernel
theorem dX12_threats_1 : decode cX12_threats 1 = .ok (.iload_n 1, 1) := by decide +kernel
theorem dX12_threats_2 : decode cX12_threats 2 = .ok (.invokevirtual 323, 3) := by decide +kernel
theorem dX12_threats_5 : decode cX12_threats 5 = .ok (.ifCond .ne 11, 3) := by decide +kernel
theorem dX12_threats_8 : decode cX12_threats 8 = .ok (.aload_n 0, 1) := by decide +kernel
theorem dX12_threats_9 : decode cX12_threats 9 = .ok (.iload_n 1, 1) := by decide +kernel
theorem dX12_threats_10 : decode cX12_threats 10 = .ok (.invokevirtual 248, 3) := by decide +kernel
theorem dX12_threats_13 : decode cX12_threats 13 = .ok (.ifCond .eq 5, 3) := by decide +kernel
theorem dX12_threats_16 : decode cX12_threats 16 = .ok (.iconst 0, 1) := by decide +kernel
theorem dX12_threats_17 : decode cX12_threats 17 = .ok (.ireturn, 1) := by decide +kernel
theorem dX12_threats_18 : decode cX12_threats 18 = .ok (.iconst 0, 1) := by decide +kernel
theorem dX12_threats_19 : decode cX12_threats 19 = .ok (.istore_n 2, 1) := by decide +kernel
theorem dX12_threats_20 : decode cX12_threats 20 = .ok (.iconst 0, 1) := by decide +kernel
theorem dX12_threats_21 : decode cX12_threats 21 = .ok (.istore_n 3, 1) := by decide +kernel
theorem dX12_threats_22 : decode cX12_threats 22 = .ok (.iload_n 3, 1) := by decide +kernel
theorem dX12_threats_23 : decode cX12_threats 23 = .ok (.aload_n 0, 1) := by decide +kernel
theorem dX12_threats_24 : decode cX12_threats 24 = .ok (.invokevirtual 212, 3) := by decide +kernel
theorem dX12_threats_27 : decode cX12_threats 27 = .ok (.if_icmp .ge 26, 3) := by decide +kernel
theorem dX12_threats_30 : decode cX12_threats 30 = .ok (.iload_n 2, 1) := by decide +kernel
theorem dX12_threats_31 : decode cX12_threats 31 = .ok (.aload_n 0, 1) := by decide +kernel
theorem dX12_threats_32 : decode cX12_threats 32 = .ok (.iload_n 1, 1) := by decide +kernel
theorem dX12_threats_33 : decode cX12_threats 33 = .ok (.iload_n 3, 1) := by decide +kernel
theorem dX12_threats_34 : decode cX12_threats 34 = .ok (.invokevirtual 343, 3) := by decide +kernel
theorem dX12_threats_37 : decode cX12_threats 37 = .ok (.ifCond .eq 7, 3) := by decide +kernel
theorem dX12_threats_40 : decode cX12_threats 40 = .ok (.iconst 1, 1) := by decide +kernel
theorem dX12_threats_41 : decode cX12_threats 41 = .ok (.goto 4, 3) := by decide +kernel
theorem dX12_threats_44 : decode cX12_threats 44 = .ok (.iconst 0, 1) := by decide +kernel
theorem dX12_threats_45 : decode cX12_threats 45 = .ok (.iadd, 1) := by decide +kernel
theorem dX12_threats_46 : decode cX12_threats 46 = .ok (.istore_n 2, 1) := by decide +kernel
theorem dX12_threats_47 : decode cX12_threats 47 = .ok (.iinc 3 1, 3) := by decide +kernel
theorem dX12_threats_50 : decode cX12_threats 50 = .ok (.goto (-28), 3) := by decide +kernel
theorem dX12_threats_53 : decode cX12_threats 53 = .ok (.iload_n 2, 1) := by decide +kernel
theorem dX12_threats_54 : decode cX12_threats 54 = .ok (.ireturn, 1) := by decide +kernel
theorem dX12_threat_0 : decode cX12_threat 0 = .ok (.aload_n 0, 1) := by decide +kernel
theorem dX12_threat_1 : decode cX12_threat 1 = .ok (.iload_n 1, 1) := by decide +kernel
theorem dX12_threat_2 : decode cX12_threat 2 = .ok (.invokevirtual 323, 3) := by decide +kernel
theorem dX12_threat_5 : decode cX12_threat 5 = .ok (.ifCond .eq 7, 3) := by decide +kernel
theorem dX12_threat_8 : decode cX12_threat 8 = .ok (.iconst 0, 1) := by decide +kernel
theorem dX12_threat_9 : decode cX12_threat 9 = .ok (.goto 9, 3) := by decide +kernel
theorem dX12_threat_12 : decode cX12_threat 12 = .ok (.aload_n 0, 1) := by decide +kernel
theorem dX12_threat_13 : decode cX12_threat 13 = .ok (.iload_n 1, 1) := by decide +kernel
theorem dX12_threat_14 : decode cX12_threat 14 = .ok (.iload_n 2, 1) := by decide +kernel
theorem dX12_threat_15 : decode cX12_threat 15 = .ok (.invokevirtual 346, 3) := by decide +kernel
theorem dX12_threat_18 : decode cX12_threat 18 = .ok (.ireturn, 1) := by decide +kernel
theorem dX12_answerToLatest_0 : decode cX12_answerToLatest 0 = .ok (.aload_n 0, 1) := by decide +kernel
theorem dX12_answerToLatest_1 : decode cX12_answerToLatest 1 = .ok (.getfield 9, 3) := by decide +kernel
theorem dX12_answerToLatest_4 : decode cX12_answerToLatest 4 = .ok (.iconst 4, 1) := by decide +kernel
theorem dX12_answerToLatest_5 : decode cX12_answerToLatest 5 = .ok (.iaload, 1) := by decide +kernel
theorem dX12_answerToLatest_6 : decode cX12_answerToLatest 6 = .ok (.ifCond .ne 5, 3) := by decide +kernel
theorem dX12_answerToLatest_9 : decode cX12_answerToLatest 9 = .ok (.iconst (-1), 1) := by decide +kernel
theorem dX12_answerToLatest_10 : decode cX12_answerToLatest 10 = .ok (.ireturn, 1) := by decide +kernel
theorem dX12_answerToLatest_11 : decode cX12_answerToLatest 11 = .ok (.aload_n 0, 1) := by decide +kernel
theorem dX12_answerToLatest_12 : decode cX12_answerToLatest 12 = .ok (.getfield 9, 3) := by decide +kernel
theorem dX12_answerToLatest_15 : decode cX12_answerToLatest 15 = .ok (.bipush 86, 2) := by decide +kernel
theorem dX12_answerToLatest_17 : decode cX12_answerToLatest 17 = .ok (.aload_n 0, 1) := by decide +kernel
theorem dX12_answerToLatest_18 : decode cX12_answerToLatest 18 = .ok (.getfield 9, 3) := by decide +kernel
theorem dX12_answerToLatest_21 : decode cX12_answerToLatest 21 = .ok (.iconst 4, 1) := by decide +kernel
theorem dX12_answerToLatest_22 : decode cX12_answerToLatest 22 = .ok (.iaload, 1) := by decide +kernel
theorem dX12_answerToLatest_23 : decode cX12_answerToLatest 23 = .ok (.iadd, 1) := by decide +kernel
theorem dX12_answerToLatest_24 : decode cX12_answerToLatest 24 = .ok (.iconst 1, 1) := by decide +kernel
theorem dX12_answerToLatest_25 : decode cX12_answerToLatest 25 = .ok (.isub, 1) := by decide +kernel
theorem dX12_answerToLatest_26 : decode cX12_answerToLatest 26 = .ok (.iaload, 1) := by decide +kernel
theorem dX12_answerToLatest_27 : decode cX12_answerToLatest 27 = .ok (.istore_n 1, 1) := by decide +kernel
theorem dX12_answerToLatest_28 : decode cX12_answerToLatest 28 = .ok (.aload_n 0, 1) := by decide +kernel
theorem dX12_answerToLatest_29 : decode cX12_answerToLatest 29 = .ok (.iload_n 1, 1) := by decide +kernel
theorem dX12_answerToLatest_30 : decode cX12_answerToLatest 30 = .ok (.invokevirtual 215, 3) := by decide +kernel
theorem dX12_answerToLatest_33 : decode cX12_answerToLatest 33 = .ok (.iconst 1, 1) := by decide +kernel
theorem dX12_answerToLatest_34 : decode cX12_answerToLatest 34 = .ok (.aload_n 0, 1) := by decide +kernel
theorem dX12_answerToLatest_35 : decode cX12_answerToLatest 35 = .ok (.getfield 9, 3) := by decide +kernel
theorem dX12_answerToLatest_38 : decode cX12_answerToLatest 38 = .ok (.iconst 2, 1) := by decide +kernel
theorem dX12_answerToLatest_39 : decode cX12_answerToLatest 39 = .ok (.iaload, 1) := by decide +kernel
theorem dX12_answerToLatest_40 : decode cX12_answerToLatest 40 = .ok (.isub, 1) := by decide +kernel
theorem dX12_answerToLatest_41 : decode cX12_answerToLatest 41 = .ok (.if_icmp .eq 5, 3) := by decide +kernel
theorem dX12_answerToLatest_44 : decode cX12_answerToLatest 44 = .ok (.iconst (-1), 1) := by decide +kernel
theorem dX12_answerToLatest_45 : decode cX12_answerToLatest 45 = .ok (.ireturn, 1) := by decide +kernel
theorem dX12_answerToLatest_46 : decode cX12_answerToLatest 46 = .ok (.aload_n 0, 1) := by decide +kernel
theorem dX12_answerToLatest_47 : decode cX12_answerToLatest 47 = .ok (.getfield 9, 3) := by decide +kernel
theorem dX12_answerToLatest_50 : decode cX12_answerToLatest 50 = .ok (.iconst 5, 1) := by decide +kernel
theorem dX12_answerToLatest_51 : decode cX12_answerToLatest 51 = .ok (.iload_n 1, 1) := by decide +kernel
theorem dX12_answerToLatest_52 : decode cX12_answerToLatest 52 = .ok (.iadd, 1) := by decide +kernel
theorem dX12_answerToLatest_53 : decode cX12_answerToLatest 53 = .ok (.iconst (-1), 1) := by decide +kernel
theorem dX12_answerToLatest_54 : decode cX12_answerToLatest 54 = .ok (.iastore, 1) := by decide +kernel
theorem dX12_answerToLatest_55 : decode cX12_answerToLatest 55 = .ok (.aload_n 0, 1) := by decide +kernel
theorem dX12_answerToLatest_56 : decode cX12_answerToLatest 56 = .ok (.aload_n 0, 1) := by decide +kernel
theorem dX12_answerToLatest_57 : decode cX12_answerToLatest 57 = .ok (.getfield 9, 3) := by decide +kernel
theorem dX12_answerToLatest_60 : decode cX12_answerToLatest 60 = .ok (.iconst 2, 1) := by decide +kernel
theorem dX12_answerToLatest_61 : decode cX12_answerToLatest 61 = .ok (.iaload, 1) := by decide +kernel
theorem dX12_answerToLatest_62 : decode cX12_answerToLatest 62 = .ok (.iload_n 1, 1) := by decide +kernel
theorem dX12_answerToLatest_63 : decode cX12_answerToLatest 63 = .ok (.invokevirtual 340, 3) := by decide +kernel
theorem dX12_answerToLatest_66 : decode cX12_answerToLatest 66 = .ok (.istore_n 2, 1) := by decide +kernel
theorem dX12_answerToLatest_67 : decode cX12_answerToLatest 67 = .ok (.aload_n 0, 1) := by decide +kernel
theorem dX12_answerToLatest_68 : decode cX12_answerToLatest 68 = .ok (.getfield 9, 3) := by decide +kernel
theorem dX12_answerToLatest_71 : decode cX12_answerToLatest 71 = .ok (.iconst 5, 1) := by decide +kernel
theorem dX12_answerToLatest_72 : decode cX12_answerToLatest 72 = .ok (.iload_n 1, 1) := by decide +kernel
theorem dX12_answerToLatest_73 : decode cX12_answerToLatest 73 = .ok (.iadd, 1) := by decide +kernel
theorem dX12_answerToLatest_74 : decode cX12_answerToLatest 74 = .ok (.iconst 1, 1) := by decide +kernel
theorem dX12_answerToLatest_75 : decode cX12_answerToLatest 75 = .ok (.aload_n 0, 1) := by decide +kernel
theorem dX12_answerToLatest_76 : decode cX12_answerToLatest 76 = .ok (.getfield 9, 3) := by decide +kernel
theorem dX12_answerToLatest_79 : decode cX12_answerToLatest 79 = .ok (.iconst 2, 1) := by decide +kernel
theorem dX12_answerToLatest_80 : decode cX12_answerToLatest 80 = .ok (.iaload, 1) := by decide +kernel
theorem dX12_answerToLatest_81 : decode cX12_answerToLatest 81 = .ok (.isub, 1) := by decide +kernel
theorem dX12_answerToLatest_82 : decode cX12_answerToLatest 82 = .ok (.iastore, 1) := by decide +kernel
theorem dX12_answerToLatest_83 : decode cX12_answerToLatest 83 = .ok (.iload_n 2, 1) := by decide +kernel
theorem dX12_answerToLatest_84 : decode cX12_answerToLatest 84 = .ok (.ireturn, 1) := by decide +kernel
theorem dX12_forcedNow_0 : decode cX12_forcedNow 0 = .ok (.aload_n 0, 1) := by decide +kernel
theorem dX12_forcedNow_1 : decode cX12_forcedNow 1 = .ok (.invokevirtual 155, 3) := by decide +kernel
theorem dX12_forcedNow_4 : decode cX12_forcedNow 4 = .ok (.iconst (-1), 1) := by decide +kernel
theorem dX12_forcedNow_5 : decode cX12_forcedNow 5 = .ok (.if_icmp .eq 5, 3) := by decide +kernel
theorem dX12_forcedNow_8 : decode cX12_forcedNow 8 = .ok (.iconst (-1), 1) := by decide +kernel
theorem dX12_forcedNow_9 : decode cX12_forcedNow 9 = .ok (.ireturn, 1) := by decide +kernel
theorem dX12_forcedNow_10 : decode cX12_forcedNow 10 = .ok (.aload_n 0, 1) := by decide +kernel
theorem dX12_forcedNow_11 : decode cX12_forcedNow 11 = .ok (.aload_n 0, 1) := by decide +kernel
theorem dX12_forcedNow_12 : decode cX12_forcedNow 12 = .ok (.getfield 9, 3) := by decide +kernel
theorem dX12_forcedNow_15 : decode cX12_forcedNow 15 = .ok (.iconst 2, 1) := by decide +kernel
theorem dX12_forcedNow_16 : decode cX12_forcedNow 16 = .ok (.iaload, 1) := by decide +kernel
theorem dX12_forcedNow_17 : decode cX12_forcedNow 17 = .ok (.iconst 0, 1) := by decide +kernel
theorem dX12_forcedNow_18 : decode cX12_forcedNow 18 = .ok (.invokevirtual 346, 3) := by decide +kernel
theorem dX12_forcedNow_21 : decode cX12_forcedNow 21 = .ok (.istore_n 1, 1) := by decide +kernel
theorem dX12_forcedNow_22 : decode cX12_forcedNow 22 = .ok (.iload_n 1, 1) := by decide +kernel
theorem dX12_forcedNow_23 : decode cX12_forcedNow 23 = .ok (.iconst (-1), 1) := by decide +kernel
theorem dX12_forcedNow_24 : decode cX12_forcedNow 24 = .ok (.if_icmp .eq 5, 3) := by decide +kernel
theorem dX12_forcedNow_27 : decode cX12_forcedNow 27 = .ok (.iload_n 1, 1) := by decide +kernel
theorem dX12_forcedNow_28 : decode cX12_forcedNow 28 = .ok (.ireturn, 1) := by decide +kernel
theorem dX12_forcedNow_29 : decode cX12_forcedNow 29 = .ok (.aload_n 0, 1) := by decide +kernel
theorem dX12_forcedNow_30 : decode cX12_forcedNow 30 = .ok (.iconst 1, 1) := by decide +kernel
theorem dX12_forcedNow_31 : decode cX12_forcedNow 31 = .ok (.aload_n 0, 1) := by decide +kernel
theorem dX12_forcedNow_32 : decode cX12_forcedNow 32 = .ok (.getfield 9, 3) := by decide +kernel
theorem dX12_forcedNow_35 : decode cX12_forcedNow 35 = .ok (.iconst 2, 1) := by decide +kernel
theorem dX12_forcedNow_36 : decode cX12_forcedNow 36 = .ok (.iaload, 1) := by decide +kernel
theorem dX12_forcedNow_37 : decode cX12_forcedNow 37 = .ok (.isub, 1) := by decide +kernel
theorem dX12_forcedNow_38 : decode cX12_forcedNow 38 = .ok (.iconst 0, 1) := by decide +kernel
theorem dX12_forcedNow_39 : decode cX12_forcedNow 39 = .ok (.invokevirtual 346, 3) := by decide +kernel
theorem dX12_forcedNow_42 : decode cX12_forcedNow 42 = .ok (.istore_n 2, 1) := by decide +kernel
theorem dX12_forcedNow_43 : decode cX12_forcedNow 43 = .ok (.iload_n 2, 1) := by decide +kernel
theorem dX12_forcedNow_44 : decode cX12_forcedNow 44 = .ok (.iconst (-1), 1) := by decide +kernel
theorem dX12_forcedNow_45 : decode cX12_forcedNow 45 = .ok (.if_icmp .ne 8, 3) := by decide +kernel
theorem dX12_forcedNow_48 : decode cX12_forcedNow 48 = .ok (.aload_n 0, 1) := by decide +kernel
theorem dX12_forcedNow_49 : decode cX12_forcedNow 49 = .ok (.invokevirtual 349, 3) := by decide +kernel
theorem dX12_forcedNow_52 : decode cX12_forcedNow 52 = .ok (.ireturn, 1) := by decide +kernel
theorem dX12_forcedNow_53 : decode cX12_forcedNow 53 = .ok (.aload_n 0, 1) := by decide +kernel
theorem dX12_forcedNow_54 : decode cX12_forcedNow 54 = .ok (.iconst 1, 1) := by decide +kernel
theorem dX12_forcedNow_55 : decode cX12_forcedNow 55 = .ok (.aload_n 0, 1) := by decide +kernel
theorem dX12_forcedNow_56 : decode cX12_forcedNow 56 = .ok (.getfield 9, 3) := by decide +kernel
theorem dX12_forcedNow_59 : decode cX12_forcedNow 59 = .ok (.iconst 2, 1) := by decide +kernel
theorem dX12_forcedNow_60 : decode cX12_forcedNow 60 = .ok (.iaload, 1) := by decide +kernel
theorem dX12_forcedNow_61 : decode cX12_forcedNow 61 = .ok (.isub, 1) := by decide +kernel
theorem dX12_forcedNow_62 : decode cX12_forcedNow 62 = .ok (.iconst 1, 1) := by decide +kernel
theorem dX12_forcedNow_63 : decode cX12_forcedNow 63 = .ok (.invokevirtual 346, 3) := by decide +kernel
theorem dX12_forcedNow_66 : decode cX12_forcedNow 66 = .ok (.iconst (-1), 1) := by decide +kernel
theorem dX12_forcedNow_67 : decode cX12_forcedNow 67 = .ok (.if_icmp .ne 7, 3) := by decide +kernel
theorem dX12_forcedNow_70 : decode cX12_forcedNow 70 = .ok (.iload_n 2, 1) := by decide +kernel
theorem dX12_forcedNow_71 : decode cX12_forcedNow 71 = .ok (.goto 4, 3) := by decide +kernel
theorem dX12_forcedNow_74 : decode cX12_forcedNow 74 = .ok (.iconst (-1), 1) := by decide +kernel
theorem dX12_forcedNow_75 : decode cX12_forcedNow 75 = .ok (.ireturn, 1) := by decide +kernel
theorem dX12_forced_0 : decode cX12_forced 0 = .ok (.aload_n 0, 1) := by decide +kernel
theorem dX12_forced_1 : decode cX12_forced 1 = .ok (.iconst 0, 1) := by decide +kernel
theorem dX12_forced_2 : decode cX12_forced 2 = .ok (.putfield 77, 3) := by decide +kernel
theorem dX12_forced_5 : decode cX12_forced 5 = .ok (.aload_n 0, 1) := by decide +kernel
theorem dX12_forced_6 : decode cX12_forced 6 = .ok (.invokevirtual 352, 3) := by decide +kernel
theorem dX12_forced_9 : decode cX12_forced 9 = .ok (.ireturn, 1) := by decide +kernel
theorem dX12_cost_0 : decode cX12_cost 0 = .ok (.aload_n 0, 1) := by decide +kernel
theorem dX12_cost_1 : decode cX12_cost 1 = .ok (.iload_n 2, 1) := by decide +kernel
theorem dX12_cost_2 : decode cX12_cost 2 = .ok (.invokevirtual 215, 3) := by decide +kernel
theorem dX12_cost_5 : decode cX12_cost 5 = .ok (.iload_n 1, 1) := by decide +kernel
theorem dX12_cost_6 : decode cX12_cost 6 = .ok (.if_icmp .ne 7, 3) := by decide +kernel
theorem dX12_cost_9 : decode cX12_cost 9 = .ok (.iconst 0, 1) := by decide +kernel
theorem dX12_cost_10 : decode cX12_cost 10 = .ok (.goto 19, 3) := by decide +kernel
theorem dX12_cost_13 : decode cX12_cost 13 = .ok (.aload_n 0, 1) := by decide +kernel
theorem dX12_cost_14 : decode cX12_cost 14 = .ok (.iload_n 2, 1) := by decide +kernel
theorem dX12_cost_15 : decode cX12_cost 15 = .ok (.invokevirtual 215, 3) := by decide +kernel
theorem dX12_cost_18 : decode cX12_cost 18 = .ok (.iconst (-1), 1) := by decide +kernel
theorem dX12_cost_19 : decode cX12_cost 19 = .ok (.if_icmp .ne 7, 3) := by decide +kernel
theorem dX12_cost_22 : decode cX12_cost 22 = .ok (.iconst 1, 1) := by decide +kernel
theorem dX12_cost_23 : decode cX12_cost 23 = .ok (.goto 6, 3) := by decide +kernel
theorem dX12_cost_26 : decode cX12_cost 26 = .ok (.sipush 1000, 3) := by decide +kernel
theorem dX12_cost_29 : decode cX12_cost 29 = .ok (.ireturn, 1) := by decide +kernel
theorem dX12_laysCosts_0 : decode cX12_laysCosts 0 = .ok (.iconst 0, 1) := by decide +kernel
theorem dX12_laysCosts_1 : decode cX12_laysCosts 1 = .ok (.istore 4, 2) := by decide +kernel
theorem dX12_laysCosts_3 : decode cX12_laysCosts 3 = .ok (.iload 4, 2) := by decide +kernel
theorem dX12_laysCosts_5 : decode cX12_laysCosts 5 = .ok (.aload_n 0, 1) := by decide +kernel
theorem dX12_laysCosts_6 : decode cX12_laysCosts 6 = .ok (.invokevirtual 212, 3) := by decide +kernel
theorem dX12_laysCosts_9 : decode cX12_laysCosts 9 = .ok (.if_icmp .ge 41, 3) := by decide +kernel
theorem dX12_laysCosts_12 : decode cX12_laysCosts 12 = .ok (.aload_n 1, 1) := by decide +kernel
theorem dX12_laysCosts_13 : decode cX12_laysCosts 13 = .ok (.iload 4, 2) := by decide +kernel
theorem dX12_laysCosts_15 : decode cX12_laysCosts 15 = .ok (.aload_n 0, 1) := by decide +kernel
theorem dX12_laysCosts_16 : decode cX12_laysCosts 16 = .ok (.iload_n 2, 1) := by decide +kernel
theorem dX12_laysCosts_17 : decode cX12_laysCosts 17 = .ok (.iload 4, 2) := by decide +kernel
theorem dX12_laysCosts_19 : decode cX12_laysCosts 19 = .ok (.invokevirtual 239, 3) := by decide +kernel
theorem dX12_laysCosts_22 : decode cX12_laysCosts 22 = .ok (.iload_n 3, 1) := by decide +kernel
theorem dX12_laysCosts_23 : decode cX12_laysCosts 23 = .ok (.ishr, 1) := by decide +kernel
theorem dX12_laysCosts_24 : decode cX12_laysCosts 24 = .ok (.iconst 1, 1) := by decide +kernel
theorem dX12_laysCosts_25 : decode cX12_laysCosts 25 = .ok (.iand, 1) := by decide +kernel
theorem dX12_laysCosts_26 : decode cX12_laysCosts 26 = .ok (.iconst 1, 1) := by decide +kernel
theorem dX12_laysCosts_27 : decode cX12_laysCosts 27 = .ok (.if_icmp .ne 13, 3) := by decide +kernel
theorem dX12_laysCosts_30 : decode cX12_laysCosts 30 = .ok (.aload_n 0, 1) := by decide +kernel
theorem dX12_laysCosts_31 : decode cX12_laysCosts 31 = .ok (.iload_n 2, 1) := by decide +kernel
theorem dX12_laysCosts_32 : decode cX12_laysCosts 32 = .ok (.iload 4, 2) := by decide +kernel
theorem dX12_laysCosts_34 : decode cX12_laysCosts 34 = .ok (.invokevirtual 355, 3) := by decide +kernel
theorem dX12_laysCosts_37 : decode cX12_laysCosts 37 = .ok (.goto 6, 3) := by decide +kernel
theorem dX12_laysCosts_40 : decode cX12_laysCosts 40 = .ok (.sipush 1000, 3) := by decide +kernel
theorem dX12_laysCosts_43 : decode cX12_laysCosts 43 = .ok (.iastore, 1) := by decide +kernel
theorem dX12_laysCosts_44 : decode cX12_laysCosts 44 = .ok (.iinc 4 1, 3) := by decide +kernel
theorem dX12_laysCosts_47 : decode cX12_laysCosts 47 = .ok (.goto (-44), 3) := by decide +kernel
theorem dX12_laysCosts_50 : decode cX12_laysCosts 50 = .ok (.iconst 1, 1) := by decide +kernel
theorem dX12_laysCosts_51 : decode cX12_laysCosts 51 = .ok (.istore 4, 2) := by decide +kernel
theorem dX12_laysCosts_53 : decode cX12_laysCosts 53 = .ok (.iload 4, 2) := by decide +kernel
theorem dX12_laysCosts_55 : decode cX12_laysCosts 55 = .ok (.ifCond .eq 100, 3) := by decide +kernel
theorem dX12_laysCosts_58 : decode cX12_laysCosts 58 = .ok (.iconst 0, 1) := by decide +kernel
theorem dX12_laysCosts_59 : decode cX12_laysCosts 59 = .ok (.istore 4, 2) := by decide +kernel
theorem dX12_laysCosts_61 : decode cX12_laysCosts 61 = .ok (.iconst 0, 1) := by decide +kernel
theorem dX12_laysCosts_62 : decode cX12_laysCosts 62 = .ok (.istore 5, 2) := by decide +kernel
theorem dX12_laysCosts_64 : decode cX12_laysCosts 64 = .ok (.iload 5, 2) := by decide +kernel
theorem dX12_laysCosts_66 : decode cX12_laysCosts 66 = .ok (.aload_n 0, 1) := by decide +kernel
theorem dX12_laysCosts_67 : decode cX12_laysCosts 67 = .ok (.invokevirtual 212, 3) := by decide +kernel
theorem dX12_laysCosts_70 : decode cX12_laysCosts 70 = .ok (.if_icmp .ge 82, 3) := by decide +kernel
theorem dX12_laysCosts_73 : decode cX12_laysCosts 73 = .ok (.iconst 0, 1) := by decide +kernel
theorem dX12_laysCosts_74 : decode cX12_laysCosts 74 = .ok (.istore 6, 2) := by decide +kernel
theorem dX12_laysCosts_76 : decode cX12_laysCosts 76 = .ok (.iload 6, 2) := by decide +kernel
theorem dX12_laysCosts_78 : decode cX12_laysCosts 78 = .ok (.bipush 6, 2) := by decide +kernel
theorem dX12_laysCosts_80 : decode cX12_laysCosts 80 = .ok (.if_icmp .ge 66, 3) := by decide +kernel
theorem dX12_laysCosts_83 : decode cX12_laysCosts 83 = .ok (.aload_n 0, 1) := by decide +kernel
theorem dX12_laysCosts_84 : decode cX12_laysCosts 84 = .ok (.iload 5, 2) := by decide +kernel
theorem dX12_laysCosts_86 : decode cX12_laysCosts 86 = .ok (.iload 6, 2) := by decide +kernel
theorem dX12_laysCosts_88 : decode cX12_laysCosts 88 = .ok (.invokevirtual 218, 3) := by decide +kernel
theorem dX12_laysCosts_91 : decode cX12_laysCosts 91 = .ok (.istore 7, 2) := by decide +kernel
theorem dX12_laysCosts_93 : decode cX12_laysCosts 93 = .ok (.iload 7, 2) := by decide +kernel
theorem dX12_laysCosts_95 : decode cX12_laysCosts 95 = .ok (.iconst (-1), 1) := by decide +kernel
theorem dX12_laysCosts_96 : decode cX12_laysCosts 96 = .ok (.if_icmp .eq 44, 3) := by decide +kernel
theorem dX12_laysCosts_99 : decode cX12_laysCosts 99 = .ok (.aload_n 1, 1) := by decide +kernel
theorem dX12_laysCosts_100 : decode cX12_laysCosts 100 = .ok (.iload 7, 2) := by decide +kernel
theorem dX12_laysCosts_102 : decode cX12_laysCosts 102 = .ok (.iaload, 1) := by decide +kernel
theorem dX12_laysCosts_103 : decode cX12_laysCosts 103 = .ok (.aload_n 0, 1) := by decide +kernel
theorem dX12_laysCosts_104 : decode cX12_laysCosts 104 = .ok (.iload_n 2, 1) := by decide +kernel
theorem dX12_laysCosts_105 : decode cX12_laysCosts 105 = .ok (.iload 5, 2) := by decide +kernel
theorem dX12_laysCosts_107 : decode cX12_laysCosts 107 = .ok (.invokevirtual 355, 3) := by decide +kernel
theorem dX12_laysCosts_110 : decode cX12_laysCosts 110 = .ok (.iadd, 1) := by decide +kernel
theorem dX12_laysCosts_111 : decode cX12_laysCosts 111 = .ok (.aload_n 1, 1) := by decide +kernel
theorem dX12_laysCosts_112 : decode cX12_laysCosts 112 = .ok (.iload 5, 2) := by decide +kernel
theorem dX12_laysCosts_114 : decode cX12_laysCosts 114 = .ok (.iaload, 1) := by decide +kernel
theorem dX12_laysCosts_115 : decode cX12_laysCosts 115 = .ok (.if_icmp .lt 6, 3) := by decide +kernel
theorem dX12_laysCosts_118 : decode cX12_laysCosts 118 = .ok (.goto 22, 3) := by decide +kernel
theorem dX12_laysCosts_121 : decode cX12_laysCosts 121 = .ok (.aload_n 1, 1) := by decide +kernel
theorem dX12_laysCosts_122 : decode cX12_laysCosts 122 = .ok (.iload 5, 2) := by decide +kernel
theorem dX12_laysCosts_124 : decode cX12_laysCosts 124 = .ok (.aload_n 1, 1) := by decide +kernel
theorem dX12_laysCosts_125 : decode cX12_laysCosts 125 = .ok (.iload 7, 2) := by decide +kernel
theorem dX12_laysCosts_127 : decode cX12_laysCosts 127 = .ok (.iaload, 1) := by decide +kernel
theorem dX12_laysCosts_128 : decode cX12_laysCosts 128 = .ok (.aload_n 0, 1) := by decide +kernel
theorem dX12_laysCosts_129 : decode cX12_laysCosts 129 = .ok (.iload_n 2, 1) := by decide +kernel
theorem dX12_laysCosts_130 : decode cX12_laysCosts 130 = .ok (.iload 5, 2) := by decide +kernel
theorem dX12_laysCosts_132 : decode cX12_laysCosts 132 = .ok (.invokevirtual 355, 3) := by decide +kernel
theorem dX12_laysCosts_135 : decode cX12_laysCosts 135 = .ok (.iadd, 1) := by decide +kernel
theorem dX12_laysCosts_136 : decode cX12_laysCosts 136 = .ok (.iastore, 1) := by decide +kernel
theorem dX12_laysCosts_137 : decode cX12_laysCosts 137 = .ok (.iconst 1, 1) := by decide +kernel
theorem dX12_laysCosts_138 : decode cX12_laysCosts 138 = .ok (.istore 4, 2) := by decide +kernel
theorem dX12_laysCosts_140 : decode cX12_laysCosts 140 = .ok (.iinc 6 1, 3) := by decide +kernel
theorem dX12_laysCosts_143 : decode cX12_laysCosts 143 = .ok (.goto (-67), 3) := by decide +kernel
theorem dX12_laysCosts_146 : decode cX12_laysCosts 146 = .ok (.iinc 5 1, 3) := by decide +kernel
theorem dX12_laysCosts_149 : decode cX12_laysCosts 149 = .ok (.goto (-85), 3) := by decide +kernel
theorem dX12_laysCosts_152 : decode cX12_laysCosts 152 = .ok (.goto (-99), 3) := by decide +kernel
theorem dX12_laysCosts_155 : decode cX12_laysCosts 155 = .ok (.return_, 1) := by decide +kernel
theorem dX12_laysWays_0 : decode cX12_laysWays 0 = .ok (.aload_n 0, 1) := by decide +kernel
theorem dX12_laysWays_1 : decode cX12_laysWays 1 = .ok (.aload_n 0, 1) := by decide +kernel
theorem dX12_laysWays_2 : decode cX12_laysWays 2 = .ok (.getfield 58, 3) := by decide +kernel
theorem dX12_laysWays_5 : decode cX12_laysWays 5 = .ok (.iload_n 1, 1) := by decide +kernel
theorem dX12_laysWays_6 : decode cX12_laysWays 6 = .ok (.iconst 0, 1) := by decide +kernel
theorem dX12_laysWays_7 : decode cX12_laysWays 7 = .ok (.invokevirtual 358, 3) := by decide +kernel
theorem dX12_laysWays_10 : decode cX12_laysWays 10 = .ok (.aload_n 0, 1) := by decide +kernel
theorem dX12_laysWays_11 : decode cX12_laysWays 11 = .ok (.aload_n 0, 1) := by decide +kernel
theorem dX12_laysWays_12 : decode cX12_laysWays 12 = .ok (.getfield 61, 3) := by decide +kernel
theorem dX12_laysWays_15 : decode cX12_laysWays 15 = .ok (.iload_n 1, 1) := by decide +kernel
theorem dX12_laysWays_16 : decode cX12_laysWays 16 = .ok (.iconst 1, 1) := by decide +kernel
theorem dX12_laysWays_17 : decode cX12_laysWays 17 = .ok (.invokevirtual 358, 3) := by decide +kernel
theorem dX12_laysWays_20 : decode cX12_laysWays 20 = .ok (.return_, 1) := by decide +kernel
theorem dX12_by_0 : decode cX12_by 0 = .ok (.aload_n 0, 1) := by decide +kernel
theorem dX12_by_1 : decode cX12_by 1 = .ok (.getfield 58, 3) := by decide +kernel
theorem dX12_by_4 : decode cX12_by 4 = .ok (.iload_n 2, 1) := by decide +kernel
theorem dX12_by_5 : decode cX12_by 5 = .ok (.iaload, 1) := by decide +kernel
theorem dX12_by_6 : decode cX12_by 6 = .ok (.aload_n 0, 1) := by decide +kernel
theorem dX12_by_7 : decode cX12_by 7 = .ok (.getfield 61, 3) := by decide +kernel
theorem dX12_by_10 : decode cX12_by 10 = .ok (.iload_n 2, 1) := by decide +kernel
theorem dX12_by_11 : decode cX12_by 11 = .ok (.iaload, 1) := by decide +kernel
theorem dX12_by_12 : decode cX12_by 12 = .ok (.iadd, 1) := by decide +kernel
theorem dX12_by_13 : decode cX12_by 13 = .ok (.aload_n 0, 1) := by decide +kernel
theorem dX12_by_14 : decode cX12_by 14 = .ok (.iload_n 1, 1) := by decide +kernel
theorem dX12_by_15 : decode cX12_by 15 = .ok (.iload_n 2, 1) := by decide +kernel
theorem dX12_by_16 : decode cX12_by 16 = .ok (.invokevirtual 355, 3) := by decide +kernel
theorem dX12_by_19 : decode cX12_by 19 = .ok (.isub, 1) := by decide +kernel
theorem dX12_by_20 : decode cX12_by 20 = .ok (.istore_n 3, 1) := by decide +kernel
theorem dX12_by_21 : decode cX12_by 21 = .ok (.aload_n 0, 1) := by decide +kernel
theorem dX12_by_22 : decode cX12_by 22 = .ok (.iload_n 2, 1) := by decide +kernel
theorem dX12_by_23 : decode cX12_by 23 = .ok (.invokevirtual 215, 3) := by decide +kernel
theorem dX12_by_26 : decode cX12_by 26 = .ok (.iconst 1, 1) := by decide +kernel
theorem dX12_by_27 : decode cX12_by 27 = .ok (.iload_n 1, 1) := by decide +kernel
theorem dX12_by_28 : decode cX12_by 28 = .ok (.isub, 1) := by decide +kernel
theorem dX12_by_29 : decode cX12_by 29 = .ok (.if_icmp .eq 10, 3) := by decide +kernel
theorem dX12_by_32 : decode cX12_by 32 = .ok (.iload_n 3, 1) := by decide +kernel
theorem dX12_by_33 : decode cX12_by 33 = .ok (.sipush 1000, 3) := by decide +kernel
theorem dX12_by_36 : decode cX12_by 36 = .ok (.if_icmp .lt 7, 3) := by decide +kernel
theorem dX12_by_39 : decode cX12_by 39 = .ok (.iconst (-1), 1) := by decide +kernel
theorem dX12_by_40 : decode cX12_by 40 = .ok (.goto 4, 3) := by decide +kernel
theorem dX12_by_43 : decode cX12_by 43 = .ok (.iload_n 3, 1) := by decide +kernel
theorem dX12_by_44 : decode cX12_by 44 = .ok (.ireturn, 1) := by decide +kernel
theorem dX12_leastOf_0 : decode cX12_leastOf 0 = .ok (.iconst (-1), 1) := by decide +kernel
theorem dX12_leastOf_1 : decode cX12_leastOf 1 = .ok (.istore_n 2, 1) := by decide +kernel
theorem dX12_leastOf_2 : decode cX12_leastOf 2 = .ok (.iconst 0, 1) := by decide +kernel
theorem dX12_leastOf_3 : decode cX12_leastOf 3 = .ok (.istore_n 3, 1) := by decide +kernel
theorem dX12_leastOf_4 : decode cX12_leastOf 4 = .ok (.iload_n 3, 1) := by decide +kernel
theorem dX12_leastOf_5 : decode cX12_leastOf 5 = .ok (.aload_n 0, 1) := by decide +kernel
theorem dX12_leastOf_6 : decode cX12_leastOf 6 = .ok (.invokevirtual 212, 3) := by decide +kernel
theorem dX12_leastOf_9 : decode cX12_leastOf 9 = .ok (.if_icmp .ge 37, 3) := by decide +kernel
theorem dX12_leastOf_12 : decode cX12_leastOf 12 = .ok (.aload_n 0, 1) := by decide +kernel
theorem dX12_leastOf_13 : decode cX12_leastOf 13 = .ok (.iload_n 1, 1) := by decide +kernel
theorem dX12_leastOf_14 : decode cX12_leastOf 14 = .ok (.iload_n 3, 1) := by decide +kernel
theorem dX12_leastOf_15 : decode cX12_leastOf 15 = .ok (.invokevirtual 362, 3) := by decide +kernel
theorem dX12_leastOf_18 : decode cX12_leastOf 18 = .ok (.istore 4, 2) := by decide +kernel
theorem dX12_leastOf_20 : decode cX12_leastOf 20 = .ok (.iload 4, 2) := by decide +kernel
theorem dX12_leastOf_22 : decode cX12_leastOf 22 = .ok (.iconst (-1), 1) := by decide +kernel
theorem dX12_leastOf_23 : decode cX12_leastOf 23 = .ok (.if_icmp .eq 17, 3) := by decide +kernel
theorem dX12_leastOf_26 : decode cX12_leastOf 26 = .ok (.iload_n 2, 1) := by decide +kernel
theorem dX12_leastOf_27 : decode cX12_leastOf 27 = .ok (.iconst (-1), 1) := by decide +kernel
theorem dX12_leastOf_28 : decode cX12_leastOf 28 = .ok (.if_icmp .eq 9, 3) := by decide +kernel
theorem dX12_leastOf_31 : decode cX12_leastOf 31 = .ok (.iload 4, 2) := by decide +kernel
theorem dX12_leastOf_33 : decode cX12_leastOf 33 = .ok (.iload_n 2, 1) := by decide +kernel
theorem dX12_leastOf_34 : decode cX12_leastOf 34 = .ok (.if_icmp .ge 6, 3) := by decide +kernel
theorem dX12_leastOf_37 : decode cX12_leastOf 37 = .ok (.iload 4, 2) := by decide +kernel
theorem dX12_leastOf_39 : decode cX12_leastOf 39 = .ok (.istore_n 2, 1) := by decide +kernel
theorem dX12_leastOf_40 : decode cX12_leastOf 40 = .ok (.iinc 3 1, 3) := by decide +kernel
theorem dX12_leastOf_43 : decode cX12_leastOf 43 = .ok (.goto (-39), 3) := by decide +kernel
theorem dX12_leastOf_46 : decode cX12_leastOf 46 = .ok (.iload_n 2, 1) := by decide +kernel
theorem dX12_leastOf_47 : decode cX12_leastOf 47 = .ok (.ireturn, 1) := by decide +kernel
theorem dX12_distance_0 : decode cX12_distance 0 = .ok (.aload_n 0, 1) := by decide +kernel
theorem dX12_distance_1 : decode cX12_distance 1 = .ok (.iload_n 1, 1) := by decide +kernel
theorem dX12_distance_2 : decode cX12_distance 2 = .ok (.invokevirtual 323, 3) := by decide +kernel
theorem dX12_distance_5 : decode cX12_distance 5 = .ok (.ifCond .eq 5, 3) := by decide +kernel
theorem dX12_distance_8 : decode cX12_distance 8 = .ok (.iconst 0, 1) := by decide +kernel
theorem dX12_distance_9 : decode cX12_distance 9 = .ok (.ireturn, 1) := by decide +kernel
theorem dX12_distance_10 : decode cX12_distance 10 = .ok (.aload_n 0, 1) := by decide +kernel
theorem dX12_distance_11 : decode cX12_distance 11 = .ok (.iload_n 1, 1) := by decide +kernel
theorem dX12_distance_12 : decode cX12_distance 12 = .ok (.invokevirtual 365, 3) := by decide +kernel
theorem dX12_distance_15 : decode cX12_distance 15 = .ok (.aload_n 0, 1) := by decide +kernel
theorem dX12_distance_16 : decode cX12_distance 16 = .ok (.iload_n 1, 1) := by decide +kernel
theorem dX12_distance_17 : decode cX12_distance 17 = .ok (.invokevirtual 368, 3) := by decide +kernel
theorem dX12_distance_20 : decode cX12_distance 20 = .ok (.ireturn, 1) := by decide +kernel
theorem dX12_through_0 : decode cX12_through 0 = .ok (.aload_n 0, 1) := by decide +kernel
theorem dX12_through_1 : decode cX12_through 1 = .ok (.iload_n 1, 1) := by decide +kernel
theorem dX12_through_2 : decode cX12_through 2 = .ok (.invokevirtual 323, 3) := by decide +kernel
theorem dX12_through_5 : decode cX12_through 5 = .ok (.ifCond .ne 24, 3) := by decide +kernel
theorem dX12_through_8 : decode cX12_through 8 = .ok (.aload_n 0, 1) := by decide +kernel
theorem dX12_through_9 : decode cX12_through 9 = .ok (.aload_n 0, 1) := by decide +kernel
theorem dX12_through_10 : decode cX12_through 10 = .ok (.iload_n 2, 1) := by decide +kernel
theorem dX12_through_11 : decode cX12_through 11 = .ok (.invokevirtual 302, 3) := by decide +kernel
theorem dX12_through_14 : decode cX12_through 14 = .ok (.ifCond .ne 7, 3) := by decide +kernel
theorem dX12_through_17 : decode cX12_through 17 = .ok (.iconst 1, 1) := by decide +kernel
theorem dX12_through_18 : decode cX12_through 18 = .ok (.goto 4, 3) := by decide +kernel
theorem dX12_through_21 : decode cX12_through 21 = .ok (.iconst 0, 1) := by decide +kernel
theorem dX12_through_22 : decode cX12_through 22 = .ok (.iconst 2, 1) := by decide +kernel
theorem dX12_through_23 : decode cX12_through 23 = .ok (.invokevirtual 313, 3) := by decide +kernel
theorem dX12_through_26 : decode cX12_through 26 = .ok (.ifCond .eq 5, 3) := by decide +kernel
theorem dX12_through_29 : decode cX12_through 29 = .ok (.iconst 0, 1) := by decide +kernel
theorem dX12_through_30 : decode cX12_through 30 = .ok (.ireturn, 1) := by decide +kernel
theorem dX12_through_31 : decode cX12_through 31 = .ok (.aload_n 0, 1) := by decide +kernel
theorem dX12_through_32 : decode cX12_through 32 = .ok (.iload_n 1, 1) := by decide +kernel
theorem dX12_through_33 : decode cX12_through 33 = .ok (.invokevirtual 365, 3) := by decide +kernel
theorem dX12_through_36 : decode cX12_through 36 = .ok (.aload_n 0, 1) := by decide +kernel
theorem dX12_through_37 : decode cX12_through 37 = .ok (.iload_n 1, 1) := by decide +kernel
theorem dX12_through_38 : decode cX12_through 38 = .ok (.iload_n 2, 1) := by decide +kernel
theorem dX12_through_39 : decode cX12_through 39 = .ok (.invokevirtual 362, 3) := by decide +kernel
theorem dX12_through_42 : decode cX12_through 42 = .ok (.ireturn, 1) := by decide +kernel
theorem dX12_useful_0 : decode cX12_useful 0 = .ok (.aload_n 0, 1) := by decide +kernel
theorem dX12_useful_1 : decode cX12_useful 1 = .ok (.iload_n 1, 1) := by decide +kernel
theorem dX12_useful_2 : decode cX12_useful 2 = .ok (.invokevirtual 323, 3) := by decide +kernel
theorem dX12_useful_5 : decode cX12_useful 5 = .ok (.ifCond .eq 5, 3) := by decide +kernel
theorem dX12_useful_8 : decode cX12_useful 8 = .ok (.iconst 0, 1) := by decide +kernel
theorem dX12_useful_9 : decode cX12_useful 9 = .ok (.ireturn, 1) := by decide +kernel
theorem dX12_useful_10 : decode cX12_useful 10 = .ok (.aload_n 0, 1) := by decide +kernel
theorem dX12_useful_11 : decode cX12_useful 11 = .ok (.iload_n 1, 1) := by decide +kernel
theorem dX12_useful_12 : decode cX12_useful 12 = .ok (.invokevirtual 365, 3) := by decide +kernel
theorem dX12_useful_15 : decode cX12_useful 15 = .ok (.aload_n 0, 1) := by decide +kernel
theorem dX12_useful_16 : decode cX12_useful 16 = .ok (.iload_n 1, 1) := by decide +kernel
theorem dX12_useful_17 : decode cX12_useful 17 = .ok (.invokevirtual 368, 3) := by decide +kernel
theorem dX12_useful_20 : decode cX12_useful 20 = .ok (.istore_n 2, 1) := by decide +kernel
theorem dX12_useful_21 : decode cX12_useful 21 = .ok (.iconst 0, 1) := by decide +kernel
theorem dX12_useful_22 : decode cX12_useful 22 = .ok (.istore_n 3, 1) := by decide +kernel
theorem dX12_useful_23 : decode cX12_useful 23 = .ok (.iconst 0, 1) := by decide +kernel
theorem dX12_useful_24 : decode cX12_useful 24 = .ok (.istore 4, 2) := by decide +kernel
theorem dX12_useful_26 : decode cX12_useful 26 = .ok (.iload 4, 2) := by decide +kernel
theorem dX12_useful_28 : decode cX12_useful 28 = .ok (.aload_n 0, 1) := by decide +kernel
theorem dX12_useful_29 : decode cX12_useful 29 = .ok (.invokevirtual 212, 3) := by decide +kernel
theorem dX12_useful_32 : decode cX12_useful 32 = .ok (.if_icmp .ge 43, 3) := by decide +kernel
theorem dX12_useful_35 : decode cX12_useful 35 = .ok (.iload_n 3, 1) := by decide +kernel
theorem dX12_useful_36 : decode cX12_useful 36 = .ok (.aload_n 0, 1) := by decide +kernel
theorem dX12_useful_37 : decode cX12_useful 37 = .ok (.iload 4, 2) := by decide +kernel
theorem dX12_useful_39 : decode cX12_useful 39 = .ok (.invokevirtual 215, 3) := by decide +kernel
theorem dX12_useful_42 : decode cX12_useful 42 = .ok (.iconst (-1), 1) := by decide +kernel
theorem dX12_useful_43 : decode cX12_useful 43 = .ok (.if_icmp .ne 23, 3) := by decide +kernel
theorem dX12_useful_46 : decode cX12_useful 46 = .ok (.iload_n 2, 1) := by decide +kernel
theorem dX12_useful_47 : decode cX12_useful 47 = .ok (.iconst (-1), 1) := by decide +kernel
theorem dX12_useful_48 : decode cX12_useful 48 = .ok (.if_icmp .eq 18, 3) := by decide +kernel
theorem dX12_useful_51 : decode cX12_useful 51 = .ok (.aload_n 0, 1) := by decide +kernel
theorem dX12_useful_52 : decode cX12_useful 52 = .ok (.iload_n 1, 1) := by decide +kernel
theorem dX12_useful_53 : decode cX12_useful 53 = .ok (.iload 4, 2) := by decide +kernel
theorem dX12_useful_55 : decode cX12_useful 55 = .ok (.invokevirtual 362, 3) := by decide +kernel
theorem dX12_useful_58 : decode cX12_useful 58 = .ok (.iload_n 2, 1) := by decide +kernel
theorem dX12_useful_59 : decode cX12_useful 59 = .ok (.if_icmp .ne 7, 3) := by decide +kernel
theorem dX12_useful_62 : decode cX12_useful 62 = .ok (.iconst 1, 1) := by decide +kernel
theorem dX12_useful_63 : decode cX12_useful 63 = .ok (.goto 4, 3) := by decide +kernel
theorem dX12_useful_66 : decode cX12_useful 66 = .ok (.iconst 0, 1) := by decide +kernel
theorem dX12_useful_67 : decode cX12_useful 67 = .ok (.iadd, 1) := by decide +kernel
theorem dX12_useful_68 : decode cX12_useful 68 = .ok (.istore_n 3, 1) := by decide +kernel
theorem dX12_useful_69 : decode cX12_useful 69 = .ok (.iinc 4 1, 3) := by decide +kernel
theorem dX12_useful_72 : decode cX12_useful 72 = .ok (.goto (-46), 3) := by decide +kernel
theorem dX12_useful_75 : decode cX12_useful 75 = .ok (.iload_n 3, 1) := by decide +kernel
theorem dX12_useful_76 : decode cX12_useful 76 = .ok (.ireturn, 1) := by decide +kernel
theorem dX12_shared_0 : decode cX12_shared 0 = .ok (.aload_n 0, 1) := by decide +kernel
theorem dX12_shared_1 : decode cX12_shared 1 = .ok (.iconst 0, 1) := by decide +kernel
theorem dX12_shared_2 : decode cX12_shared 2 = .ok (.putfield 77, 3) := by decide +kernel
theorem dX12_shared_5 : decode cX12_shared 5 = .ok (.aload_n 0, 1) := by decide +kernel
theorem dX12_shared_6 : decode cX12_shared 6 = .ok (.iconst 0, 1) := by decide +kernel
theorem dX12_shared_7 : decode cX12_shared 7 = .ok (.invokevirtual 365, 3) := by decide +kernel
theorem dX12_shared_10 : decode cX12_shared 10 = .ok (.iconst 0, 1) := by decide +kernel
theorem dX12_shared_11 : decode cX12_shared 11 = .ok (.istore_n 1, 1) := by decide +kernel
theorem dX12_shared_12 : decode cX12_shared 12 = .ok (.iload_n 1, 1) := by decide +kernel
theorem dX12_shared_13 : decode cX12_shared 13 = .ok (.aload_n 0, 1) := by decide +kernel
theorem dX12_shared_14 : decode cX12_shared 14 = .ok (.invokevirtual 212, 3) := by decide +kernel
theorem dX12_shared_17 : decode cX12_shared 17 = .ok (.if_icmp .ge 21, 3) := by decide +kernel
theorem dX12_shared_20 : decode cX12_shared 20 = .ok (.aload_n 0, 1) := by decide +kernel
theorem dX12_shared_21 : decode cX12_shared 21 = .ok (.getfield 64, 3) := by decide +kernel
theorem dX12_shared_24 : decode cX12_shared 24 = .ok (.iload_n 1, 1) := by decide +kernel
theorem dX12_shared_25 : decode cX12_shared 25 = .ok (.aload_n 0, 1) := by decide +kernel
theorem dX12_shared_26 : decode cX12_shared 26 = .ok (.iconst 0, 1) := by decide +kernel
theorem dX12_shared_27 : decode cX12_shared 27 = .ok (.iload_n 1, 1) := by decide +kernel
theorem dX12_shared_28 : decode cX12_shared 28 = .ok (.invokevirtual 362, 3) := by decide +kernel
theorem dX12_shared_31 : decode cX12_shared 31 = .ok (.iastore, 1) := by decide +kernel
theorem dX12_shared_32 : decode cX12_shared 32 = .ok (.iinc 1 1, 3) := by decide +kernel
theorem dX12_shared_35 : decode cX12_shared 35 = .ok (.goto (-23), 3) := by decide +kernel
theorem dX12_shared_38 : decode cX12_shared 38 = .ok (.aload_n 0, 1) := by decide +kernel
theorem dX12_shared_39 : decode cX12_shared 39 = .ok (.iconst 1, 1) := by decide +kernel
theorem dX12_shared_40 : decode cX12_shared 40 = .ok (.invokevirtual 365, 3) := by decide +kernel
theorem dX12_shared_43 : decode cX12_shared 43 = .ok (.iconst (-1), 1) := by decide +kernel
theorem dX12_shared_44 : decode cX12_shared 44 = .ok (.istore_n 1, 1) := by decide +kernel
theorem dX12_shared_45 : decode cX12_shared 45 = .ok (.iconst 0, 1) := by decide +kernel
theorem dX12_shared_46 : decode cX12_shared 46 = .ok (.istore_n 2, 1) := by decide +kernel
theorem dX12_shared_47 : decode cX12_shared 47 = .ok (.iconst 0, 1) := by decide +kernel
theorem dX12_shared_48 : decode cX12_shared 48 = .ok (.istore_n 3, 1) := by decide +kernel
theorem dX12_shared_49 : decode cX12_shared 49 = .ok (.iload_n 3, 1) := by decide +kernel
theorem dX12_shared_50 : decode cX12_shared 50 = .ok (.aload_n 0, 1) := by decide +kernel
theorem dX12_shared_51 : decode cX12_shared 51 = .ok (.invokevirtual 212, 3) := by decide +kernel
theorem dX12_shared_54 : decode cX12_shared 54 = .ok (.if_icmp .ge 75, 3) := by decide +kernel
theorem dX12_shared_57 : decode cX12_shared 57 = .ok (.aload_n 0, 1) := by decide +kernel
theorem dX12_shared_58 : decode cX12_shared 58 = .ok (.iload_n 3, 1) := by decide +kernel
theorem dX12_shared_59 : decode cX12_shared 59 = .ok (.invokevirtual 215, 3) := by decide +kernel
theorem dX12_shared_62 : decode cX12_shared 62 = .ok (.iconst (-1), 1) := by decide +kernel
theorem dX12_shared_63 : decode cX12_shared 63 = .ok (.if_icmp .ne 60, 3) := by decide +kernel
theorem dX12_shared_66 : decode cX12_shared 66 = .ok (.aload_n 0, 1) := by decide +kernel
theorem dX12_shared_67 : decode cX12_shared 67 = .ok (.getfield 64, 3) := by decide +kernel
theorem dX12_shared_70 : decode cX12_shared 70 = .ok (.iload_n 3, 1) := by decide +kernel
theorem dX12_shared_71 : decode cX12_shared 71 = .ok (.iaload, 1) := by decide +kernel
theorem dX12_shared_72 : decode cX12_shared 72 = .ok (.iconst (-1), 1) := by decide +kernel
theorem dX12_shared_73 : decode cX12_shared 73 = .ok (.if_icmp .eq 50, 3) := by decide +kernel
theorem dX12_shared_76 : decode cX12_shared 76 = .ok (.aload_n 0, 1) := by decide +kernel
theorem dX12_shared_77 : decode cX12_shared 77 = .ok (.iconst 1, 1) := by decide +kernel
theorem dX12_shared_78 : decode cX12_shared 78 = .ok (.iload_n 3, 1) := by decide +kernel
theorem dX12_shared_79 : decode cX12_shared 79 = .ok (.invokevirtual 362, 3) := by decide +kernel
theorem dX12_shared_82 : decode cX12_shared 82 = .ok (.iconst (-1), 1) := by decide +kernel
theorem dX12_shared_83 : decode cX12_shared 83 = .ok (.if_icmp .ne 6, 3) := by decide +kernel
theorem dX12_shared_86 : decode cX12_shared 86 = .ok (.goto 37, 3) := by decide +kernel
theorem dX12_shared_89 : decode cX12_shared 89 = .ok (.aload_n 0, 1) := by decide +kernel
theorem dX12_shared_90 : decode cX12_shared 90 = .ok (.getfield 64, 3) := by decide +kernel
theorem dX12_shared_93 : decode cX12_shared 93 = .ok (.iload_n 3, 1) := by decide +kernel
theorem dX12_shared_94 : decode cX12_shared 94 = .ok (.iaload, 1) := by decide +kernel
theorem dX12_shared_95 : decode cX12_shared 95 = .ok (.aload_n 0, 1) := by decide +kernel
theorem dX12_shared_96 : decode cX12_shared 96 = .ok (.iconst 1, 1) := by decide +kernel
theorem dX12_shared_97 : decode cX12_shared 97 = .ok (.iload_n 3, 1) := by decide +kernel
theorem dX12_shared_98 : decode cX12_shared 98 = .ok (.invokevirtual 362, 3) := by decide +kernel
theorem dX12_shared_101 : decode cX12_shared 101 = .ok (.iadd, 1) := by decide +kernel
theorem dX12_shared_102 : decode cX12_shared 102 = .ok (.istore 4, 2) := by decide +kernel
theorem dX12_shared_104 : decode cX12_shared 104 = .ok (.iload_n 1, 1) := by decide +kernel
theorem dX12_shared_105 : decode cX12_shared 105 = .ok (.iconst (-1), 1) := by decide +kernel
theorem dX12_shared_106 : decode cX12_shared 106 = .ok (.if_icmp .eq 12, 3) := by decide +kernel
theorem dX12_shared_109 : decode cX12_shared 109 = .ok (.iload 4, 2) := by decide +kernel
theorem dX12_shared_111 : decode cX12_shared 111 = .ok (.iload_n 2, 1) := by decide +kernel
theorem dX12_shared_112 : decode cX12_shared 112 = .ok (.if_icmp .lt 6, 3) := by decide +kernel
theorem dX12_shared_115 : decode cX12_shared 115 = .ok (.goto 8, 3) := by decide +kernel
theorem dX12_shared_118 : decode cX12_shared 118 = .ok (.iload_n 3, 1) := by decide +kernel
theorem dX12_shared_119 : decode cX12_shared 119 = .ok (.istore_n 1, 1) := by decide +kernel
theorem dX12_shared_120 : decode cX12_shared 120 = .ok (.iload 4, 2) := by decide +kernel
theorem dX12_shared_122 : decode cX12_shared 122 = .ok (.istore_n 2, 1) := by decide +kernel
theorem dX12_shared_123 : decode cX12_shared 123 = .ok (.iinc 3 1, 3) := by decide +kernel
theorem dX12_shared_126 : decode cX12_shared 126 = .ok (.goto (-77), 3) := by decide +kernel
theorem dX12_shared_129 : decode cX12_shared 129 = .ok (.iload_n 1, 1) := by decide +kernel
theorem dX12_shared_130 : decode cX12_shared 130 = .ok (.ireturn, 1) := by decide +kernel
theorem dX12_weight_0 : decode cX12_weight 0 = .ok (.aload_n 0, 1) := by decide +kernel
theorem dX12_weight_1 : decode cX12_weight 1 = .ok (.iload_n 2, 1) := by decide +kernel
theorem dX12_weight_2 : decode cX12_weight 2 = .ok (.invokevirtual 215, 3) := by decide +kernel
theorem dX12_weight_5 : decode cX12_weight 5 = .ok (.iload_n 1, 1) := by decide +kernel
theorem dX12_weight_6 : decode cX12_weight 6 = .ok (.if_icmp .ne 7, 3) := by decide +kernel
theorem dX12_weight_9 : decode cX12_weight 9 = .ok (.iconst 3, 1) := by decide +kernel
theorem dX12_weight_10 : decode cX12_weight 10 = .ok (.goto 17, 3) := by decide +kernel
theorem dX12_weight_13 : decode cX12_weight 13 = .ok (.aload_n 0, 1) := by decide +kernel
theorem dX12_weight_14 : decode cX12_weight 14 = .ok (.iload_n 2, 1) := by decide +kernel
theorem dX12_weight_15 : decode cX12_weight 15 = .ok (.invokevirtual 215, 3) := by decide +kernel
theorem dX12_weight_18 : decode cX12_weight 18 = .ok (.iconst (-1), 1) := by decide +kernel
theorem dX12_weight_19 : decode cX12_weight 19 = .ok (.if_icmp .ne 7, 3) := by decide +kernel
theorem dX12_weight_22 : decode cX12_weight 22 = .ok (.iconst 1, 1) := by decide +kernel
theorem dX12_weight_23 : decode cX12_weight 23 = .ok (.goto 4, 3) := by decide +kernel
theorem dX12_weight_26 : decode cX12_weight 26 = .ok (.iconst 0, 1) := by decide +kernel
theorem dX12_weight_27 : decode cX12_weight 27 = .ok (.ireturn, 1) := by decide +kernel
theorem dX12_sweepsCell_0 : decode cX12_sweepsCell 0 = .ok (.aload_n 0, 1) := by decide +kernel
theorem dX12_sweepsCell_1 : decode cX12_sweepsCell 1 = .ok (.iload_n 1, 1) := by decide +kernel
theorem dX12_sweepsCell_2 : decode cX12_sweepsCell 2 = .ok (.iload_n 2, 1) := by decide +kernel
theorem dX12_sweepsCell_3 : decode cX12_sweepsCell 3 = .ok (.invokevirtual 239, 3) := by decide +kernel
theorem dX12_sweepsCell_6 : decode cX12_sweepsCell 6 = .ok (.istore_n 3, 1) := by decide +kernel
theorem dX12_sweepsCell_7 : decode cX12_sweepsCell 7 = .ok (.iload_n 3, 1) := by decide +kernel
theorem dX12_sweepsCell_8 : decode cX12_sweepsCell 8 = .ok (.iconst 2, 1) := by decide +kernel
theorem dX12_sweepsCell_9 : decode cX12_sweepsCell 9 = .ok (.iand, 1) := by decide +kernel
theorem dX12_sweepsCell_10 : decode cX12_sweepsCell 10 = .ok (.iconst 2, 1) := by decide +kernel
theorem dX12_sweepsCell_11 : decode cX12_sweepsCell 11 = .ok (.if_icmp .ne 9, 3) := by decide +kernel
theorem dX12_sweepsCell_14 : decode cX12_sweepsCell 14 = .ok (.ldc_w 371, 3) := by decide +kernel
theorem dX12_sweepsCell_17 : decode cX12_sweepsCell 17 = .ok (.goto 4, 3) := by decide +kernel
theorem dX12_sweepsCell_20 : decode cX12_sweepsCell 20 = .ok (.iconst 0, 1) := by decide +kernel
theorem dX12_sweepsCell_21 : decode cX12_sweepsCell 21 = .ok (.istore 4, 2) := by decide +kernel
theorem dX12_sweepsCell_23 : decode cX12_sweepsCell 23 = .ok (.iload_n 3, 1) := by decide +kernel
theorem dX12_sweepsCell_24 : decode cX12_sweepsCell 24 = .ok (.iconst 1, 1) := by decide +kernel
theorem dX12_sweepsCell_25 : decode cX12_sweepsCell 25 = .ok (.iand, 1) := by decide +kernel
theorem dX12_sweepsCell_26 : decode cX12_sweepsCell 26 = .ok (.iload_n 3, 1) := by decide +kernel
theorem dX12_sweepsCell_27 : decode cX12_sweepsCell 27 = .ok (.iconst 1, 1) := by decide +kernel
theorem dX12_sweepsCell_28 : decode cX12_sweepsCell 28 = .ok (.ishr, 1) := by decide +kernel
theorem dX12_sweepsCell_29 : decode cX12_sweepsCell 29 = .ok (.iadd, 1) := by decide +kernel
theorem dX12_sweepsCell_30 : decode cX12_sweepsCell 30 = .ok (.istore 5, 2) := by decide +kernel
theorem dX12_sweepsCell_32 : decode cX12_sweepsCell 32 = .ok (.iconst 0, 1) := by decide +kernel
theorem dX12_sweepsCell_33 : decode cX12_sweepsCell 33 = .ok (.istore 6, 2) := by decide +kernel
theorem dX12_sweepsCell_35 : decode cX12_sweepsCell 35 = .ok (.iload 6, 2) := by decide +kernel
theorem dX12_sweepsCell_37 : decode cX12_sweepsCell 37 = .ok (.bipush 6, 2) := by decide +kernel
theorem dX12_sweepsCell_39 : decode cX12_sweepsCell 39 = .ok (.if_icmp .ge 59, 3) := by decide +kernel
theorem dX12_sweepsCell_42 : decode cX12_sweepsCell 42 = .ok (.aload_n 0, 1) := by decide +kernel
theorem dX12_sweepsCell_43 : decode cX12_sweepsCell 43 = .ok (.iload_n 2, 1) := by decide +kernel
theorem dX12_sweepsCell_44 : decode cX12_sweepsCell 44 = .ok (.iload 6, 2) := by decide +kernel
theorem dX12_sweepsCell_46 : decode cX12_sweepsCell 46 = .ok (.invokevirtual 218, 3) := by decide +kernel
theorem dX12_sweepsCell_49 : decode cX12_sweepsCell 49 = .ok (.istore 7, 2) := by decide +kernel
theorem dX12_sweepsCell_51 : decode cX12_sweepsCell 51 = .ok (.iload 7, 2) := by decide +kernel
theorem dX12_sweepsCell_53 : decode cX12_sweepsCell 53 = .ok (.iconst (-1), 1) := by decide +kernel
theorem dX12_sweepsCell_54 : decode cX12_sweepsCell 54 = .ok (.if_icmp .ne 6, 3) := by decide +kernel
theorem dX12_sweepsCell_57 : decode cX12_sweepsCell 57 = .ok (.goto 35, 3) := by decide +kernel
theorem dX12_sweepsCell_60 : decode cX12_sweepsCell 60 = .ok (.iload 4, 2) := by decide +kernel
theorem dX12_sweepsCell_62 : decode cX12_sweepsCell 62 = .ok (.aload_n 0, 1) := by decide +kernel
theorem dX12_sweepsCell_63 : decode cX12_sweepsCell 63 = .ok (.iload_n 1, 1) := by decide +kernel
theorem dX12_sweepsCell_64 : decode cX12_sweepsCell 64 = .ok (.iload 7, 2) := by decide +kernel
theorem dX12_sweepsCell_66 : decode cX12_sweepsCell 66 = .ok (.invokevirtual 372, 3) := by decide +kernel
theorem dX12_sweepsCell_69 : decode cX12_sweepsCell 69 = .ok (.aload_n 0, 1) := by decide +kernel
theorem dX12_sweepsCell_70 : decode cX12_sweepsCell 70 = .ok (.getfield 67, 3) := by decide +kernel
theorem dX12_sweepsCell_73 : decode cX12_sweepsCell 73 = .ok (.iload 7, 2) := by decide +kernel
theorem dX12_sweepsCell_75 : decode cX12_sweepsCell 75 = .ok (.iaload, 1) := by decide +kernel
theorem dX12_sweepsCell_76 : decode cX12_sweepsCell 76 = .ok (.imul, 1) := by decide +kernel
theorem dX12_sweepsCell_77 : decode cX12_sweepsCell 77 = .ok (.iadd, 1) := by decide +kernel
theorem dX12_sweepsCell_78 : decode cX12_sweepsCell 78 = .ok (.istore 4, 2) := by decide +kernel
theorem dX12_sweepsCell_80 : decode cX12_sweepsCell 80 = .ok (.iload 5, 2) := by decide +kernel
theorem dX12_sweepsCell_82 : decode cX12_sweepsCell 82 = .ok (.aload_n 0, 1) := by decide +kernel
theorem dX12_sweepsCell_83 : decode cX12_sweepsCell 83 = .ok (.iload_n 1, 1) := by decide +kernel
theorem dX12_sweepsCell_84 : decode cX12_sweepsCell 84 = .ok (.iload 7, 2) := by decide +kernel
theorem dX12_sweepsCell_86 : decode cX12_sweepsCell 86 = .ok (.invokevirtual 372, 3) := by decide +kernel
theorem dX12_sweepsCell_89 : decode cX12_sweepsCell 89 = .ok (.iadd, 1) := by decide +kernel
theorem dX12_sweepsCell_90 : decode cX12_sweepsCell 90 = .ok (.istore 5, 2) := by decide +kernel
theorem dX12_sweepsCell_92 : decode cX12_sweepsCell 92 = .ok (.iinc 6 1, 3) := by decide +kernel
theorem dX12_sweepsCell_95 : decode cX12_sweepsCell 95 = .ok (.goto (-60), 3) := by decide +kernel
theorem dX12_sweepsCell_98 : decode cX12_sweepsCell 98 = .ok (.iload 5, 2) := by decide +kernel
theorem dX12_sweepsCell_100 : decode cX12_sweepsCell 100 = .ok (.ifCond .le 14, 3) := by decide +kernel
theorem dX12_sweepsCell_103 : decode cX12_sweepsCell 103 = .ok (.aload_n 0, 1) := by decide +kernel
theorem dX12_sweepsCell_104 : decode cX12_sweepsCell 104 = .ok (.getfield 67, 3) := by decide +kernel
theorem dX12_sweepsCell_107 : decode cX12_sweepsCell 107 = .ok (.iload_n 2, 1) := by decide +kernel
theorem dX12_sweepsCell_108 : decode cX12_sweepsCell 108 = .ok (.iload 4, 2) := by decide +kernel
theorem dX12_sweepsCell_110 : decode cX12_sweepsCell 110 = .ok (.iload 5, 2) := by decide +kernel
theorem dX12_sweepsCell_112 : decode cX12_sweepsCell 112 = .ok (.idiv, 1) := by decide +kernel
theorem dX12_sweepsCell_113 : decode cX12_sweepsCell 113 = .ok (.iastore, 1) := by decide +kernel
theorem dX12_sweepsCell_114 : decode cX12_sweepsCell 114 = .ok (.return_, 1) := by decide +kernel
theorem dX12_sweeps_0 : decode cX12_sweeps 0 = .ok (.iconst 0, 1) := by decide +kernel
theorem dX12_sweeps_1 : decode cX12_sweeps 1 = .ok (.istore_n 3, 1) := by decide +kernel
theorem dX12_sweeps_2 : decode cX12_sweeps 2 = .ok (.iload_n 3, 1) := by decide +kernel
theorem dX12_sweeps_3 : decode cX12_sweeps 3 = .ok (.aload_n 0, 1) := by decide +kernel
theorem dX12_sweeps_4 : decode cX12_sweeps 4 = .ok (.invokevirtual 212, 3) := by decide +kernel
theorem dX12_sweeps_7 : decode cX12_sweeps 7 = .ok (.if_icmp .ge 18, 3) := by decide +kernel
theorem dX12_sweeps_10 : decode cX12_sweeps 10 = .ok (.aload_n 0, 1) := by decide +kernel
theorem dX12_sweeps_11 : decode cX12_sweeps 11 = .ok (.getfield 67, 3) := by decide +kernel
theorem dX12_sweeps_14 : decode cX12_sweeps 14 = .ok (.iload_n 3, 1) := by decide +kernel
theorem dX12_sweeps_15 : decode cX12_sweeps 15 = .ok (.ldc_w 375, 3) := by decide +kernel
theorem dX12_sweeps_18 : decode cX12_sweeps 18 = .ok (.iastore, 1) := by decide +kernel
theorem dX12_sweeps_19 : decode cX12_sweeps 19 = .ok (.iinc 3 1, 3) := by decide +kernel
theorem dX12_sweeps_22 : decode cX12_sweeps 22 = .ok (.goto (-20), 3) := by decide +kernel
theorem dX12_sweeps_25 : decode cX12_sweeps 25 = .ok (.iconst 0, 1) := by decide +kernel
theorem dX12_sweeps_26 : decode cX12_sweeps 26 = .ok (.istore_n 3, 1) := by decide +kernel
theorem dX12_sweeps_27 : decode cX12_sweeps 27 = .ok (.iload_n 3, 1) := by decide +kernel
theorem dX12_sweeps_28 : decode cX12_sweeps 28 = .ok (.iload_n 2, 1) := by decide +kernel
theorem dX12_sweeps_29 : decode cX12_sweeps 29 = .ok (.if_icmp .ge 44, 3) := by decide +kernel
theorem dX12_sweeps_32 : decode cX12_sweeps 32 = .ok (.iconst 0, 1) := by decide +kernel
theorem dX12_sweeps_33 : decode cX12_sweeps 33 = .ok (.istore 4, 2) := by decide +kernel
theorem dX12_sweeps_35 : decode cX12_sweeps 35 = .ok (.iload 4, 2) := by decide +kernel
theorem dX12_sweeps_37 : decode cX12_sweeps 37 = .ok (.aload_n 0, 1) := by decide +kernel
theorem dX12_sweeps_38 : decode cX12_sweeps 38 = .ok (.invokevirtual 212, 3) := by decide +kernel
theorem dX12_sweeps_41 : decode cX12_sweeps 41 = .ok (.if_icmp .ge 26, 3) := by decide +kernel
theorem dX12_sweeps_44 : decode cX12_sweeps 44 = .ok (.aload_n 0, 1) := by decide +kernel
theorem dX12_sweeps_45 : decode cX12_sweeps 45 = .ok (.iload_n 1, 1) := by decide +kernel
theorem dX12_sweeps_46 : decode cX12_sweeps 46 = .ok (.iload 4, 2) := by decide +kernel
theorem dX12_sweeps_48 : decode cX12_sweeps 48 = .ok (.invokevirtual 372, 3) := by decide +kernel
theorem dX12_sweeps_51 : decode cX12_sweeps 51 = .ok (.ifCond .le 10, 3) := by decide +kernel
theorem dX12_sweeps_54 : decode cX12_sweeps 54 = .ok (.aload_n 0, 1) := by decide +kernel
theorem dX12_sweeps_55 : decode cX12_sweeps 55 = .ok (.iload_n 1, 1) := by decide +kernel
theorem dX12_sweeps_56 : decode cX12_sweeps 56 = .ok (.iload 4, 2) := by decide +kernel
theorem dX12_sweeps_58 : decode cX12_sweeps 58 = .ok (.invokevirtual 376, 3) := by decide +kernel
theorem dX12_sweeps_61 : decode cX12_sweeps 61 = .ok (.iinc 4 1, 3) := by decide +kernel
theorem dX12_sweeps_64 : decode cX12_sweeps 64 = .ok (.goto (-29), 3) := by decide +kernel
theorem dX12_sweeps_67 : decode cX12_sweeps 67 = .ok (.iinc 3 1, 3) := by decide +kernel
theorem dX12_sweeps_70 : decode cX12_sweeps 70 = .ok (.goto (-43), 3) := by decide +kernel
theorem dX12_sweeps_73 : decode cX12_sweeps 73 = .ok (.return_, 1) := by decide +kernel
theorem dX12_currentOf_0 : decode cX12_currentOf 0 = .ok (.aload_n 0, 1) := by decide +kernel
theorem dX12_currentOf_1 : decode cX12_currentOf 1 = .ok (.iload_n 1, 1) := by decide +kernel
theorem dX12_currentOf_2 : decode cX12_currentOf 2 = .ok (.iload_n 2, 1) := by decide +kernel
theorem dX12_currentOf_3 : decode cX12_currentOf 3 = .ok (.invokevirtual 379, 3) := by decide +kernel
theorem dX12_currentOf_6 : decode cX12_currentOf 6 = .ok (.iconst 0, 1) := by decide +kernel
theorem dX12_currentOf_7 : decode cX12_currentOf 7 = .ok (.istore_n 3, 1) := by decide +kernel
theorem dX12_currentOf_8 : decode cX12_currentOf 8 = .ok (.iconst 0, 1) := by decide +kernel
theorem dX12_currentOf_9 : decode cX12_currentOf 9 = .ok (.istore 4, 2) := by decide +kernel
theorem dX12_currentOf_11 : decode cX12_currentOf 11 = .ok (.iload 4, 2) := by decide +kernel
theorem dX12_currentOf_13 : decode cX12_currentOf 13 = .ok (.aload_n 0, 1) := by decide +kernel
theorem dX12_currentOf_14 : decode cX12_currentOf 14 = .ok (.invokevirtual 212, 3) := by decide +kernel
theorem dX12_currentOf_17 : decode cX12_currentOf 17 = .ok (.if_icmp .ge 44, 3) := by decide +kernel
theorem dX12_currentOf_20 : decode cX12_currentOf 20 = .ok (.iload_n 3, 1) := by decide +kernel
theorem dX12_currentOf_21 : decode cX12_currentOf 21 = .ok (.aload_n 0, 1) := by decide +kernel
theorem dX12_currentOf_22 : decode cX12_currentOf 22 = .ok (.iload_n 1, 1) := by decide +kernel
theorem dX12_currentOf_23 : decode cX12_currentOf 23 = .ok (.iload 4, 2) := by decide +kernel
theorem dX12_currentOf_25 : decode cX12_currentOf 25 = .ok (.invokevirtual 239, 3) := by decide +kernel
theorem dX12_currentOf_28 : decode cX12_currentOf 28 = .ok (.iconst 1, 1) := by decide +kernel
theorem dX12_currentOf_29 : decode cX12_currentOf 29 = .ok (.iand, 1) := by decide +kernel
theorem dX12_currentOf_30 : decode cX12_currentOf 30 = .ok (.iconst 1, 1) := by decide +kernel
theorem dX12_currentOf_31 : decode cX12_currentOf 31 = .ok (.if_icmp .ne 21, 3) := by decide +kernel
theorem dX12_currentOf_34 : decode cX12_currentOf 34 = .ok (.aload_n 0, 1) := by decide +kernel
theorem dX12_currentOf_35 : decode cX12_currentOf 35 = .ok (.iload_n 1, 1) := by decide +kernel
theorem dX12_currentOf_36 : decode cX12_currentOf 36 = .ok (.iload 4, 2) := by decide +kernel
theorem dX12_currentOf_38 : decode cX12_currentOf 38 = .ok (.invokevirtual 372, 3) := by decide +kernel
theorem dX12_currentOf_41 : decode cX12_currentOf 41 = .ok (.aload_n 0, 1) := by decide +kernel
theorem dX12_currentOf_42 : decode cX12_currentOf 42 = .ok (.getfield 67, 3) := by decide +kernel
theorem dX12_currentOf_45 : decode cX12_currentOf 45 = .ok (.iload 4, 2) := by decide +kernel
theorem dX12_currentOf_47 : decode cX12_currentOf 47 = .ok (.iaload, 1) := by decide +kernel
theorem dX12_currentOf_48 : decode cX12_currentOf 48 = .ok (.imul, 1) := by decide +kernel
theorem dX12_currentOf_49 : decode cX12_currentOf 49 = .ok (.goto 4, 3) := by decide +kernel
theorem dX12_currentOf_52 : decode cX12_currentOf 52 = .ok (.iconst 0, 1) := by decide +kernel
theorem dX12_currentOf_53 : decode cX12_currentOf 53 = .ok (.iadd, 1) := by decide +kernel
theorem dX12_currentOf_54 : decode cX12_currentOf 54 = .ok (.istore_n 3, 1) := by decide +kernel
theorem dX12_currentOf_55 : decode cX12_currentOf 55 = .ok (.iinc 4 1, 3) := by decide +kernel
theorem dX12_currentOf_58 : decode cX12_currentOf 58 = .ok (.goto (-47), 3) := by decide +kernel
theorem dX12_currentOf_61 : decode cX12_currentOf 61 = .ok (.iload_n 3, 1) := by decide +kernel
theorem dX12_currentOf_62 : decode cX12_currentOf 62 = .ok (.ireturn, 1) := by decide +kernel
theorem dX12_areSweeps_0 : decode cX12_areSweeps 0 = .ok (.iload_n 0, 1) := by decide +kernel
theorem dX12_areSweeps_1 : decode cX12_areSweeps 1 = .ok (.i2l, 1) := by decide +kernel
theorem dX12_areSweeps_2 : decode cX12_areSweeps 2 = .ok (.lconst 0, 1) := by decide +kernel
theorem dX12_areSweeps_3 : decode cX12_areSweeps 3 = .ok (.ldc2_w 382, 3) := by decide +kernel
theorem dX12_areSweeps_6 : decode cX12_areSweeps 6 = .ok (.invokestatic 108, 3) := by decide +kernel
theorem dX12_areSweeps_9 : decode cX12_areSweeps 9 = .ok (.ireturn, 1) := by decide +kernel
theorem dX12_potential_0 : decode cX12_potential 0 = .ok (.aload_n 0, 1) := by decide +kernel
theorem dX12_potential_1 : decode cX12_potential 1 = .ok (.iload_n 1, 1) := by decide +kernel
theorem dX12_potential_2 : decode cX12_potential 2 = .ok (.invokestatic 305, 3) := by decide +kernel
theorem dX12_potential_5 : decode cX12_potential 5 = .ok (.ifCond .eq 10, 3) := by decide +kernel
theorem dX12_potential_8 : decode cX12_potential 8 = .ok (.iload_n 3, 1) := by decide +kernel
theorem dX12_potential_9 : decode cX12_potential 9 = .ok (.invokestatic 384, 3) := by decide +kernel
theorem dX12_potential_12 : decode cX12_potential 12 = .ok (.ifCond .ne 7, 3) := by decide +kernel
theorem dX12_potential_15 : decode cX12_potential 15 = .ok (.iconst 1, 1) := by decide +kernel
theorem dX12_potential_16 : decode cX12_potential 16 = .ok (.goto 4, 3) := by decide +kernel
theorem dX12_potential_19 : decode cX12_potential 19 = .ok (.iconst 0, 1) := by decide +kernel
theorem dX12_potential_20 : decode cX12_potential 20 = .ok (.invokevirtual 296, 3) := by decide +kernel
theorem dX12_potential_23 : decode cX12_potential 23 = .ok (.ifCond .ne 24, 3) := by decide +kernel
theorem dX12_potential_26 : decode cX12_potential 26 = .ok (.aload_n 0, 1) := by decide +kernel
theorem dX12_potential_27 : decode cX12_potential 27 = .ok (.aload_n 0, 1) := by decide +kernel
theorem dX12_potential_28 : decode cX12_potential 28 = .ok (.iload_n 2, 1) := by decide +kernel
theorem dX12_potential_29 : decode cX12_potential 29 = .ok (.invokevirtual 302, 3) := by decide +kernel
theorem dX12_potential_32 : decode cX12_potential 32 = .ok (.ifCond .ne 7, 3) := by decide +kernel
theorem dX12_potential_35 : decode cX12_potential 35 = .ok (.iconst 1, 1) := by decide +kernel
theorem dX12_potential_36 : decode cX12_potential 36 = .ok (.goto 4, 3) := by decide +kernel
theorem dX12_potential_39 : decode cX12_potential 39 = .ok (.iconst 0, 1) := by decide +kernel
theorem dX12_potential_40 : decode cX12_potential 40 = .ok (.iconst 2, 1) := by decide +kernel
theorem dX12_potential_41 : decode cX12_potential 41 = .ok (.invokevirtual 313, 3) := by decide +kernel
theorem dX12_potential_44 : decode cX12_potential 44 = .ok (.ifCond .eq 5, 3) := by decide +kernel
theorem dX12_potential_47 : decode cX12_potential 47 = .ok (.iconst 0, 1) := by decide +kernel
theorem dX12_potential_48 : decode cX12_potential 48 = .ok (.ireturn, 1) := by decide +kernel
theorem dX12_potential_49 : decode cX12_potential 49 = .ok (.aload_n 0, 1) := by decide +kernel
theorem dX12_potential_50 : decode cX12_potential 50 = .ok (.iload_n 1, 1) := by decide +kernel
theorem dX12_potential_51 : decode cX12_potential 51 = .ok (.iload_n 3, 1) := by decide +kernel
theorem dX12_potential_52 : decode cX12_potential 52 = .ok (.invokevirtual 379, 3) := by decide +kernel
theorem dX12_potential_55 : decode cX12_potential 55 = .ok (.aload_n 0, 1) := by decide +kernel
theorem dX12_potential_56 : decode cX12_potential 56 = .ok (.iload_n 1, 1) := by decide +kernel
theorem dX12_potential_57 : decode cX12_potential 57 = .ok (.iload_n 2, 1) := by decide +kernel
theorem dX12_potential_58 : decode cX12_potential 58 = .ok (.invokevirtual 372, 3) := by decide +kernel
theorem dX12_potential_61 : decode cX12_potential 61 = .ok (.ifCond .ne 7, 3) := by decide +kernel
theorem dX12_potential_64 : decode cX12_potential 64 = .ok (.iconst (-1), 1) := by decide +kernel
theorem dX12_potential_65 : decode cX12_potential 65 = .ok (.goto 9, 3) := by decide +kernel
theorem dX12_potential_68 : decode cX12_potential 68 = .ok (.aload_n 0, 1) := by decide +kernel
theorem dX12_potential_69 : decode cX12_potential 69 = .ok (.getfield 67, 3) := by decide +kernel
theorem dX12_potential_72 : decode cX12_potential 72 = .ok (.iload_n 2, 1) := by decide +kernel
theorem dX12_potential_73 : decode cX12_potential 73 = .ok (.iaload, 1) := by decide +kernel
theorem dX12_potential_74 : decode cX12_potential 74 = .ok (.ireturn, 1) := by decide +kernel
theorem dX12_current_0 : decode cX12_current 0 = .ok (.aload_n 0, 1) := by decide +kernel
theorem dX12_current_1 : decode cX12_current 1 = .ok (.iload_n 1, 1) := by decide +kernel
theorem dX12_current_2 : decode cX12_current 2 = .ok (.invokestatic 305, 3) := by decide +kernel
theorem dX12_current_5 : decode cX12_current 5 = .ok (.ifCond .eq 10, 3) := by decide +kernel
theorem dX12_current_8 : decode cX12_current 8 = .ok (.iload_n 2, 1) := by decide +kernel
theorem dX12_current_9 : decode cX12_current 9 = .ok (.invokestatic 384, 3) := by decide +kernel
theorem dX12_current_12 : decode cX12_current 12 = .ok (.ifCond .ne 7, 3) := by decide +kernel
theorem dX12_current_15 : decode cX12_current 15 = .ok (.iconst 1, 1) := by decide +kernel
theorem dX12_current_16 : decode cX12_current 16 = .ok (.goto 4, 3) := by decide +kernel
theorem dX12_current_19 : decode cX12_current 19 = .ok (.iconst 0, 1) := by decide +kernel
theorem dX12_current_20 : decode cX12_current 20 = .ok (.invokevirtual 296, 3) := by decide +kernel
theorem dX12_current_23 : decode cX12_current 23 = .ok (.ifCond .eq 7, 3) := by decide +kernel
theorem dX12_current_26 : decode cX12_current 26 = .ok (.iconst 0, 1) := by decide +kernel
theorem dX12_current_27 : decode cX12_current 27 = .ok (.goto 9, 3) := by decide +kernel
theorem dX12_current_30 : decode cX12_current 30 = .ok (.aload_n 0, 1) := by decide +kernel
theorem dX12_current_31 : decode cX12_current 31 = .ok (.iload_n 1, 1) := by decide +kernel
theorem dX12_current_32 : decode cX12_current 32 = .ok (.iload_n 2, 1) := by decide +kernel
theorem dX12_current_33 : decode cX12_current 33 = .ok (.invokevirtual 387, 3) := by decide +kernel
theorem dX12_current_36 : decode cX12_current 36 = .ok (.ireturn, 1) := by decide +kernel
theorem dX12_resistance_0 : decode cX12_resistance 0 = .ok (.aload_n 0, 1) := by decide +kernel
theorem dX12_resistance_1 : decode cX12_resistance 1 = .ok (.iload_n 1, 1) := by decide +kernel
theorem dX12_resistance_2 : decode cX12_resistance 2 = .ok (.invokestatic 305, 3) := by decide +kernel
theorem dX12_resistance_5 : decode cX12_resistance 5 = .ok (.ifCond .eq 10, 3) := by decide +kernel
theorem dX12_resistance_8 : decode cX12_resistance 8 = .ok (.iload_n 2, 1) := by decide +kernel
theorem dX12_resistance_9 : decode cX12_resistance 9 = .ok (.invokestatic 384, 3) := by decide +kernel
theorem dX12_resistance_12 : decode cX12_resistance 12 = .ok (.ifCond .ne 7, 3) := by decide +kernel
theorem dX12_resistance_15 : decode cX12_resistance 15 = .ok (.iconst 1, 1) := by decide +kernel
theorem dX12_resistance_16 : decode cX12_resistance 16 = .ok (.goto 4, 3) := by decide +kernel
theorem dX12_resistance_19 : decode cX12_resistance 19 = .ok (.iconst 0, 1) := by decide +kernel
theorem dX12_resistance_20 : decode cX12_resistance 20 = .ok (.invokevirtual 296, 3) := by decide +kernel
theorem dX12_resistance_23 : decode cX12_resistance 23 = .ok (.ifCond .eq 5, 3) := by decide +kernel
theorem dX12_resistance_26 : decode cX12_resistance 26 = .ok (.fconst 0, 1) := by decide +kernel
theorem dX12_resistance_27 : decode cX12_resistance 27 = .ok (.freturn, 1) := by decide +kernel
theorem dX12_resistance_28 : decode cX12_resistance 28 = .ok (.aload_n 0, 1) := by decide +kernel
theorem dX12_resistance_29 : decode cX12_resistance 29 = .ok (.iload_n 1, 1) := by decide +kernel
theorem dX12_resistance_30 : decode cX12_resistance 30 = .ok (.iload_n 2, 1) := by decide +kernel
theorem dX12_resistance_31 : decode cX12_resistance 31 = .ok (.invokevirtual 387, 3) := by decide +kernel
theorem dX12_resistance_34 : decode cX12_resistance 34 = .ok (.istore_n 3, 1) := by decide +kernel
theorem dX12_resistance_35 : decode cX12_resistance 35 = .ok (.iload_n 3, 1) := by decide +kernel
theorem dX12_resistance_36 : decode cX12_resistance 36 = .ok (.ifCond .ne 7, 3) := by decide +kernel
theorem dX12_resistance_39 : decode cX12_resistance 39 = .ok (.fconst 0, 1) := by decide +kernel
theorem dX12_resistance_40 : decode cX12_resistance 40 = .ok (.goto 9, 3) := by decide +kernel
theorem dX12_resistance_43 : decode cX12_resistance 43 = .ok (.ldc_w 390, 3) := by decide +kernel
theorem dX12_resistance_46 : decode cX12_resistance 46 = .ok (.iload_n 3, 1) := by decide +kernel
theorem dX12_resistance_47 : decode cX12_resistance 47 = .ok (.i2f, 1) := by decide +kernel
theorem dX12_resistance_48 : decode cX12_resistance 48 = .ok (.fdiv, 1) := by decide +kernel
theorem dX12_resistance_49 : decode cX12_resistance 49 = .ok (.freturn, 1) := by decide +kernel
theorem dX12_balance_0 : decode cX12_balance 0 = .ok (.aload_n 0, 1) := by decide +kernel
theorem dX12_balance_1 : decode cX12_balance 1 = .ok (.iload_n 1, 1) := by decide +kernel
theorem dX12_balance_2 : decode cX12_balance 2 = .ok (.invokestatic 384, 3) := by decide +kernel
theorem dX12_balance_5 : decode cX12_balance 5 = .ok (.ifCond .ne 7, 3) := by decide +kernel
theorem dX12_balance_8 : decode cX12_balance 8 = .ok (.iconst 1, 1) := by decide +kernel
theorem dX12_balance_9 : decode cX12_balance 9 = .ok (.goto 4, 3) := by decide +kernel
theorem dX12_balance_12 : decode cX12_balance 12 = .ok (.iconst 0, 1) := by decide +kernel
theorem dX12_balance_13 : decode cX12_balance 13 = .ok (.invokevirtual 296, 3) := by decide +kernel
theorem dX12_balance_16 : decode cX12_balance 16 = .ok (.ifCond .eq 5, 3) := by decide +kernel
theorem dX12_balance_19 : decode cX12_balance 19 = .ok (.dconst 0, 1) := by decide +kernel
theorem dX12_balance_20 : decode cX12_balance 20 = .ok (.dreturn, 1) := by decide +kernel
theorem dX12_balance_21 : decode cX12_balance 21 = .ok (.aload_n 0, 1) := by decide +kernel
theorem dX12_balance_22 : decode cX12_balance 22 = .ok (.iconst 0, 1) := by decide +kernel
theorem dX12_balance_23 : decode cX12_balance 23 = .ok (.iload_n 1, 1) := by decide +kernel
theorem dX12_balance_24 : decode cX12_balance 24 = .ok (.invokevirtual 387, 3) := by decide +kernel
theorem dX12_balance_27 : decode cX12_balance 27 = .ok (.istore_n 2, 1) := by decide +kernel
theorem dX12_balance_28 : decode cX12_balance 28 = .ok (.iload_n 2, 1) := by decide +kernel
theorem dX12_balance_29 : decode cX12_balance 29 = .ok (.aload_n 0, 1) := by decide +kernel
theorem dX12_balance_30 : decode cX12_balance 30 = .ok (.iconst 1, 1) := by decide +kernel
theorem dX12_balance_31 : decode cX12_balance 31 = .ok (.iload_n 1, 1) := by decide +kernel
theorem dX12_balance_32 : decode cX12_balance 32 = .ok (.invokevirtual 387, 3) := by decide +kernel
theorem dX12_balance_35 : decode cX12_balance 35 = .ok (.iadd, 1) := by decide +kernel
theorem dX12_balance_36 : decode cX12_balance 36 = .ok (.istore_n 3, 1) := by decide +kernel
theorem dX12_balance_37 : decode cX12_balance 37 = .ok (.iload_n 3, 1) := by decide +kernel
theorem dX12_balance_38 : decode cX12_balance 38 = .ok (.ifCond .ne 9, 3) := by decide +kernel
theorem dX12_balance_41 : decode cX12_balance 41 = .ok (.ldc2_w 391, 3) := by decide +kernel
theorem dX12_balance_44 : decode cX12_balance 44 = .ok (.goto 8, 3) := by decide +kernel
theorem dX12_balance_47 : decode cX12_balance 47 = .ok (.iload_n 2, 1) := by decide +kernel
theorem dX12_balance_48 : decode cX12_balance 48 = .ok (.i2d, 1) := by decide +kernel
theorem dX12_balance_49 : decode cX12_balance 49 = .ok (.iload_n 3, 1) := by decide +kernel
theorem dX12_balance_50 : decode cX12_balance 50 = .ok (.i2d, 1) := by decide +kernel
theorem dX12_balance_51 : decode cX12_balance 51 = .ok (.ddiv, 1) := by decide +kernel
theorem dX12_balance_52 : decode cX12_balance 52 = .ok (.dreturn, 1) := by decide +kernel
theorem dX12_best_0 : decode cX12_best 0 = .ok (.aload_n 0, 1) := by decide +kernel
theorem dX12_best_1 : decode cX12_best 1 = .ok (.invokevirtual 251, 3) := by decide +kernel
theorem dX12_best_4 : decode cX12_best 4 = .ok (.istore_n 2, 1) := by decide +kernel
theorem dX12_best_5 : decode cX12_best 5 = .ok (.iload_n 2, 1) := by decide +kernel
theorem dX12_best_6 : decode cX12_best 6 = .ok (.iconst (-1), 1) := by decide +kernel
theorem dX12_best_7 : decode cX12_best 7 = .ok (.if_icmp .eq 5, 3) := by decide +kernel
theorem dX12_best_10 : decode cX12_best 10 = .ok (.iload_n 2, 1) := by decide +kernel
theorem dX12_best_11 : decode cX12_best 11 = .ok (.ireturn, 1) := by decide +kernel
theorem dX12_best_12 : decode cX12_best 12 = .ok (.iconst 0, 1) := by decide +kernel
theorem dX12_best_13 : decode cX12_best 13 = .ok (.istore_n 3, 1) := by decide +kernel
theorem dX12_best_14 : decode cX12_best 14 = .ok (.iload_n 3, 1) := by decide +kernel
theorem dX12_best_15 : decode cX12_best 15 = .ok (.aload_n 0, 1) := by decide +kernel
theorem dX12_best_16 : decode cX12_best 16 = .ok (.invokevirtual 212, 3) := by decide +kernel
theorem dX12_best_19 : decode cX12_best 19 = .ok (.if_icmp .ge 56, 3) := by decide +kernel
theorem dX12_best_22 : decode cX12_best 22 = .ok (.aload_n 0, 1) := by decide +kernel
theorem dX12_best_23 : decode cX12_best 23 = .ok (.iload_n 3, 1) := by decide +kernel
theorem dX12_best_24 : decode cX12_best 24 = .ok (.invokevirtual 215, 3) := by decide +kernel
theorem dX12_best_27 : decode cX12_best 27 = .ok (.iconst (-1), 1) := by decide +kernel
theorem dX12_best_28 : decode cX12_best 28 = .ok (.if_icmp .eq 6, 3) := by decide +kernel
theorem dX12_best_31 : decode cX12_best 31 = .ok (.goto 38, 3) := by decide +kernel
theorem dX12_best_34 : decode cX12_best 34 = .ok (.aload_n 0, 1) := by decide +kernel
theorem dX12_best_35 : decode cX12_best 35 = .ok (.getfield 9, 3) := by decide +kernel
theorem dX12_best_38 : decode cX12_best 38 = .ok (.iconst 5, 1) := by decide +kernel
theorem dX12_best_39 : decode cX12_best 39 = .ok (.iload_n 3, 1) := by decide +kernel
theorem dX12_best_40 : decode cX12_best 40 = .ok (.iadd, 1) := by decide +kernel
theorem dX12_best_41 : decode cX12_best 41 = .ok (.iload_n 1, 1) := by decide +kernel
theorem dX12_best_42 : decode cX12_best 42 = .ok (.iastore, 1) := by decide +kernel
theorem dX12_best_43 : decode cX12_best 43 = .ok (.aload_n 0, 1) := by decide +kernel
theorem dX12_best_44 : decode cX12_best 44 = .ok (.iconst 1, 1) := by decide +kernel
theorem dX12_best_45 : decode cX12_best 45 = .ok (.iload_n 1, 1) := by decide +kernel
theorem dX12_best_46 : decode cX12_best 46 = .ok (.isub, 1) := by decide +kernel
theorem dX12_best_47 : decode cX12_best 47 = .ok (.invokevirtual 393, 3) := by decide +kernel
theorem dX12_best_50 : decode cX12_best 50 = .ok (.istore 4, 2) := by decide +kernel
theorem dX12_best_52 : decode cX12_best 52 = .ok (.aload_n 0, 1) := by decide +kernel
theorem dX12_best_53 : decode cX12_best 53 = .ok (.getfield 9, 3) := by decide +kernel
theorem dX12_best_56 : decode cX12_best 56 = .ok (.iconst 5, 1) := by decide +kernel
theorem dX12_best_57 : decode cX12_best 57 = .ok (.iload_n 3, 1) := by decide +kernel
theorem dX12_best_58 : decode cX12_best 58 = .ok (.iadd, 1) := by decide +kernel
theorem dX12_best_59 : decode cX12_best 59 = .ok (.iconst (-1), 1) := by decide +kernel
theorem dX12_best_60 : decode cX12_best 60 = .ok (.iastore, 1) := by decide +kernel
theorem dX12_best_61 : decode cX12_best 61 = .ok (.iload 4, 2) := by decide +kernel
theorem dX12_best_63 : decode cX12_best 63 = .ok (.iload_n 1, 1) := by decide +kernel
theorem dX12_best_64 : decode cX12_best 64 = .ok (.if_icmp .ne 5, 3) := by decide +kernel
theorem dX12_best_67 : decode cX12_best 67 = .ok (.iload_n 1, 1) := by decide +kernel
theorem dX12_best_68 : decode cX12_best 68 = .ok (.ireturn, 1) := by decide +kernel
theorem dX12_best_69 : decode cX12_best 69 = .ok (.iinc 3 1, 3) := by decide +kernel
theorem dX12_best_72 : decode cX12_best 72 = .ok (.goto (-58), 3) := by decide +kernel
theorem dX12_best_75 : decode cX12_best 75 = .ok (.iconst 1, 1) := by decide +kernel
theorem dX12_best_76 : decode cX12_best 76 = .ok (.iload_n 1, 1) := by decide +kernel
theorem dX12_best_77 : decode cX12_best 77 = .ok (.isub, 1) := by decide +kernel
theorem dX12_best_78 : decode cX12_best 78 = .ok (.ireturn, 1) := by decide +kernel
theorem dX12_isFew_0 : decode cX12_isFew 0 = .ok (.aload_n 0, 1) := by decide +kernel
theorem dX12_isFew_1 : decode cX12_isFew 1 = .ok (.iconst (-1), 1) := by decide +kernel
theorem dX12_isFew_2 : decode cX12_isFew 2 = .ok (.invokevirtual 291, 3) := by decide +kernel
theorem dX12_isFew_5 : decode cX12_isFew 5 = .ok (.bipush 6, 2) := by decide +kernel
theorem dX12_isFew_7 : decode cX12_isFew 7 = .ok (.if_icmp .gt 7, 3) := by decide +kernel
theorem dX12_isFew_10 : decode cX12_isFew 10 = .ok (.iconst 1, 1) := by decide +kernel
theorem dX12_isFew_11 : decode cX12_isFew 11 = .ok (.goto 4, 3) := by decide +kernel
theorem dX12_isFew_14 : decode cX12_isFew 14 = .ok (.iconst 0, 1) := by decide +kernel
theorem dX12_isFew_15 : decode cX12_isFew 15 = .ok (.ireturn, 1) := by decide +kernel
theorem dX12_solved_0 : decode cX12_solved 0 = .ok (.aload_n 0, 1) := by decide +kernel
theorem dX12_solved_1 : decode cX12_solved 1 = .ok (.iconst 0, 1) := by decide +kernel
theorem dX12_solved_2 : decode cX12_solved 2 = .ok (.putfield 77, 3) := by decide +kernel
theorem dX12_solved_5 : decode cX12_solved 5 = .ok (.aload_n 0, 1) := by decide +kernel
theorem dX12_solved_6 : decode cX12_solved 6 = .ok (.invokevirtual 155, 3) := by decide +kernel
theorem dX12_solved_9 : decode cX12_solved 9 = .ok (.istore_n 1, 1) := by decide +kernel
theorem dX12_solved_10 : decode cX12_solved 10 = .ok (.iload_n 1, 1) := by decide +kernel
theorem dX12_solved_11 : decode cX12_solved 11 = .ok (.iconst (-1), 1) := by decide +kernel
theorem dX12_solved_12 : decode cX12_solved 12 = .ok (.if_icmp .eq 7, 3) := by decide +kernel
theorem dX12_solved_15 : decode cX12_solved 15 = .ok (.iload_n 1, 1) := by decide +kernel
theorem dX12_solved_16 : decode cX12_solved 16 = .ok (.goto 24, 3) := by decide +kernel
theorem dX12_solved_19 : decode cX12_solved 19 = .ok (.aload_n 0, 1) := by decide +kernel
theorem dX12_solved_20 : decode cX12_solved 20 = .ok (.invokevirtual 396, 3) := by decide +kernel
theorem dX12_solved_23 : decode cX12_solved 23 = .ok (.ifCond .eq 16, 3) := by decide +kernel
theorem dX12_solved_26 : decode cX12_solved 26 = .ok (.aload_n 0, 1) := by decide +kernel
theorem dX12_solved_27 : decode cX12_solved 27 = .ok (.aload_n 0, 1) := by decide +kernel
theorem dX12_solved_28 : decode cX12_solved 28 = .ok (.getfield 9, 3) := by decide +kernel
theorem dX12_solved_31 : decode cX12_solved 31 = .ok (.iconst 2, 1) := by decide +kernel
theorem dX12_solved_32 : decode cX12_solved 32 = .ok (.iaload, 1) := by decide +kernel
theorem dX12_solved_33 : decode cX12_solved 33 = .ok (.invokevirtual 393, 3) := by decide +kernel
theorem dX12_solved_36 : decode cX12_solved 36 = .ok (.goto 4, 3) := by decide +kernel
theorem dX12_solved_39 : decode cX12_solved 39 = .ok (.iconst (-1), 1) := by decide +kernel
theorem dX12_solved_40 : decode cX12_solved 40 = .ok (.ireturn, 1) := by decide +kernel
theorem dX12_isGood_0 : decode cX12_isGood 0 = .ok (.aload_n 0, 1) := by decide +kernel
theorem dX12_isGood_1 : decode cX12_isGood 1 = .ok (.iload_n 1, 1) := by decide +kernel
theorem dX12_isGood_2 : decode cX12_isGood 2 = .ok (.invokevirtual 215, 3) := by decide +kernel
theorem dX12_isGood_5 : decode cX12_isGood 5 = .ok (.iconst (-1), 1) := by decide +kernel
theorem dX12_isGood_6 : decode cX12_isGood 6 = .ok (.if_icmp .eq 5, 3) := by decide +kernel
theorem dX12_isGood_9 : decode cX12_isGood 9 = .ok (.iconst 0, 1) := by decide +kernel
theorem dX12_isGood_10 : decode cX12_isGood 10 = .ok (.ireturn, 1) := by decide +kernel
theorem dX12_isGood_11 : decode cX12_isGood 11 = .ok (.aload_n 0, 1) := by decide +kernel
theorem dX12_isGood_12 : decode cX12_isGood 12 = .ok (.getfield 9, 3) := by decide +kernel
theorem dX12_isGood_15 : decode cX12_isGood 15 = .ok (.iconst 5, 1) := by decide +kernel
theorem dX12_isGood_16 : decode cX12_isGood 16 = .ok (.iload_n 1, 1) := by decide +kernel
theorem dX12_isGood_17 : decode cX12_isGood 17 = .ok (.iadd, 1) := by decide +kernel
theorem dX12_isGood_18 : decode cX12_isGood 18 = .ok (.aload_n 0, 1) := by decide +kernel
theorem dX12_isGood_19 : decode cX12_isGood 19 = .ok (.getfield 9, 3) := by decide +kernel
theorem dX12_isGood_22 : decode cX12_isGood 22 = .ok (.iconst 2, 1) := by decide +kernel
theorem dX12_isGood_23 : decode cX12_isGood 23 = .ok (.iaload, 1) := by decide +kernel
theorem dX12_isGood_24 : decode cX12_isGood 24 = .ok (.iastore, 1) := by decide +kernel
theorem dX12_isGood_25 : decode cX12_isGood 25 = .ok (.aload_n 0, 1) := by decide +kernel
theorem dX12_isGood_26 : decode cX12_isGood 26 = .ok (.iconst 1, 1) := by decide +kernel
theorem dX12_isGood_27 : decode cX12_isGood 27 = .ok (.aload_n 0, 1) := by decide +kernel
theorem dX12_isGood_28 : decode cX12_isGood 28 = .ok (.getfield 9, 3) := by decide +kernel
theorem dX12_isGood_31 : decode cX12_isGood 31 = .ok (.iconst 2, 1) := by decide +kernel
theorem dX12_isGood_32 : decode cX12_isGood 32 = .ok (.iaload, 1) := by decide +kernel
theorem dX12_isGood_33 : decode cX12_isGood 33 = .ok (.isub, 1) := by decide +kernel
theorem dX12_isGood_34 : decode cX12_isGood 34 = .ok (.invokevirtual 393, 3) := by decide +kernel
theorem dX12_isGood_37 : decode cX12_isGood 37 = .ok (.aload_n 0, 1) := by decide +kernel
theorem dX12_isGood_38 : decode cX12_isGood 38 = .ok (.getfield 9, 3) := by decide +kernel
theorem dX12_isGood_41 : decode cX12_isGood 41 = .ok (.iconst 2, 1) := by decide +kernel
theorem dX12_isGood_42 : decode cX12_isGood 42 = .ok (.iaload, 1) := by decide +kernel
theorem dX12_isGood_43 : decode cX12_isGood 43 = .ok (.if_icmp .ne 7, 3) := by decide +kernel
theorem dX12_isGood_46 : decode cX12_isGood 46 = .ok (.iconst 1, 1) := by decide +kernel
theorem dX12_isGood_47 : decode cX12_isGood 47 = .ok (.goto 4, 3) := by decide +kernel
theorem dX12_isGood_50 : decode cX12_isGood 50 = .ok (.iconst 0, 1) := by decide +kernel
theorem dX12_isGood_51 : decode cX12_isGood 51 = .ok (.istore_n 2, 1) := by decide +kernel
theorem dX12_isGood_52 : decode cX12_isGood 52 = .ok (.aload_n 0, 1) := by decide +kernel
theorem dX12_isGood_53 : decode cX12_isGood 53 = .ok (.getfield 9, 3) := by decide +kernel
theorem dX12_isGood_56 : decode cX12_isGood 56 = .ok (.iconst 5, 1) := by decide +kernel
theorem dX12_isGood_57 : decode cX12_isGood 57 = .ok (.iload_n 1, 1) := by decide +kernel
theorem dX12_isGood_58 : decode cX12_isGood 58 = .ok (.iadd, 1) := by decide +kernel
theorem dX12_isGood_59 : decode cX12_isGood 59 = .ok (.iconst (-1), 1) := by decide +kernel
theorem dX12_isGood_60 : decode cX12_isGood 60 = .ok (.iastore, 1) := by decide +kernel
theorem dX12_isGood_61 : decode cX12_isGood 61 = .ok (.iload_n 2, 1) := by decide +kernel
theorem dX12_isGood_62 : decode cX12_isGood 62 = .ok (.ireturn, 1) := by decide +kernel
theorem dX12_goodMoves_0 : decode cX12_goodMoves 0 = .ok (.aload_n 0, 1) := by decide +kernel
theorem dX12_goodMoves_1 : decode cX12_goodMoves 1 = .ok (.iconst 0, 1) := by decide +kernel
theorem dX12_goodMoves_2 : decode cX12_goodMoves 2 = .ok (.putfield 77, 3) := by decide +kernel
theorem dX12_goodMoves_5 : decode cX12_goodMoves 5 = .ok (.aload_n 0, 1) := by decide +kernel
theorem dX12_goodMoves_6 : decode cX12_goodMoves 6 = .ok (.invokevirtual 155, 3) := by decide +kernel
theorem dX12_goodMoves_9 : decode cX12_goodMoves 9 = .ok (.iconst (-1), 1) := by decide +kernel
theorem dX12_goodMoves_10 : decode cX12_goodMoves 10 = .ok (.if_icmp .eq 5, 3) := by decide +kernel
theorem dX12_goodMoves_13 : decode cX12_goodMoves 13 = .ok (.iconst 0, 1) := by decide +kernel
theorem dX12_goodMoves_14 : decode cX12_goodMoves 14 = .ok (.ireturn, 1) := by decide +kernel
theorem dX12_goodMoves_15 : decode cX12_goodMoves 15 = .ok (.aload_n 0, 1) := by decide +kernel
theorem dX12_goodMoves_16 : decode cX12_goodMoves 16 = .ok (.invokevirtual 396, 3) := by decide +kernel
theorem dX12_goodMoves_19 : decode cX12_goodMoves 19 = .ok (.ifCond .ne 5, 3) := by decide +kernel
theorem dX12_goodMoves_22 : decode cX12_goodMoves 22 = .ok (.iconst (-1), 1) := by decide +kernel
theorem dX12_goodMoves_23 : decode cX12_goodMoves 23 = .ok (.ireturn, 1) := by decide +kernel
theorem dX12_goodMoves_24 : decode cX12_goodMoves 24 = .ok (.iconst 0, 1) := by decide +kernel
theorem dX12_goodMoves_25 : decode cX12_goodMoves 25 = .ok (.istore_n 1, 1) := by decide +kernel
theorem dX12_goodMoves_26 : decode cX12_goodMoves 26 = .ok (.iconst 0, 1) := by decide +kernel
theorem dX12_goodMoves_27 : decode cX12_goodMoves 27 = .ok (.istore_n 2, 1) := by decide +kernel
theorem dX12_goodMoves_28 : decode cX12_goodMoves 28 = .ok (.iload_n 2, 1) := by decide +kernel
theorem dX12_goodMoves_29 : decode cX12_goodMoves 29 = .ok (.aload_n 0, 1) := by decide +kernel
theorem dX12_goodMoves_30 : decode cX12_goodMoves 30 = .ok (.invokevirtual 212, 3) := by decide +kernel
theorem dX12_goodMoves_33 : decode cX12_goodMoves 33 = .ok (.if_icmp .ge 25, 3) := by decide +kernel
theorem dX12_goodMoves_36 : decode cX12_goodMoves 36 = .ok (.iload_n 1, 1) := by decide +kernel
theorem dX12_goodMoves_37 : decode cX12_goodMoves 37 = .ok (.aload_n 0, 1) := by decide +kernel
theorem dX12_goodMoves_38 : decode cX12_goodMoves 38 = .ok (.iload_n 2, 1) := by decide +kernel
theorem dX12_goodMoves_39 : decode cX12_goodMoves 39 = .ok (.invokevirtual 399, 3) := by decide +kernel
theorem dX12_goodMoves_42 : decode cX12_goodMoves 42 = .ok (.ifCond .eq 7, 3) := by decide +kernel
theorem dX12_goodMoves_45 : decode cX12_goodMoves 45 = .ok (.iconst 1, 1) := by decide +kernel
theorem dX12_goodMoves_46 : decode cX12_goodMoves 46 = .ok (.goto 4, 3) := by decide +kernel
theorem dX12_goodMoves_49 : decode cX12_goodMoves 49 = .ok (.iconst 0, 1) := by decide +kernel
theorem dX12_goodMoves_50 : decode cX12_goodMoves 50 = .ok (.iadd, 1) := by decide +kernel
theorem dX12_goodMoves_51 : decode cX12_goodMoves 51 = .ok (.istore_n 1, 1) := by decide +kernel
theorem dX12_goodMoves_52 : decode cX12_goodMoves 52 = .ok (.iinc 2 1, 3) := by decide +kernel
theorem dX12_goodMoves_55 : decode cX12_goodMoves 55 = .ok (.goto (-27), 3) := by decide +kernel
theorem dX12_goodMoves_58 : decode cX12_goodMoves 58 = .ok (.iload_n 1, 1) := by decide +kernel
theorem dX12_goodMoves_59 : decode cX12_goodMoves 59 = .ok (.ireturn, 1) := by decide +kernel
theorem dX12_bestMove_0 : decode cX12_bestMove 0 = .ok (.aload_n 0, 1) := by decide +kernel
theorem dX12_bestMove_1 : decode cX12_bestMove 1 = .ok (.iconst 0, 1) := by decide +kernel
theorem dX12_bestMove_2 : decode cX12_bestMove 2 = .ok (.putfield 77, 3) := by decide +kernel
theorem dX12_bestMove_5 : decode cX12_bestMove 5 = .ok (.aload_n 0, 1) := by decide +kernel
theorem dX12_bestMove_6 : decode cX12_bestMove 6 = .ok (.invokevirtual 155, 3) := by decide +kernel
theorem dX12_bestMove_9 : decode cX12_bestMove 9 = .ok (.iconst (-1), 1) := by decide +kernel
theorem dX12_bestMove_10 : decode cX12_bestMove 10 = .ok (.if_icmp .ne 10, 3) := by decide +kernel
theorem dX12_bestMove_13 : decode cX12_bestMove 13 = .ok (.aload_n 0, 1) := by decide +kernel
theorem dX12_bestMove_14 : decode cX12_bestMove 14 = .ok (.invokevirtual 396, 3) := by decide +kernel
theorem dX12_bestMove_17 : decode cX12_bestMove 17 = .ok (.ifCond .ne 5, 3) := by decide +kernel
theorem dX12_bestMove_20 : decode cX12_bestMove 20 = .ok (.iconst (-1), 1) := by decide +kernel
theorem dX12_bestMove_21 : decode cX12_bestMove 21 = .ok (.ireturn, 1) := by decide +kernel
theorem dX12_bestMove_22 : decode cX12_bestMove 22 = .ok (.iconst 0, 1) := by decide +kernel
theorem dX12_bestMove_23 : decode cX12_bestMove 23 = .ok (.istore_n 1, 1) := by decide +kernel
theorem dX12_bestMove_24 : decode cX12_bestMove 24 = .ok (.iload_n 1, 1) := by decide +kernel
theorem dX12_bestMove_25 : decode cX12_bestMove 25 = .ok (.aload_n 0, 1) := by decide +kernel
theorem dX12_bestMove_26 : decode cX12_bestMove 26 = .ok (.invokevirtual 212, 3) := by decide +kernel
theorem dX12_bestMove_29 : decode cX12_bestMove 29 = .ok (.if_icmp .ge 19, 3) := by decide +kernel
theorem dX12_bestMove_32 : decode cX12_bestMove 32 = .ok (.aload_n 0, 1) := by decide +kernel
theorem dX12_bestMove_33 : decode cX12_bestMove 33 = .ok (.iload_n 1, 1) := by decide +kernel
theorem dX12_bestMove_34 : decode cX12_bestMove 34 = .ok (.invokevirtual 399, 3) := by decide +kernel
theorem dX12_bestMove_37 : decode cX12_bestMove 37 = .ok (.ifCond .eq 5, 3) := by decide +kernel
theorem dX12_bestMove_40 : decode cX12_bestMove 40 = .ok (.iload_n 1, 1) := by decide +kernel
theorem dX12_bestMove_41 : decode cX12_bestMove 41 = .ok (.ireturn, 1) := by decide +kernel
theorem dX12_bestMove_42 : decode cX12_bestMove 42 = .ok (.iinc 1 1, 3) := by decide +kernel
theorem dX12_bestMove_45 : decode cX12_bestMove 45 = .ok (.goto (-21), 3) := by decide +kernel
theorem dX12_bestMove_48 : decode cX12_bestMove 48 = .ok (.iconst (-1), 1) := by decide +kernel
theorem dX12_bestMove_49 : decode cX12_bestMove 49 = .ok (.ireturn, 1) := by decide +kernel
theorem dX12_fills_0 : decode cX12_fills 0 = .ok (.iconst 0, 1) := by decide +kernel
theorem dX12_fills_1 : decode cX12_fills 1 = .ok (.istore_n 1, 1) := by decide +kernel
theorem dX12_fills_2 : decode cX12_fills 2 = .ok (.iload_n 1, 1) := by decide +kernel
theorem dX12_fills_3 : decode cX12_fills 3 = .ok (.aload_n 0, 1) := by decide +kernel
theorem dX12_fills_4 : decode cX12_fills 4 = .ok (.invokevirtual 212, 3) := by decide +kernel
theorem dX12_fills_7 : decode cX12_fills 7 = .ok (.if_icmp .ge 71, 3) := by decide +kernel
theorem dX12_fills_10 : decode cX12_fills 10 = .ok (.aload_n 0, 1) := by decide +kernel
theorem dX12_fills_11 : decode cX12_fills 11 = .ok (.iload_n 1, 1) := by decide +kernel
theorem dX12_fills_12 : decode cX12_fills 12 = .ok (.invokevirtual 215, 3) := by decide +kernel
theorem dX12_fills_15 : decode cX12_fills 15 = .ok (.iconst (-1), 1) := by decide +kernel
theorem dX12_fills_16 : decode cX12_fills 16 = .ok (.if_icmp .eq 6, 3) := by decide +kernel
theorem dX12_fills_19 : decode cX12_fills 19 = .ok (.goto 53, 3) := by decide +kernel
theorem dX12_fills_22 : decode cX12_fills 22 = .ok (.aload_n 0, 1) := by decide +kernel
theorem dX12_fills_23 : decode cX12_fills 23 = .ok (.ldc2_w 402, 3) := by decide +kernel
theorem dX12_fills_26 : decode cX12_fills 26 = .ok (.aload_n 0, 1) := by decide +kernel
theorem dX12_fills_27 : decode cX12_fills 27 = .ok (.getfield 404, 3) := by decide +kernel
theorem dX12_fills_30 : decode cX12_fills 30 = .ok (.lmul, 1) := by decide +kernel
theorem dX12_fills_31 : decode cX12_fills 31 = .ok (.ldc2_w 408, 3) := by decide +kernel
theorem dX12_fills_34 : decode cX12_fills 34 = .ok (.ladd, 1) := by decide +kernel
theorem dX12_fills_35 : decode cX12_fills 35 = .ok (.ldc2_w 410, 3) := by decide +kernel
theorem dX12_fills_38 : decode cX12_fills 38 = .ok (.lrem, 1) := by decide +kernel
theorem dX12_fills_39 : decode cX12_fills 39 = .ok (.putfield 404, 3) := by decide +kernel
theorem dX12_fills_42 : decode cX12_fills 42 = .ok (.aload_n 0, 1) := by decide +kernel
theorem dX12_fills_43 : decode cX12_fills 43 = .ok (.getfield 9, 3) := by decide +kernel
theorem dX12_fills_46 : decode cX12_fills 46 = .ok (.iconst 5, 1) := by decide +kernel
theorem dX12_fills_47 : decode cX12_fills 47 = .ok (.iload_n 1, 1) := by decide +kernel
theorem dX12_fills_48 : decode cX12_fills 48 = .ok (.iadd, 1) := by decide +kernel
theorem dX12_fills_49 : decode cX12_fills 49 = .ok (.aload_n 0, 1) := by decide +kernel
theorem dX12_fills_50 : decode cX12_fills 50 = .ok (.getfield 404, 3) := by decide +kernel
theorem dX12_fills_53 : decode cX12_fills 53 = .ok (.ldc2_w 412, 3) := by decide +kernel
theorem dX12_fills_56 : decode cX12_fills 56 = .ok (.ldiv, 1) := by decide +kernel
theorem dX12_fills_57 : decode cX12_fills 57 = .ok (.ldc2_w 414, 3) := by decide +kernel
theorem dX12_fills_60 : decode cX12_fills 60 = .ok (.lrem, 1) := by decide +kernel
theorem dX12_fills_61 : decode cX12_fills 61 = .ok (.lconst 0, 1) := by decide +kernel
theorem dX12_fills_62 : decode cX12_fills 62 = .ok (.lcmp, 1) := by decide +kernel
theorem dX12_fills_63 : decode cX12_fills 63 = .ok (.ifCond .ne 7, 3) := by decide +kernel
theorem dX12_fills_66 : decode cX12_fills 66 = .ok (.iconst 0, 1) := by decide +kernel
theorem dX12_fills_67 : decode cX12_fills 67 = .ok (.goto 4, 3) := by decide +kernel
theorem dX12_fills_70 : decode cX12_fills 70 = .ok (.iconst 1, 1) := by decide +kernel
theorem dX12_fills_71 : decode cX12_fills 71 = .ok (.iastore, 1) := by decide +kernel
theorem dX12_fills_72 : decode cX12_fills 72 = .ok (.iinc 1 1, 3) := by decide +kernel
theorem dX12_fills_75 : decode cX12_fills 75 = .ok (.goto (-73), 3) := by decide +kernel
theorem dX12_fills_78 : decode cX12_fills 78 = .ok (.return_, 1) := by decide +kernel
theorem dX12_filled_0 : decode cX12_filled 0 = .ok (.aload_n 0, 1) := by decide +kernel
theorem dX12_filled_1 : decode cX12_filled 1 = .ok (.iload_n 1, 1) := by decide +kernel
theorem dX12_filled_2 : decode cX12_filled 2 = .ok (.ifCond .ge 7, 3) := by decide +kernel
theorem dX12_filled_5 : decode cX12_filled 5 = .ok (.iconst 1, 1) := by decide +kernel
theorem dX12_filled_6 : decode cX12_filled 6 = .ok (.goto 4, 3) := by decide +kernel
theorem dX12_filled_9 : decode cX12_filled 9 = .ok (.iconst 0, 1) := by decide +kernel
theorem dX12_filled_10 : decode cX12_filled 10 = .ok (.invokevirtual 296, 3) := by decide +kernel
theorem dX12_filled_13 : decode cX12_filled 13 = .ok (.ifCond .eq 5, 3) := by decide +kernel
theorem dX12_filled_16 : decode cX12_filled 16 = .ok (.iconst 0, 1) := by decide +kernel
theorem dX12_filled_17 : decode cX12_filled 17 = .ok (.ireturn, 1) := by decide +kernel
theorem dX12_filled_18 : decode cX12_filled 18 = .ok (.aload_n 0, 1) := by decide +kernel
theorem dX12_filled_19 : decode cX12_filled 19 = .ok (.iload_n 1, 1) := by decide +kernel
theorem dX12_filled_20 : decode cX12_filled 20 = .ok (.i2l, 1) := by decide +kernel
theorem dX12_filled_21 : decode cX12_filled 21 = .ok (.putfield 404, 3) := by decide +kernel
theorem dX12_filled_24 : decode cX12_filled 24 = .ok (.aload_n 0, 1) := by decide +kernel
theorem dX12_filled_25 : decode cX12_filled 25 = .ok (.invokevirtual 196, 3) := by decide +kernel
theorem dX12_filled_28 : decode cX12_filled 28 = .ok (.aload_n 0, 1) := by decide +kernel
theorem dX12_filled_29 : decode cX12_filled 29 = .ok (.invokevirtual 416, 3) := by decide +kernel
theorem dX12_filled_32 : decode cX12_filled 32 = .ok (.aload_n 0, 1) := by decide +kernel
theorem dX12_filled_33 : decode cX12_filled 33 = .ok (.aload_n 0, 1) := by decide +kernel
theorem dX12_filled_34 : decode cX12_filled 34 = .ok (.invokevirtual 251, 3) := by decide +kernel
theorem dX12_filled_37 : decode cX12_filled 37 = .ok (.invokevirtual 202, 3) := by decide +kernel
theorem dX12_filled_40 : decode cX12_filled 40 = .ok (.ireturn, 1) := by decide +kernel
theorem dX12_fillings_0 : decode cX12_fillings 0 = .ok (.aload_n 0, 1) := by decide +kernel
theorem dX12_fillings_1 : decode cX12_fillings 1 = .ok (.iload_n 1, 1) := by decide +kernel
theorem dX12_fillings_2 : decode cX12_fillings 2 = .ok (.invokestatic 305, 3) := by decide +kernel
theorem dX12_fillings_5 : decode cX12_fillings 5 = .ok (.ifCond .eq 19, 3) := by decide +kernel
theorem dX12_fillings_8 : decode cX12_fillings 8 = .ok (.iload_n 2, 1) := by decide +kernel
theorem dX12_fillings_9 : decode cX12_fillings 9 = .ok (.ifCond .lt 15, 3) := by decide +kernel
theorem dX12_fillings_12 : decode cX12_fillings 12 = .ok (.iload_n 3, 1) := by decide +kernel
theorem dX12_fillings_13 : decode cX12_fillings 13 = .ok (.i2l, 1) := by decide +kernel
theorem dX12_fillings_14 : decode cX12_fillings 14 = .ok (.lconst 1, 1) := by decide +kernel
theorem dX12_fillings_15 : decode cX12_fillings 15 = .ok (.ldc2_w 382, 3) := by decide +kernel
theorem dX12_fillings_18 : decode cX12_fillings 18 = .ok (.invokestatic 108, 3) := by decide +kernel
theorem dX12_fillings_21 : decode cX12_fillings 21 = .ok (.ifCond .ne 7, 3) := by decide +kernel
theorem dX12_fillings_24 : decode cX12_fillings 24 = .ok (.iconst 1, 1) := by decide +kernel
theorem dX12_fillings_25 : decode cX12_fillings 25 = .ok (.goto 4, 3) := by decide +kernel
theorem dX12_fillings_28 : decode cX12_fillings 28 = .ok (.iconst 0, 1) := by decide +kernel
theorem dX12_fillings_29 : decode cX12_fillings 29 = .ok (.invokevirtual 296, 3) := by decide +kernel
theorem dX12_fillings_32 : decode cX12_fillings 32 = .ok (.ifCond .eq 5, 3) := by decide +kernel
theorem dX12_fillings_35 : decode cX12_fillings 35 = .ok (.iconst 0, 1) := by decide +kernel
theorem dX12_fillings_36 : decode cX12_fillings 36 = .ok (.ireturn, 1) := by decide +kernel
theorem dX12_fillings_37 : decode cX12_fillings 37 = .ok (.aload_n 0, 1) := by decide +kernel
theorem dX12_fillings_38 : decode cX12_fillings 38 = .ok (.iload_n 2, 1) := by decide +kernel
theorem dX12_fillings_39 : decode cX12_fillings 39 = .ok (.i2l, 1) := by decide +kernel
theorem dX12_fillings_40 : decode cX12_fillings 40 = .ok (.putfield 404, 3) := by decide +kernel
theorem dX12_fillings_43 : decode cX12_fillings 43 = .ok (.iconst 0, 1) := by decide +kernel
theorem dX12_fillings_44 : decode cX12_fillings 44 = .ok (.istore 4, 2) := by decide +kernel
theorem dX12_fillings_46 : decode cX12_fillings 46 = .ok (.aload_n 0, 1) := by decide +kernel
theorem dX12_fillings_47 : decode cX12_fillings 47 = .ok (.invokevirtual 196, 3) := by decide +kernel
theorem dX12_fillings_50 : decode cX12_fillings 50 = .ok (.iconst 0, 1) := by decide +kernel
theorem dX12_fillings_51 : decode cX12_fillings 51 = .ok (.istore 5, 2) := by decide +kernel
theorem dX12_fillings_53 : decode cX12_fillings 53 = .ok (.iload 5, 2) := by decide +kernel
theorem dX12_fillings_55 : decode cX12_fillings 55 = .ok (.iload_n 3, 1) := by decide +kernel
theorem dX12_fillings_56 : decode cX12_fillings 56 = .ok (.if_icmp .ge 38, 3) := by decide +kernel
theorem dX12_fillings_59 : decode cX12_fillings 59 = .ok (.aload_n 0, 1) := by decide +kernel
theorem dX12_fillings_60 : decode cX12_fillings 60 = .ok (.invokevirtual 416, 3) := by decide +kernel
theorem dX12_fillings_63 : decode cX12_fillings 63 = .ok (.iload 4, 2) := by decide +kernel
theorem dX12_fillings_65 : decode cX12_fillings 65 = .ok (.aload_n 0, 1) := by decide +kernel
theorem dX12_fillings_66 : decode cX12_fillings 66 = .ok (.iload_n 1, 1) := by decide +kernel
theorem dX12_fillings_67 : decode cX12_fillings 67 = .ok (.invokevirtual 248, 3) := by decide +kernel
theorem dX12_fillings_70 : decode cX12_fillings 70 = .ok (.ifCond .eq 7, 3) := by decide +kernel
theorem dX12_fillings_73 : decode cX12_fillings 73 = .ok (.iconst 1, 1) := by decide +kernel
theorem dX12_fillings_74 : decode cX12_fillings 74 = .ok (.goto 4, 3) := by decide +kernel
theorem dX12_fillings_77 : decode cX12_fillings 77 = .ok (.iconst 0, 1) := by decide +kernel
theorem dX12_fillings_78 : decode cX12_fillings 78 = .ok (.iadd, 1) := by decide +kernel
theorem dX12_fillings_79 : decode cX12_fillings 79 = .ok (.istore 4, 2) := by decide +kernel
theorem dX12_fillings_81 : decode cX12_fillings 81 = .ok (.aload_n 0, 1) := by decide +kernel
theorem dX12_fillings_82 : decode cX12_fillings 82 = .ok (.iconst 0, 1) := by decide +kernel
theorem dX12_fillings_83 : decode cX12_fillings 83 = .ok (.invokevirtual 202, 3) := by decide +kernel
theorem dX12_fillings_86 : decode cX12_fillings 86 = .ok (.istore 6, 2) := by decide +kernel
theorem dX12_fillings_88 : decode cX12_fillings 88 = .ok (.iinc 5 1, 3) := by decide +kernel
theorem dX12_fillings_91 : decode cX12_fillings 91 = .ok (.goto (-38), 3) := by decide +kernel
theorem dX12_fillings_94 : decode cX12_fillings 94 = .ok (.iload 4, 2) := by decide +kernel
theorem dX12_fillings_96 : decode cX12_fillings 96 = .ok (.ireturn, 1) := by decide +kernel
theorem dX12_idle_0 : decode cX12_idle 0 = .ok (.aload_n 0, 1) := by decide +kernel
theorem dX12_idle_1 : decode cX12_idle 1 = .ok (.iload_n 1, 1) := by decide +kernel
theorem dX12_idle_2 : decode cX12_idle 2 = .ok (.ifCond .ge 7, 3) := by decide +kernel
theorem dX12_idle_5 : decode cX12_idle 5 = .ok (.iconst 1, 1) := by decide +kernel
theorem dX12_idle_6 : decode cX12_idle 6 = .ok (.goto 4, 3) := by decide +kernel
theorem dX12_idle_9 : decode cX12_idle 9 = .ok (.iconst 0, 1) := by decide +kernel
theorem dX12_idle_10 : decode cX12_idle 10 = .ok (.invokevirtual 296, 3) := by decide +kernel
theorem dX12_idle_13 : decode cX12_idle 13 = .ok (.ifCond .eq 5, 3) := by decide +kernel
theorem dX12_idle_16 : decode cX12_idle 16 = .ok (.iconst 0, 1) := by decide +kernel
theorem dX12_idle_17 : decode cX12_idle 17 = .ok (.ireturn, 1) := by decide +kernel
theorem dX12_idle_18 : decode cX12_idle 18 = .ok (.aload_n 0, 1) := by decide +kernel
theorem dX12_idle_19 : decode cX12_idle 19 = .ok (.iload_n 1, 1) := by decide +kernel
theorem dX12_idle_20 : decode cX12_idle 20 = .ok (.i2l, 1) := by decide +kernel
theorem dX12_idle_21 : decode cX12_idle 21 = .ok (.putfield 404, 3) := by decide +kernel
theorem dX12_idle_24 : decode cX12_idle 24 = .ok (.aload_n 0, 1) := by decide +kernel
theorem dX12_idle_25 : decode cX12_idle 25 = .ok (.invokevirtual 196, 3) := by decide +kernel
theorem dX12_idle_28 : decode cX12_idle 28 = .ok (.aload_n 0, 1) := by decide +kernel
theorem dX12_idle_29 : decode cX12_idle 29 = .ok (.invokevirtual 416, 3) := by decide +kernel
theorem dX12_idle_32 : decode cX12_idle 32 = .ok (.aload_n 0, 1) := by decide +kernel
theorem dX12_idle_33 : decode cX12_idle 33 = .ok (.invokevirtual 251, 3) := by decide +kernel
theorem dX12_idle_36 : decode cX12_idle 36 = .ok (.istore_n 2, 1) := by decide +kernel
theorem dX12_idle_37 : decode cX12_idle 37 = .ok (.iconst 0, 1) := by decide +kernel
theorem dX12_idle_38 : decode cX12_idle 38 = .ok (.istore_n 3, 1) := by decide +kernel
theorem dX12_idle_39 : decode cX12_idle 39 = .ok (.iconst 0, 1) := by decide +kernel
theorem dX12_idle_40 : decode cX12_idle 40 = .ok (.istore 4, 2) := by decide +kernel
theorem dX12_idle_42 : decode cX12_idle 42 = .ok (.iload 4, 2) := by decide +kernel
theorem dX12_idle_44 : decode cX12_idle 44 = .ok (.aload_n 0, 1) := by decide +kernel
theorem dX12_idle_45 : decode cX12_idle 45 = .ok (.invokevirtual 212, 3) := by decide +kernel
theorem dX12_idle_48 : decode cX12_idle 48 = .ok (.if_icmp .ge 81, 3) := by decide +kernel
theorem dX12_idle_51 : decode cX12_idle 51 = .ok (.aload_n 0, 1) := by decide +kernel
theorem dX12_idle_52 : decode cX12_idle 52 = .ok (.getfield 13, 3) := by decide +kernel
theorem dX12_idle_55 : decode cX12_idle 55 = .ok (.iconst 5, 1) := by decide +kernel
theorem dX12_idle_56 : decode cX12_idle 56 = .ok (.iload 4, 2) := by decide +kernel
theorem dX12_idle_58 : decode cX12_idle 58 = .ok (.iadd, 1) := by decide +kernel
theorem dX12_idle_59 : decode cX12_idle 59 = .ok (.iaload, 1) := by decide +kernel
theorem dX12_idle_60 : decode cX12_idle 60 = .ok (.iconst (-1), 1) := by decide +kernel
theorem dX12_idle_61 : decode cX12_idle 61 = .ok (.if_icmp .eq 6, 3) := by decide +kernel
theorem dX12_idle_64 : decode cX12_idle 64 = .ok (.goto 59, 3) := by decide +kernel
theorem dX12_idle_67 : decode cX12_idle 67 = .ok (.aload_n 0, 1) := by decide +kernel
theorem dX12_idle_68 : decode cX12_idle 68 = .ok (.getfield 9, 3) := by decide +kernel
theorem dX12_idle_71 : decode cX12_idle 71 = .ok (.iconst 5, 1) := by decide +kernel
theorem dX12_idle_72 : decode cX12_idle 72 = .ok (.iload 4, 2) := by decide +kernel
theorem dX12_idle_74 : decode cX12_idle 74 = .ok (.iadd, 1) := by decide +kernel
theorem dX12_idle_75 : decode cX12_idle 75 = .ok (.iconst 1, 1) := by decide +kernel
theorem dX12_idle_76 : decode cX12_idle 76 = .ok (.aload_n 0, 1) := by decide +kernel
theorem dX12_idle_77 : decode cX12_idle 77 = .ok (.getfield 9, 3) := by decide +kernel
theorem dX12_idle_80 : decode cX12_idle 80 = .ok (.iconst 5, 1) := by decide +kernel
theorem dX12_idle_81 : decode cX12_idle 81 = .ok (.iload 4, 2) := by decide +kernel
theorem dX12_idle_83 : decode cX12_idle 83 = .ok (.iadd, 1) := by decide +kernel
theorem dX12_idle_84 : decode cX12_idle 84 = .ok (.iaload, 1) := by decide +kernel
theorem dX12_idle_85 : decode cX12_idle 85 = .ok (.isub, 1) := by decide +kernel
theorem dX12_idle_86 : decode cX12_idle 86 = .ok (.iastore, 1) := by decide +kernel
theorem dX12_idle_87 : decode cX12_idle 87 = .ok (.iload_n 3, 1) := by decide +kernel
theorem dX12_idle_88 : decode cX12_idle 88 = .ok (.aload_n 0, 1) := by decide +kernel
theorem dX12_idle_89 : decode cX12_idle 89 = .ok (.invokevirtual 251, 3) := by decide +kernel
theorem dX12_idle_92 : decode cX12_idle 92 = .ok (.iload_n 2, 1) := by decide +kernel
theorem dX12_idle_93 : decode cX12_idle 93 = .ok (.if_icmp .ne 7, 3) := by decide +kernel
theorem dX12_idle_96 : decode cX12_idle 96 = .ok (.iconst 1, 1) := by decide +kernel
theorem dX12_idle_97 : decode cX12_idle 97 = .ok (.goto 4, 3) := by decide +kernel
theorem dX12_idle_100 : decode cX12_idle 100 = .ok (.iconst 0, 1) := by decide +kernel
theorem dX12_idle_101 : decode cX12_idle 101 = .ok (.iadd, 1) := by decide +kernel
theorem dX12_idle_102 : decode cX12_idle 102 = .ok (.istore_n 3, 1) := by decide +kernel
theorem dX12_idle_103 : decode cX12_idle 103 = .ok (.aload_n 0, 1) := by decide +kernel
theorem dX12_idle_104 : decode cX12_idle 104 = .ok (.getfield 9, 3) := by decide +kernel
theorem dX12_idle_107 : decode cX12_idle 107 = .ok (.iconst 5, 1) := by decide +kernel
theorem dX12_idle_108 : decode cX12_idle 108 = .ok (.iload 4, 2) := by decide +kernel
theorem dX12_idle_110 : decode cX12_idle 110 = .ok (.iadd, 1) := by decide +kernel
theorem dX12_idle_111 : decode cX12_idle 111 = .ok (.iconst 1, 1) := by decide +kernel
theorem dX12_idle_112 : decode cX12_idle 112 = .ok (.aload_n 0, 1) := by decide +kernel
theorem dX12_idle_113 : decode cX12_idle 113 = .ok (.getfield 9, 3) := by decide +kernel
theorem dX12_idle_116 : decode cX12_idle 116 = .ok (.iconst 5, 1) := by decide +kernel
theorem dX12_idle_117 : decode cX12_idle 117 = .ok (.iload 4, 2) := by decide +kernel
theorem dX12_idle_119 : decode cX12_idle 119 = .ok (.iadd, 1) := by decide +kernel
theorem dX12_idle_120 : decode cX12_idle 120 = .ok (.iaload, 1) := by decide +kernel
theorem dX12_idle_121 : decode cX12_idle 121 = .ok (.isub, 1) := by decide +kernel
theorem dX12_idle_122 : decode cX12_idle 122 = .ok (.iastore, 1) := by decide +kernel
theorem dX12_idle_123 : decode cX12_idle 123 = .ok (.iinc 4 1, 3) := by decide +kernel
theorem dX12_idle_126 : decode cX12_idle 126 = .ok (.goto (-84), 3) := by decide +kernel
theorem dX12_idle_129 : decode cX12_idle 129 = .ok (.aload_n 0, 1) := by decide +kernel
theorem dX12_idle_130 : decode cX12_idle 130 = .ok (.iload_n 3, 1) := by decide +kernel
theorem dX12_idle_131 : decode cX12_idle 131 = .ok (.invokevirtual 202, 3) := by decide +kernel
theorem dX12_idle_134 : decode cX12_idle 134 = .ok (.ireturn, 1) := by decide +kernel
theorem dX12_moveAt_0 : decode cX12_moveAt 0 = .ok (.aload_n 0, 1) := by decide +kernel
theorem dX12_moveAt_1 : decode cX12_moveAt 1 = .ok (.iconst 0, 1) := by decide +kernel
theorem dX12_moveAt_2 : decode cX12_moveAt 2 = .ok (.putfield 77, 3) := by decide +kernel
theorem dX12_moveAt_5 : decode cX12_moveAt 5 = .ok (.iload_n 1, 1) := by decide +kernel
theorem dX12_moveAt_6 : decode cX12_moveAt 6 = .ok (.i2l, 1) := by decide +kernel
theorem dX12_moveAt_7 : decode cX12_moveAt 7 = .ok (.lconst 0, 1) := by decide +kernel
theorem dX12_moveAt_8 : decode cX12_moveAt 8 = .ok (.aload_n 0, 1) := by decide +kernel
theorem dX12_moveAt_9 : decode cX12_moveAt 9 = .ok (.getfield 9, 3) := by decide +kernel
theorem dX12_moveAt_12 : decode cX12_moveAt 12 = .ok (.iconst 4, 1) := by decide +kernel
theorem dX12_moveAt_13 : decode cX12_moveAt 13 = .ok (.iaload, 1) := by decide +kernel
theorem dX12_moveAt_14 : decode cX12_moveAt 14 = .ok (.iconst 1, 1) := by decide +kernel
theorem dX12_moveAt_15 : decode cX12_moveAt 15 = .ok (.isub, 1) := by decide +kernel
theorem dX12_moveAt_16 : decode cX12_moveAt 16 = .ok (.i2l, 1) := by decide +kernel
theorem dX12_moveAt_17 : decode cX12_moveAt 17 = .ok (.invokestatic 108, 3) := by decide +kernel
theorem dX12_moveAt_20 : decode cX12_moveAt 20 = .ok (.ifCond .eq 15, 3) := by decide +kernel
theorem dX12_moveAt_23 : decode cX12_moveAt 23 = .ok (.aload_n 0, 1) := by decide +kernel
theorem dX12_moveAt_24 : decode cX12_moveAt 24 = .ok (.getfield 9, 3) := by decide +kernel
theorem dX12_moveAt_27 : decode cX12_moveAt 27 = .ok (.bipush 86, 2) := by decide +kernel
theorem dX12_moveAt_29 : decode cX12_moveAt 29 = .ok (.iload_n 1, 1) := by decide +kernel
theorem dX12_moveAt_30 : decode cX12_moveAt 30 = .ok (.iadd, 1) := by decide +kernel
theorem dX12_moveAt_31 : decode cX12_moveAt 31 = .ok (.iaload, 1) := by decide +kernel
theorem dX12_moveAt_32 : decode cX12_moveAt 32 = .ok (.goto 4, 3) := by decide +kernel
theorem dX12_moveAt_35 : decode cX12_moveAt 35 = .ok (.iconst (-1), 1) := by decide +kernel
theorem dX12_moveAt_36 : decode cX12_moveAt 36 = .ok (.ireturn, 1) := by decide +kernel
theorem dX12_notes_0 : decode cX12_notes 0 = .ok (.aload_n 0, 1) := by decide +kernel
theorem dX12_notes_1 : decode cX12_notes 1 = .ok (.getfield 9, 3) := by decide +kernel
theorem dX12_notes_4 : decode cX12_notes 4 = .ok (.bipush 86, 2) := by decide +kernel
theorem dX12_notes_6 : decode cX12_notes 6 = .ok (.aload_n 0, 1) := by decide +kernel
theorem dX12_notes_7 : decode cX12_notes 7 = .ok (.getfield 9, 3) := by decide +kernel
theorem dX12_notes_10 : decode cX12_notes 10 = .ok (.iconst 4, 1) := by decide +kernel
theorem dX12_notes_11 : decode cX12_notes 11 = .ok (.iaload, 1) := by decide +kernel
theorem dX12_notes_12 : decode cX12_notes 12 = .ok (.iadd, 1) := by decide +kernel
theorem dX12_notes_13 : decode cX12_notes 13 = .ok (.iload_n 1, 1) := by decide +kernel
theorem dX12_notes_14 : decode cX12_notes 14 = .ok (.iastore, 1) := by decide +kernel
theorem dX12_notes_15 : decode cX12_notes 15 = .ok (.aload_n 0, 1) := by decide +kernel
theorem dX12_notes_16 : decode cX12_notes 16 = .ok (.getfield 9, 3) := by decide +kernel
theorem dX12_notes_19 : decode cX12_notes 19 = .ok (.iconst 4, 1) := by decide +kernel
theorem dX12_notes_20 : decode cX12_notes 20 = .ok (.dup2, 1) := by decide +kernel
theorem dX12_notes_21 : decode cX12_notes 21 = .ok (.iaload, 1) := by decide +kernel
theorem dX12_notes_22 : decode cX12_notes 22 = .ok (.iconst 1, 1) := by decide +kernel
theorem dX12_notes_23 : decode cX12_notes 23 = .ok (.iadd, 1) := by decide +kernel
theorem dX12_notes_24 : decode cX12_notes 24 = .ok (.iastore, 1) := by decide +kernel
theorem dX12_notes_25 : decode cX12_notes 25 = .ok (.return_, 1) := by decide +kernel
theorem dX12_moves_0 : decode cX12_moves 0 = .ok (.aload_n 0, 1) := by decide +kernel
theorem dX12_moves_1 : decode cX12_moves 1 = .ok (.getfield 9, 3) := by decide +kernel
theorem dX12_moves_4 : decode cX12_moves 4 = .ok (.iconst 5, 1) := by decide +kernel
theorem dX12_moves_5 : decode cX12_moves 5 = .ok (.iload_n 1, 1) := by decide +kernel
theorem dX12_moves_6 : decode cX12_moves 6 = .ok (.iadd, 1) := by decide +kernel
theorem dX12_moves_7 : decode cX12_moves 7 = .ok (.aload_n 0, 1) := by decide +kernel
theorem dX12_moves_8 : decode cX12_moves 8 = .ok (.getfield 9, 3) := by decide +kernel
theorem dX12_moves_11 : decode cX12_moves 11 = .ok (.iconst 2, 1) := by decide +kernel
theorem dX12_moves_12 : decode cX12_moves 12 = .ok (.iaload, 1) := by decide +kernel
theorem dX12_moves_13 : decode cX12_moves 13 = .ok (.iastore, 1) := by decide +kernel
theorem dX12_moves_14 : decode cX12_moves 14 = .ok (.aload_n 0, 1) := by decide +kernel
theorem dX12_moves_15 : decode cX12_moves 15 = .ok (.getfield 9, 3) := by decide +kernel
theorem dX12_moves_18 : decode cX12_moves 18 = .ok (.iconst 2, 1) := by decide +kernel
theorem dX12_moves_19 : decode cX12_moves 19 = .ok (.iconst 1, 1) := by decide +kernel
theorem dX12_moves_20 : decode cX12_moves 20 = .ok (.aload_n 0, 1) := by decide +kernel
theorem dX12_moves_21 : decode cX12_moves 21 = .ok (.getfield 9, 3) := by decide +kernel
theorem dX12_moves_24 : decode cX12_moves 24 = .ok (.iconst 2, 1) := by decide +kernel
theorem dX12_moves_25 : decode cX12_moves 25 = .ok (.iaload, 1) := by decide +kernel
theorem dX12_moves_26 : decode cX12_moves 26 = .ok (.isub, 1) := by decide +kernel
theorem dX12_moves_27 : decode cX12_moves 27 = .ok (.iastore, 1) := by decide +kernel
theorem dX12_moves_28 : decode cX12_moves 28 = .ok (.aload_n 0, 1) := by decide +kernel
theorem dX12_moves_29 : decode cX12_moves 29 = .ok (.iload_n 1, 1) := by decide +kernel
theorem dX12_moves_30 : decode cX12_moves 30 = .ok (.invokevirtual 419, 3) := by decide +kernel
theorem dX12_moves_33 : decode cX12_moves 33 = .ok (.return_, 1) := by decide +kernel
theorem dX12_move_0 : decode cX12_move 0 = .ok (.aload_n 0, 1) := by decide +kernel
theorem dX12_move_1 : decode cX12_move 1 = .ok (.iload_n 1, 1) := by decide +kernel
theorem dX12_move_2 : decode cX12_move 2 = .ok (.invokevirtual 308, 3) := by decide +kernel
theorem dX12_move_5 : decode cX12_move 5 = .ok (.ifCond .eq 5, 3) := by decide +kernel
theorem dX12_move_8 : decode cX12_move 8 = .ok (.iconst 0, 1) := by decide +kernel
theorem dX12_move_9 : decode cX12_move 9 = .ok (.ireturn, 1) := by decide +kernel
theorem dX12_move_10 : decode cX12_move 10 = .ok (.aload_n 0, 1) := by decide +kernel
theorem dX12_move_11 : decode cX12_move 11 = .ok (.iload_n 1, 1) := by decide +kernel
theorem dX12_move_12 : decode cX12_move 12 = .ok (.invokevirtual 215, 3) := by decide +kernel
theorem dX12_move_15 : decode cX12_move 15 = .ok (.iconst (-1), 1) := by decide +kernel
theorem dX12_move_16 : decode cX12_move 16 = .ok (.if_icmp .ne 11, 3) := by decide +kernel
theorem dX12_move_19 : decode cX12_move 19 = .ok (.aload_n 0, 1) := by decide +kernel
theorem dX12_move_20 : decode cX12_move 20 = .ok (.invokevirtual 155, 3) := by decide +kernel
theorem dX12_move_23 : decode cX12_move 23 = .ok (.iconst (-1), 1) := by decide +kernel
theorem dX12_move_24 : decode cX12_move 24 = .ok (.if_icmp .eq 6, 3) := by decide +kernel
theorem dX12_move_27 : decode cX12_move 27 = .ok (.bipush (-3), 2) := by decide +kernel
theorem dX12_move_29 : decode cX12_move 29 = .ok (.ireturn, 1) := by decide +kernel
theorem dX12_move_30 : decode cX12_move 30 = .ok (.aload_n 0, 1) := by decide +kernel
theorem dX12_move_31 : decode cX12_move 31 = .ok (.getfield 9, 3) := by decide +kernel
theorem dX12_move_34 : decode cX12_move 34 = .ok (.iconst 4, 1) := by decide +kernel
theorem dX12_move_35 : decode cX12_move 35 = .ok (.iaload, 1) := by decide +kernel
theorem dX12_move_36 : decode cX12_move 36 = .ok (.sipush 200, 3) := by decide +kernel
theorem dX12_move_39 : decode cX12_move 39 = .ok (.if_icmp .ne 6, 3) := by decide +kernel
theorem dX12_move_42 : decode cX12_move 42 = .ok (.bipush (-2), 2) := by decide +kernel
theorem dX12_move_44 : decode cX12_move 44 = .ok (.ireturn, 1) := by decide +kernel
theorem dX12_move_45 : decode cX12_move 45 = .ok (.aload_n 0, 1) := by decide +kernel
theorem dX12_move_46 : decode cX12_move 46 = .ok (.invokevirtual 422, 3) := by decide +kernel
theorem dX12_move_49 : decode cX12_move 49 = .ok (.aload_n 0, 1) := by decide +kernel
theorem dX12_move_50 : decode cX12_move 50 = .ok (.iload_n 1, 1) := by decide +kernel
theorem dX12_move_51 : decode cX12_move 51 = .ok (.invokevirtual 164, 3) := by decide +kernel
theorem dX12_move_54 : decode cX12_move 54 = .ok (.aload_n 0, 1) := by decide +kernel
theorem dX12_move_55 : decode cX12_move 55 = .ok (.invokevirtual 155, 3) := by decide +kernel
theorem dX12_move_58 : decode cX12_move 58 = .ok (.ireturn, 1) := by decide +kernel
theorem dX12_swap_0 : decode cX12_swap 0 = .ok (.aload_n 0, 1) := by decide +kernel
theorem dX12_swap_1 : decode cX12_swap 1 = .ok (.iconst 0, 1) := by decide +kernel
theorem dX12_swap_2 : decode cX12_swap 2 = .ok (.putfield 77, 3) := by decide +kernel
theorem dX12_swap_5 : decode cX12_swap 5 = .ok (.aload_n 0, 1) := by decide +kernel
theorem dX12_swap_6 : decode cX12_swap 6 = .ok (.invokevirtual 299, 3) := by decide +kernel
theorem dX12_swap_9 : decode cX12_swap 9 = .ok (.ifCond .ne 6, 3) := by decide +kernel
theorem dX12_swap_12 : decode cX12_swap 12 = .ok (.bipush (-3), 2) := by decide +kernel
theorem dX12_swap_14 : decode cX12_swap 14 = .ok (.ireturn, 1) := by decide +kernel
theorem dX12_swap_15 : decode cX12_swap 15 = .ok (.aload_n 0, 1) := by decide +kernel
theorem dX12_swap_16 : decode cX12_swap 16 = .ok (.invokevirtual 422, 3) := by decide +kernel
theorem dX12_swap_19 : decode cX12_swap 19 = .ok (.aload_n 0, 1) := by decide +kernel
theorem dX12_swap_20 : decode cX12_swap 20 = .ok (.getfield 9, 3) := by decide +kernel
theorem dX12_swap_23 : decode cX12_swap 23 = .ok (.bipush 86, 2) := by decide +kernel
theorem dX12_swap_25 : decode cX12_swap 25 = .ok (.iaload, 1) := by decide +kernel
theorem dX12_swap_26 : decode cX12_swap 26 = .ok (.istore_n 1, 1) := by decide +kernel
theorem dX12_swap_27 : decode cX12_swap 27 = .ok (.aload_n 0, 1) := by decide +kernel
theorem dX12_swap_28 : decode cX12_swap 28 = .ok (.iload_n 1, 1) := by decide +kernel
theorem dX12_swap_29 : decode cX12_swap 29 = .ok (.invokevirtual 425, 3) := by decide +kernel
theorem dX12_swap_32 : decode cX12_swap 32 = .ok (.istore_n 2, 1) := by decide +kernel
theorem dX12_swap_33 : decode cX12_swap 33 = .ok (.aload_n 0, 1) := by decide +kernel
theorem dX12_swap_34 : decode cX12_swap 34 = .ok (.getfield 9, 3) := by decide +kernel
theorem dX12_swap_37 : decode cX12_swap 37 = .ok (.iconst 5, 1) := by decide +kernel
theorem dX12_swap_38 : decode cX12_swap 38 = .ok (.iload_n 1, 1) := by decide +kernel
theorem dX12_swap_39 : decode cX12_swap 39 = .ok (.iadd, 1) := by decide +kernel
theorem dX12_swap_40 : decode cX12_swap 40 = .ok (.iconst (-1), 1) := by decide +kernel
theorem dX12_swap_41 : decode cX12_swap 41 = .ok (.iastore, 1) := by decide +kernel
theorem dX12_swap_42 : decode cX12_swap 42 = .ok (.aload_n 0, 1) := by decide +kernel
theorem dX12_swap_43 : decode cX12_swap 43 = .ok (.iload_n 2, 1) := by decide +kernel
theorem dX12_swap_44 : decode cX12_swap 44 = .ok (.invokevirtual 164, 3) := by decide +kernel
theorem dX12_swap_47 : decode cX12_swap 47 = .ok (.iload_n 2, 1) := by decide +kernel
theorem dX12_swap_48 : decode cX12_swap 48 = .ok (.ireturn, 1) := by decide +kernel
theorem dX12_giveUp_0 : decode cX12_giveUp 0 = .ok (.aload_n 0, 1) := by decide +kernel
theorem dX12_giveUp_1 : decode cX12_giveUp 1 = .ok (.iconst 0, 1) := by decide +kernel
theorem dX12_giveUp_2 : decode cX12_giveUp 2 = .ok (.putfield 77, 3) := by decide +kernel
theorem dX12_giveUp_5 : decode cX12_giveUp 5 = .ok (.aload_n 0, 1) := by decide +kernel
theorem dX12_giveUp_6 : decode cX12_giveUp 6 = .ok (.invokevirtual 155, 3) := by decide +kernel
theorem dX12_giveUp_9 : decode cX12_giveUp 9 = .ok (.iconst (-1), 1) := by decide +kernel
theorem dX12_giveUp_10 : decode cX12_giveUp 10 = .ok (.if_icmp .eq 6, 3) := by decide +kernel
theorem dX12_giveUp_13 : decode cX12_giveUp 13 = .ok (.bipush (-3), 2) := by decide +kernel
theorem dX12_giveUp_15 : decode cX12_giveUp 15 = .ok (.ireturn, 1) := by decide +kernel
theorem dX12_giveUp_16 : decode cX12_giveUp 16 = .ok (.aload_n 0, 1) := by decide +kernel
theorem dX12_giveUp_17 : decode cX12_giveUp 17 = .ok (.invokevirtual 422, 3) := by decide +kernel
theorem dX12_giveUp_20 : decode cX12_giveUp 20 = .ok (.aload_n 0, 1) := by decide +kernel
theorem dX12_giveUp_21 : decode cX12_giveUp 21 = .ok (.getfield 9, 3) := by decide +kernel
theorem dX12_giveUp_24 : decode cX12_giveUp 24 = .ok (.iconst 3, 1) := by decide +kernel
theorem dX12_giveUp_25 : decode cX12_giveUp 25 = .ok (.aload_n 0, 1) := by decide +kernel
theorem dX12_giveUp_26 : decode cX12_giveUp 26 = .ok (.getfield 9, 3) := by decide +kernel
theorem dX12_giveUp_29 : decode cX12_giveUp 29 = .ok (.iconst 2, 1) := by decide +kernel
theorem dX12_giveUp_30 : decode cX12_giveUp 30 = .ok (.iaload, 1) := by decide +kernel
theorem dX12_giveUp_31 : decode cX12_giveUp 31 = .ok (.iastore, 1) := by decide +kernel
theorem dX12_giveUp_32 : decode cX12_giveUp 32 = .ok (.aload_n 0, 1) := by decide +kernel
theorem dX12_giveUp_33 : decode cX12_giveUp 33 = .ok (.invokevirtual 155, 3) := by decide +kernel
theorem dX12_giveUp_36 : decode cX12_giveUp 36 = .ok (.ireturn, 1) := by decide +kernel
theorem dX12_put_0 : decode cX12_put 0 = .ok (.aload_n 0, 1) := by decide +kernel
theorem dX12_put_1 : decode cX12_put 1 = .ok (.iload_n 1, 1) := by decide +kernel
theorem dX12_put_2 : decode cX12_put 2 = .ok (.invokevirtual 308, 3) := by decide +kernel
theorem dX12_put_5 : decode cX12_put 5 = .ok (.ifCond .ne 28, 3) := by decide +kernel
theorem dX12_put_8 : decode cX12_put 8 = .ok (.aload_n 0, 1) := by decide +kernel
theorem dX12_put_9 : decode cX12_put 9 = .ok (.iload_n 2, 1) := by decide +kernel
theorem dX12_put_10 : decode cX12_put 10 = .ok (.i2l, 1) := by decide +kernel
theorem dX12_put_11 : decode cX12_put 11 = .ok (.ldc2_w 428, 3) := by decide +kernel
theorem dX12_put_14 : decode cX12_put 14 = .ok (.lconst 1, 1) := by decide +kernel
theorem dX12_put_15 : decode cX12_put 15 = .ok (.invokestatic 108, 3) := by decide +kernel
theorem dX12_put_18 : decode cX12_put 18 = .ok (.ifCond .ne 7, 3) := by decide +kernel
theorem dX12_put_21 : decode cX12_put 21 = .ok (.iconst 1, 1) := by decide +kernel
theorem dX12_put_22 : decode cX12_put 22 = .ok (.goto 4, 3) := by decide +kernel
theorem dX12_put_25 : decode cX12_put 25 = .ok (.iconst 0, 1) := by decide +kernel
theorem dX12_put_26 : decode cX12_put 26 = .ok (.iconst 2, 1) := by decide +kernel
theorem dX12_put_27 : decode cX12_put 27 = .ok (.invokevirtual 313, 3) := by decide +kernel
theorem dX12_put_30 : decode cX12_put 30 = .ok (.ifCond .eq 5, 3) := by decide +kernel
theorem dX12_put_33 : decode cX12_put 33 = .ok (.iconst 0, 1) := by decide +kernel
theorem dX12_put_34 : decode cX12_put 34 = .ok (.ireturn, 1) := by decide +kernel
theorem dX12_put_35 : decode cX12_put 35 = .ok (.aload_n 0, 1) := by decide +kernel
theorem dX12_put_36 : decode cX12_put 36 = .ok (.invokevirtual 422, 3) := by decide +kernel
theorem dX12_put_39 : decode cX12_put 39 = .ok (.aload_n 0, 1) := by decide +kernel
theorem dX12_put_40 : decode cX12_put 40 = .ok (.iload_n 1, 1) := by decide +kernel
theorem dX12_put_41 : decode cX12_put 41 = .ok (.invokevirtual 215, 3) := by decide +kernel
theorem dX12_put_44 : decode cX12_put 44 = .ok (.istore_n 3, 1) := by decide +kernel
theorem dX12_put_45 : decode cX12_put 45 = .ok (.aload_n 0, 1) := by decide +kernel
theorem dX12_put_46 : decode cX12_put 46 = .ok (.getfield 9, 3) := by decide +kernel
theorem dX12_put_49 : decode cX12_put 49 = .ok (.iconst 5, 1) := by decide +kernel
theorem dX12_put_50 : decode cX12_put 50 = .ok (.iload_n 1, 1) := by decide +kernel
theorem dX12_put_51 : decode cX12_put 51 = .ok (.iadd, 1) := by decide +kernel
theorem dX12_put_52 : decode cX12_put 52 = .ok (.iload_n 2, 1) := by decide +kernel
theorem dX12_put_53 : decode cX12_put 53 = .ok (.iastore, 1) := by decide +kernel
theorem dX12_put_54 : decode cX12_put 54 = .ok (.iload_n 3, 1) := by decide +kernel
theorem dX12_put_55 : decode cX12_put 55 = .ok (.ireturn, 1) := by decide +kernel
theorem dX12_setTurn_0 : decode cX12_setTurn 0 = .ok (.aload_n 0, 1) := by decide +kernel
theorem dX12_setTurn_1 : decode cX12_setTurn 1 = .ok (.iload_n 1, 1) := by decide +kernel
theorem dX12_setTurn_2 : decode cX12_setTurn 2 = .ok (.invokevirtual 323, 3) := by decide +kernel
theorem dX12_setTurn_5 : decode cX12_setTurn 5 = .ok (.ifCond .eq 5, 3) := by decide +kernel
theorem dX12_setTurn_8 : decode cX12_setTurn 8 = .ok (.iconst 0, 1) := by decide +kernel
theorem dX12_setTurn_9 : decode cX12_setTurn 9 = .ok (.ireturn, 1) := by decide +kernel
theorem dX12_setTurn_10 : decode cX12_setTurn 10 = .ok (.aload_n 0, 1) := by decide +kernel
theorem dX12_setTurn_11 : decode cX12_setTurn 11 = .ok (.invokevirtual 422, 3) := by decide +kernel
theorem dX12_setTurn_14 : decode cX12_setTurn 14 = .ok (.aload_n 0, 1) := by decide +kernel
theorem dX12_setTurn_15 : decode cX12_setTurn 15 = .ok (.getfield 9, 3) := by decide +kernel
theorem dX12_setTurn_18 : decode cX12_setTurn 18 = .ok (.iconst 2, 1) := by decide +kernel
theorem dX12_setTurn_19 : decode cX12_setTurn 19 = .ok (.iaload, 1) := by decide +kernel
theorem dX12_setTurn_20 : decode cX12_setTurn 20 = .ok (.istore_n 2, 1) := by decide +kernel
theorem dX12_setTurn_21 : decode cX12_setTurn 21 = .ok (.aload_n 0, 1) := by decide +kernel
theorem dX12_setTurn_22 : decode cX12_setTurn 22 = .ok (.getfield 9, 3) := by decide +kernel
theorem dX12_setTurn_25 : decode cX12_setTurn 25 = .ok (.iconst 2, 1) := by decide +kernel
theorem dX12_setTurn_26 : decode cX12_setTurn 26 = .ok (.iload_n 1, 1) := by decide +kernel
theorem dX12_setTurn_27 : decode cX12_setTurn 27 = .ok (.iastore, 1) := by decide +kernel
theorem dX12_setTurn_28 : decode cX12_setTurn 28 = .ok (.iload_n 2, 1) := by decide +kernel
theorem dX12_setTurn_29 : decode cX12_setTurn 29 = .ok (.ireturn, 1) := by decide +kernel
theorem dX12_otherSide_0 : decode cX12_otherSide 0 = .ok (.iload_n 0, 1) := by decide +kernel
theorem dX12_otherSide_1 : decode cX12_otherSide 1 = .ok (.iconst (-1), 1) := by decide +kernel
theorem dX12_otherSide_2 : decode cX12_otherSide 2 = .ok (.if_icmp .ne 7, 3) := by decide +kernel
theorem dX12_otherSide_5 : decode cX12_otherSide 5 = .ok (.iconst (-1), 1) := by decide +kernel
theorem dX12_otherSide_6 : decode cX12_otherSide 6 = .ok (.goto 6, 3) := by decide +kernel
theorem dX12_otherSide_9 : decode cX12_otherSide 9 = .ok (.iconst 1, 1) := by decide +kernel
theorem dX12_otherSide_10 : decode cX12_otherSide 10 = .ok (.iload_n 0, 1) := by decide +kernel
theorem dX12_otherSide_11 : decode cX12_otherSide 11 = .ok (.isub, 1) := by decide +kernel
theorem dX12_otherSide_12 : decode cX12_otherSide 12 = .ok (.ireturn, 1) := by decide +kernel
theorem dX12_turnOver_0 : decode cX12_turnOver 0 = .ok (.aload_n 0, 1) := by decide +kernel
theorem dX12_turnOver_1 : decode cX12_turnOver 1 = .ok (.iconst 0, 1) := by decide +kernel
theorem dX12_turnOver_2 : decode cX12_turnOver 2 = .ok (.putfield 77, 3) := by decide +kernel
theorem dX12_turnOver_5 : decode cX12_turnOver 5 = .ok (.aload_n 0, 1) := by decide +kernel
theorem dX12_turnOver_6 : decode cX12_turnOver 6 = .ok (.invokevirtual 422, 3) := by decide +kernel
theorem dX12_turnOver_9 : decode cX12_turnOver 9 = .ok (.aload_n 0, 1) := by decide +kernel
theorem dX12_turnOver_10 : decode cX12_turnOver 10 = .ok (.invokevirtual 196, 3) := by decide +kernel
theorem dX12_turnOver_13 : decode cX12_turnOver 13 = .ok (.iconst 0, 1) := by decide +kernel
theorem dX12_turnOver_14 : decode cX12_turnOver 14 = .ok (.istore_n 1, 1) := by decide +kernel
theorem dX12_turnOver_15 : decode cX12_turnOver 15 = .ok (.iload_n 1, 1) := by decide +kernel
theorem dX12_turnOver_16 : decode cX12_turnOver 16 = .ok (.aload_n 0, 1) := by decide +kernel
theorem dX12_turnOver_17 : decode cX12_turnOver 17 = .ok (.invokevirtual 212, 3) := by decide +kernel
theorem dX12_turnOver_20 : decode cX12_turnOver 20 = .ok (.if_icmp .ge 32, 3) := by decide +kernel
theorem dX12_turnOver_23 : decode cX12_turnOver 23 = .ok (.aload_n 0, 1) := by decide +kernel
theorem dX12_turnOver_24 : decode cX12_turnOver 24 = .ok (.getfield 9, 3) := by decide +kernel
theorem dX12_turnOver_27 : decode cX12_turnOver 27 = .ok (.iconst 5, 1) := by decide +kernel
theorem dX12_turnOver_28 : decode cX12_turnOver 28 = .ok (.aload_n 0, 1) := by decide +kernel
theorem dX12_turnOver_29 : decode cX12_turnOver 29 = .ok (.iload_n 1, 1) := by decide +kernel
theorem dX12_turnOver_30 : decode cX12_turnOver 30 = .ok (.invokevirtual 425, 3) := by decide +kernel
theorem dX12_turnOver_33 : decode cX12_turnOver 33 = .ok (.iadd, 1) := by decide +kernel
theorem dX12_turnOver_34 : decode cX12_turnOver 34 = .ok (.aload_n 0, 1) := by decide +kernel
theorem dX12_turnOver_35 : decode cX12_turnOver 35 = .ok (.getfield 13, 3) := by decide +kernel
theorem dX12_turnOver_38 : decode cX12_turnOver 38 = .ok (.iconst 5, 1) := by decide +kernel
theorem dX12_turnOver_39 : decode cX12_turnOver 39 = .ok (.iload_n 1, 1) := by decide +kernel
theorem dX12_turnOver_40 : decode cX12_turnOver 40 = .ok (.iadd, 1) := by decide +kernel
theorem dX12_turnOver_41 : decode cX12_turnOver 41 = .ok (.iaload, 1) := by decide +kernel
theorem dX12_turnOver_42 : decode cX12_turnOver 42 = .ok (.invokestatic 430, 3) := by decide +kernel
theorem dX12_turnOver_45 : decode cX12_turnOver 45 = .ok (.iastore, 1) := by decide +kernel
theorem dX12_turnOver_46 : decode cX12_turnOver 46 = .ok (.iinc 1 1, 3) := by decide +kernel
theorem dX12_turnOver_49 : decode cX12_turnOver 49 = .ok (.goto (-34), 3) := by decide +kernel
theorem dX12_turnOver_52 : decode cX12_turnOver 52 = .ok (.iconst 0, 1) := by decide +kernel
theorem dX12_turnOver_53 : decode cX12_turnOver 53 = .ok (.istore_n 1, 1) := by decide +kernel
theorem dX12_turnOver_54 : decode cX12_turnOver 54 = .ok (.iload_n 1, 1) := by decide +kernel
theorem dX12_turnOver_55 : decode cX12_turnOver 55 = .ok (.aload_n 0, 1) := by decide +kernel
theorem dX12_turnOver_56 : decode cX12_turnOver 56 = .ok (.getfield 9, 3) := by decide +kernel
theorem dX12_turnOver_59 : decode cX12_turnOver 59 = .ok (.iconst 4, 1) := by decide +kernel
theorem dX12_turnOver_60 : decode cX12_turnOver 60 = .ok (.iaload, 1) := by decide +kernel
theorem dX12_turnOver_61 : decode cX12_turnOver 61 = .ok (.if_icmp .ge 31, 3) := by decide +kernel
theorem dX12_turnOver_64 : decode cX12_turnOver 64 = .ok (.aload_n 0, 1) := by decide +kernel
theorem dX12_turnOver_65 : decode cX12_turnOver 65 = .ok (.getfield 9, 3) := by decide +kernel
theorem dX12_turnOver_68 : decode cX12_turnOver 68 = .ok (.bipush 86, 2) := by decide +kernel
theorem dX12_turnOver_70 : decode cX12_turnOver 70 = .ok (.iload_n 1, 1) := by decide +kernel
theorem dX12_turnOver_71 : decode cX12_turnOver 71 = .ok (.iadd, 1) := by decide +kernel
theorem dX12_turnOver_72 : decode cX12_turnOver 72 = .ok (.aload_n 0, 1) := by decide +kernel
theorem dX12_turnOver_73 : decode cX12_turnOver 73 = .ok (.aload_n 0, 1) := by decide +kernel
theorem dX12_turnOver_74 : decode cX12_turnOver 74 = .ok (.getfield 13, 3) := by decide +kernel
theorem dX12_turnOver_77 : decode cX12_turnOver 77 = .ok (.bipush 86, 2) := by decide +kernel
theorem dX12_turnOver_79 : decode cX12_turnOver 79 = .ok (.iload_n 1, 1) := by decide +kernel
theorem dX12_turnOver_80 : decode cX12_turnOver 80 = .ok (.iadd, 1) := by decide +kernel
theorem dX12_turnOver_81 : decode cX12_turnOver 81 = .ok (.iaload, 1) := by decide +kernel
theorem dX12_turnOver_82 : decode cX12_turnOver 82 = .ok (.invokevirtual 425, 3) := by decide +kernel
theorem dX12_turnOver_85 : decode cX12_turnOver 85 = .ok (.iastore, 1) := by decide +kernel
theorem dX12_turnOver_86 : decode cX12_turnOver 86 = .ok (.iinc 1 1, 3) := by decide +kernel
theorem dX12_turnOver_89 : decode cX12_turnOver 89 = .ok (.goto (-35), 3) := by decide +kernel
theorem dX12_turnOver_92 : decode cX12_turnOver 92 = .ok (.aload_n 0, 1) := by decide +kernel
theorem dX12_turnOver_93 : decode cX12_turnOver 93 = .ok (.getfield 9, 3) := by decide +kernel
theorem dX12_turnOver_96 : decode cX12_turnOver 96 = .ok (.iconst 2, 1) := by decide +kernel
theorem dX12_turnOver_97 : decode cX12_turnOver 97 = .ok (.iconst 1, 1) := by decide +kernel
theorem dX12_turnOver_98 : decode cX12_turnOver 98 = .ok (.aload_n 0, 1) := by decide +kernel
theorem dX12_turnOver_99 : decode cX12_turnOver 99 = .ok (.getfield 9, 3) := by decide +kernel
theorem dX12_turnOver_102 : decode cX12_turnOver 102 = .ok (.iconst 2, 1) := by decide +kernel
theorem dX12_turnOver_103 : decode cX12_turnOver 103 = .ok (.iaload, 1) := by decide +kernel
theorem dX12_turnOver_104 : decode cX12_turnOver 104 = .ok (.isub, 1) := by decide +kernel
theorem dX12_turnOver_105 : decode cX12_turnOver 105 = .ok (.iastore, 1) := by decide +kernel
theorem dX12_turnOver_106 : decode cX12_turnOver 106 = .ok (.aload_n 0, 1) := by decide +kernel
theorem dX12_turnOver_107 : decode cX12_turnOver 107 = .ok (.getfield 9, 3) := by decide +kernel
theorem dX12_turnOver_110 : decode cX12_turnOver 110 = .ok (.iconst 3, 1) := by decide +kernel
theorem dX12_turnOver_111 : decode cX12_turnOver 111 = .ok (.aload_n 0, 1) := by decide +kernel
theorem dX12_turnOver_112 : decode cX12_turnOver 112 = .ok (.getfield 9, 3) := by decide +kernel
theorem dX12_turnOver_115 : decode cX12_turnOver 115 = .ok (.iconst 3, 1) := by decide +kernel
theorem dX12_turnOver_116 : decode cX12_turnOver 116 = .ok (.iaload, 1) := by decide +kernel
theorem dX12_turnOver_117 : decode cX12_turnOver 117 = .ok (.invokestatic 430, 3) := by decide +kernel
theorem dX12_turnOver_120 : decode cX12_turnOver 120 = .ok (.iastore, 1) := by decide +kernel
theorem dX12_turnOver_121 : decode cX12_turnOver 121 = .ok (.aload_n 0, 1) := by decide +kernel
theorem dX12_turnOver_122 : decode cX12_turnOver 122 = .ok (.getfield 9, 3) := by decide +kernel
theorem dX12_turnOver_125 : decode cX12_turnOver 125 = .ok (.iconst 0, 1) := by decide +kernel
theorem dX12_turnOver_126 : decode cX12_turnOver 126 = .ok (.iaload, 1) := by decide +kernel
theorem dX12_turnOver_127 : decode cX12_turnOver 127 = .ok (.ireturn, 1) := by decide +kernel
theorem dX12_plays_0 : decode cX12_plays 0 = .ok (.iconst 0, 1) := by decide +kernel
theorem dX12_plays_1 : decode cX12_plays 1 = .ok (.istore_n 2, 1) := by decide +kernel
theorem dX12_plays_2 : decode cX12_plays 2 = .ok (.aload_n 0, 1) := by decide +kernel
theorem dX12_plays_3 : decode cX12_plays 3 = .ok (.invokevirtual 352, 3) := by decide +kernel
theorem dX12_plays_6 : decode cX12_plays 6 = .ok (.istore_n 3, 1) := by decide +kernel
theorem dX12_plays_7 : decode cX12_plays 7 = .ok (.iload_n 2, 1) := by decide +kernel
theorem dX12_plays_8 : decode cX12_plays 8 = .ok (.iload_n 1, 1) := by decide +kernel
theorem dX12_plays_9 : decode cX12_plays 9 = .ok (.if_icmp .ge 36, 3) := by decide +kernel
theorem dX12_plays_12 : decode cX12_plays 12 = .ok (.iload_n 3, 1) := by decide +kernel
theorem dX12_plays_13 : decode cX12_plays 13 = .ok (.iconst (-1), 1) := by decide +kernel
theorem dX12_plays_14 : decode cX12_plays 14 = .ok (.if_icmp .eq 31, 3) := by decide +kernel
theorem dX12_plays_17 : decode cX12_plays 17 = .ok (.aload_n 0, 1) := by decide +kernel
theorem dX12_plays_18 : decode cX12_plays 18 = .ok (.getfield 9, 3) := by decide +kernel
theorem dX12_plays_21 : decode cX12_plays 21 = .ok (.iconst 4, 1) := by decide +kernel
theorem dX12_plays_22 : decode cX12_plays 22 = .ok (.iaload, 1) := by decide +kernel
theorem dX12_plays_23 : decode cX12_plays 23 = .ok (.sipush 200, 3) := by decide +kernel
theorem dX12_plays_26 : decode cX12_plays 26 = .ok (.if_icmp .ge 19, 3) := by decide +kernel
theorem dX12_plays_29 : decode cX12_plays 29 = .ok (.aload_n 0, 1) := by decide +kernel
theorem dX12_plays_30 : decode cX12_plays 30 = .ok (.iload_n 3, 1) := by decide +kernel
theorem dX12_plays_31 : decode cX12_plays 31 = .ok (.invokevirtual 164, 3) := by decide +kernel
theorem dX12_plays_34 : decode cX12_plays 34 = .ok (.iinc 2 1, 3) := by decide +kernel
theorem dX12_plays_37 : decode cX12_plays 37 = .ok (.aload_n 0, 1) := by decide +kernel
theorem dX12_plays_38 : decode cX12_plays 38 = .ok (.invokevirtual 352, 3) := by decide +kernel
theorem dX12_plays_41 : decode cX12_plays 41 = .ok (.istore_n 3, 1) := by decide +kernel
theorem dX12_plays_42 : decode cX12_plays 42 = .ok (.goto (-35), 3) := by decide +kernel
theorem dX12_plays_45 : decode cX12_plays 45 = .ok (.iload_n 2, 1) := by decide +kernel
theorem dX12_plays_46 : decode cX12_plays 46 = .ok (.ireturn, 1) := by decide +kernel
theorem dX12_playForced_0 : decode cX12_playForced 0 = .ok (.aload_n 0, 1) := by decide +kernel
theorem dX12_playForced_1 : decode cX12_playForced 1 = .ok (.iload_n 1, 1) := by decide +kernel
theorem dX12_playForced_2 : decode cX12_playForced 2 = .ok (.i2l, 1) := by decide +kernel
theorem dX12_playForced_3 : decode cX12_playForced 3 = .ok (.lconst 1, 1) := by decide +kernel
theorem dX12_playForced_4 : decode cX12_playForced 4 = .ok (.ldc2_w 433, 3) := by decide +kernel
theorem dX12_playForced_7 : decode cX12_playForced 7 = .ok (.invokestatic 108, 3) := by decide +kernel
theorem dX12_playForced_10 : decode cX12_playForced 10 = .ok (.ifCond .ne 7, 3) := by decide +kernel
theorem dX12_playForced_13 : decode cX12_playForced 13 = .ok (.iconst 1, 1) := by decide +kernel
theorem dX12_playForced_14 : decode cX12_playForced 14 = .ok (.goto 4, 3) := by decide +kernel
theorem dX12_playForced_17 : decode cX12_playForced 17 = .ok (.iconst 0, 1) := by decide +kernel
theorem dX12_playForced_18 : decode cX12_playForced 18 = .ok (.invokevirtual 296, 3) := by decide +kernel
theorem dX12_playForced_21 : decode cX12_playForced 21 = .ok (.ifCond .eq 5, 3) := by decide +kernel
theorem dX12_playForced_24 : decode cX12_playForced 24 = .ok (.iconst 0, 1) := by decide +kernel
theorem dX12_playForced_25 : decode cX12_playForced 25 = .ok (.ireturn, 1) := by decide +kernel
theorem dX12_playForced_26 : decode cX12_playForced 26 = .ok (.aload_n 0, 1) := by decide +kernel
theorem dX12_playForced_27 : decode cX12_playForced 27 = .ok (.invokevirtual 422, 3) := by decide +kernel
theorem dX12_playForced_30 : decode cX12_playForced 30 = .ok (.aload_n 0, 1) := by decide +kernel
theorem dX12_playForced_31 : decode cX12_playForced 31 = .ok (.iload_n 1, 1) := by decide +kernel
theorem dX12_playForced_32 : decode cX12_playForced 32 = .ok (.invokevirtual 435, 3) := by decide +kernel
theorem dX12_playForced_35 : decode cX12_playForced 35 = .ok (.ireturn, 1) := by decide +kernel
theorem dX12_forcedWinner_0 : decode cX12_forcedWinner 0 = .ok (.aload_n 0, 1) := by decide +kernel
theorem dX12_forcedWinner_1 : decode cX12_forcedWinner 1 = .ok (.iconst 0, 1) := by decide +kernel
theorem dX12_forcedWinner_2 : decode cX12_forcedWinner 2 = .ok (.putfield 77, 3) := by decide +kernel
theorem dX12_forcedWinner_5 : decode cX12_forcedWinner 5 = .ok (.aload_n 0, 1) := by decide +kernel
theorem dX12_forcedWinner_6 : decode cX12_forcedWinner 6 = .ok (.invokevirtual 196, 3) := by decide +kernel
theorem dX12_forcedWinner_9 : decode cX12_forcedWinner 9 = .ok (.aload_n 0, 1) := by decide +kernel
theorem dX12_forcedWinner_10 : decode cX12_forcedWinner 10 = .ok (.bipush 81, 2) := by decide +kernel
theorem dX12_forcedWinner_12 : decode cX12_forcedWinner 12 = .ok (.invokevirtual 435, 3) := by decide +kernel
theorem dX12_forcedWinner_15 : decode cX12_forcedWinner 15 = .ok (.istore_n 1, 1) := by decide +kernel
theorem dX12_forcedWinner_16 : decode cX12_forcedWinner 16 = .ok (.aload_n 0, 1) := by decide +kernel
theorem dX12_forcedWinner_17 : decode cX12_forcedWinner 17 = .ok (.aload_n 0, 1) := by decide +kernel
theorem dX12_forcedWinner_18 : decode cX12_forcedWinner 18 = .ok (.invokevirtual 155, 3) := by decide +kernel
theorem dX12_forcedWinner_21 : decode cX12_forcedWinner 21 = .ok (.invokevirtual 202, 3) := by decide +kernel
theorem dX12_forcedWinner_24 : decode cX12_forcedWinner 24 = .ok (.ireturn, 1) := by decide +kernel
theorem dX12_forcedRow_0 : decode cX12_forcedRow 0 = .ok (.aload_n 0, 1) := by decide +kernel
theorem dX12_forcedRow_1 : decode cX12_forcedRow 1 = .ok (.iconst 0, 1) := by decide +kernel
theorem dX12_forcedRow_2 : decode cX12_forcedRow 2 = .ok (.putfield 77, 3) := by decide +kernel
theorem dX12_forcedRow_5 : decode cX12_forcedRow 5 = .ok (.aload_n 0, 1) := by decide +kernel
theorem dX12_forcedRow_6 : decode cX12_forcedRow 6 = .ok (.invokevirtual 196, 3) := by decide +kernel
theorem dX12_forcedRow_9 : decode cX12_forcedRow 9 = .ok (.aload_n 0, 1) := by decide +kernel
theorem dX12_forcedRow_10 : decode cX12_forcedRow 10 = .ok (.aload_n 0, 1) := by decide +kernel
theorem dX12_forcedRow_11 : decode cX12_forcedRow 11 = .ok (.bipush 81, 2) := by decide +kernel
theorem dX12_forcedRow_13 : decode cX12_forcedRow 13 = .ok (.invokevirtual 435, 3) := by decide +kernel
theorem dX12_forcedRow_16 : decode cX12_forcedRow 16 = .ok (.invokevirtual 202, 3) := by decide +kernel
theorem dX12_forcedRow_19 : decode cX12_forcedRow 19 = .ok (.ireturn, 1) := by decide +kernel
theorem dX12_fullness_0 : decode cX12_fullness 0 = .ok (.aload_n 0, 1) := by decide +kernel
theorem dX12_fullness_1 : decode cX12_fullness 1 = .ok (.iconst 0, 1) := by decide +kernel
theorem dX12_fullness_2 : decode cX12_fullness 2 = .ok (.putfield 77, 3) := by decide +kernel
theorem dX12_fullness_5 : decode cX12_fullness 5 = .ok (.aload_n 0, 1) := by decide +kernel
theorem dX12_fullness_6 : decode cX12_fullness 6 = .ok (.invokevirtual 212, 3) := by decide +kernel
theorem dX12_fullness_9 : decode cX12_fullness 9 = .ok (.aload_n 0, 1) := by decide +kernel
theorem dX12_fullness_10 : decode cX12_fullness 10 = .ok (.iconst (-1), 1) := by decide +kernel
theorem dX12_fullness_11 : decode cX12_fullness 11 = .ok (.invokevirtual 291, 3) := by decide +kernel
theorem dX12_fullness_14 : decode cX12_fullness 14 = .ok (.isub, 1) := by decide +kernel
theorem dX12_fullness_15 : decode cX12_fullness 15 = .ok (.i2d, 1) := by decide +kernel
theorem dX12_fullness_16 : decode cX12_fullness 16 = .ok (.aload_n 0, 1) := by decide +kernel
theorem dX12_fullness_17 : decode cX12_fullness 17 = .ok (.invokevirtual 212, 3) := by decide +kernel
theorem dX12_fullness_20 : decode cX12_fullness 20 = .ok (.i2d, 1) := by decide +kernel
theorem dX12_fullness_21 : decode cX12_fullness 21 = .ok (.ddiv, 1) := by decide +kernel
theorem dX12_fullness_22 : decode cX12_fullness 22 = .ok (.dreturn, 1) := by decide +kernel
theorem dX12_says_0 : decode cX12_says 0 = .ok (.aload_n 0, 1) := by decide +kernel
theorem dX12_says_1 : decode cX12_says 1 = .ok (.getfield 70, 3) := by decide +kernel
theorem dX12_says_4 : decode cX12_says 4 = .ok (.aload_n 0, 1) := by decide +kernel
theorem dX12_says_5 : decode cX12_says 5 = .ok (.getfield 438, 3) := by decide +kernel
theorem dX12_says_8 : decode cX12_says 8 = .ok (.iload_n 1, 1) := by decide +kernel
theorem dX12_says_9 : decode cX12_says 9 = .ok (.iastore, 1) := by decide +kernel
theorem dX12_says_10 : decode cX12_says 10 = .ok (.aload_n 0, 1) := by decide +kernel
theorem dX12_says_11 : decode cX12_says 11 = .ok (.dup, 1) := by decide +kernel
theorem dX12_says_12 : decode cX12_says 12 = .ok (.getfield 438, 3) := by decide +kernel
theorem dX12_says_15 : decode cX12_says 15 = .ok (.iconst 1, 1) := by decide +kernel
theorem dX12_says_16 : decode cX12_says 16 = .ok (.iadd, 1) := by decide +kernel
theorem dX12_says_17 : decode cX12_says 17 = .ok (.putfield 438, 3) := by decide +kernel
theorem dX12_says_20 : decode cX12_says 20 = .ok (.return_, 1) := by decide +kernel
theorem dX12_writeRow_0 : decode cX12_writeRow 0 = .ok (.aload_n 0, 1) := by decide +kernel
theorem dX12_writeRow_1 : decode cX12_writeRow 1 = .ok (.iload_n 1, 1) := by decide +kernel
theorem dX12_writeRow_2 : decode cX12_writeRow 2 = .ok (.i2l, 1) := by decide +kernel
theorem dX12_writeRow_3 : decode cX12_writeRow 3 = .ok (.lconst 0, 1) := by decide +kernel
theorem dX12_writeRow_4 : decode cX12_writeRow 4 = .ok (.aload_n 0, 1) := by decide +kernel
theorem dX12_writeRow_5 : decode cX12_writeRow 5 = .ok (.getfield 9, 3) := by decide +kernel
theorem dX12_writeRow_8 : decode cX12_writeRow 8 = .ok (.iconst 0, 1) := by decide +kernel
theorem dX12_writeRow_9 : decode cX12_writeRow 9 = .ok (.iaload, 1) := by decide +kernel
theorem dX12_writeRow_10 : decode cX12_writeRow 10 = .ok (.iconst 1, 1) := by decide +kernel
theorem dX12_writeRow_11 : decode cX12_writeRow 11 = .ok (.isub, 1) := by decide +kernel
theorem dX12_writeRow_12 : decode cX12_writeRow 12 = .ok (.i2l, 1) := by decide +kernel
theorem dX12_writeRow_13 : decode cX12_writeRow 13 = .ok (.invokestatic 108, 3) := by decide +kernel
theorem dX12_writeRow_16 : decode cX12_writeRow 16 = .ok (.ifCond .ne 7, 3) := by decide +kernel
theorem dX12_writeRow_19 : decode cX12_writeRow 19 = .ok (.iconst 1, 1) := by decide +kernel
theorem dX12_writeRow_20 : decode cX12_writeRow 20 = .ok (.goto 4, 3) := by decide +kernel
theorem dX12_writeRow_23 : decode cX12_writeRow 23 = .ok (.iconst 0, 1) := by decide +kernel
theorem dX12_writeRow_24 : decode cX12_writeRow 24 = .ok (.invokevirtual 296, 3) := by decide +kernel
theorem dX12_writeRow_27 : decode cX12_writeRow 27 = .ok (.ifCond .eq 5, 3) := by decide +kernel
theorem dX12_writeRow_30 : decode cX12_writeRow 30 = .ok (.iconst 0, 1) := by decide +kernel
theorem dX12_writeRow_31 : decode cX12_writeRow 31 = .ok (.ireturn, 1) := by decide +kernel
theorem dX12_writeRow_32 : decode cX12_writeRow 32 = .ok (.aload_n 0, 1) := by decide +kernel
theorem dX12_writeRow_33 : decode cX12_writeRow 33 = .ok (.iconst 0, 1) := by decide +kernel
theorem dX12_writeRow_34 : decode cX12_writeRow 34 = .ok (.putfield 438, 3) := by decide +kernel
theorem dX12_writeRow_37 : decode cX12_writeRow 37 = .ok (.iconst 0, 1) := by decide +kernel
theorem dX12_writeRow_38 : decode cX12_writeRow 38 = .ok (.istore_n 2, 1) := by decide +kernel
theorem dX12_writeRow_39 : decode cX12_writeRow 39 = .ok (.iload_n 2, 1) := by decide +kernel
theorem dX12_writeRow_40 : decode cX12_writeRow 40 = .ok (.aload_n 0, 1) := by decide +kernel
theorem dX12_writeRow_41 : decode cX12_writeRow 41 = .ok (.getfield 9, 3) := by decide +kernel
theorem dX12_writeRow_44 : decode cX12_writeRow 44 = .ok (.iconst 0, 1) := by decide +kernel
theorem dX12_writeRow_45 : decode cX12_writeRow 45 = .ok (.iaload, 1) := by decide +kernel
theorem dX12_writeRow_46 : decode cX12_writeRow 46 = .ok (.if_icmp .ge 49, 3) := by decide +kernel
theorem dX12_writeRow_49 : decode cX12_writeRow 49 = .ok (.aload_n 0, 1) := by decide +kernel
theorem dX12_writeRow_50 : decode cX12_writeRow 50 = .ok (.aload_n 0, 1) := by decide +kernel
theorem dX12_writeRow_51 : decode cX12_writeRow 51 = .ok (.getfield 9, 3) := by decide +kernel
theorem dX12_writeRow_54 : decode cX12_writeRow 54 = .ok (.iconst 0, 1) := by decide +kernel
theorem dX12_writeRow_55 : decode cX12_writeRow 55 = .ok (.iaload, 1) := by decide +kernel
theorem dX12_writeRow_56 : decode cX12_writeRow 56 = .ok (.iload_n 1, 1) := by decide +kernel
theorem dX12_writeRow_57 : decode cX12_writeRow 57 = .ok (.imul, 1) := by decide +kernel
theorem dX12_writeRow_58 : decode cX12_writeRow 58 = .ok (.iload_n 2, 1) := by decide +kernel
theorem dX12_writeRow_59 : decode cX12_writeRow 59 = .ok (.iadd, 1) := by decide +kernel
theorem dX12_writeRow_60 : decode cX12_writeRow 60 = .ok (.invokevirtual 215, 3) := by decide +kernel
theorem dX12_writeRow_63 : decode cX12_writeRow 63 = .ok (.istore_n 3, 1) := by decide +kernel
theorem dX12_writeRow_64 : decode cX12_writeRow 64 = .ok (.aload_n 0, 1) := by decide +kernel
theorem dX12_writeRow_65 : decode cX12_writeRow 65 = .ok (.iload_n 3, 1) := by decide +kernel
theorem dX12_writeRow_66 : decode cX12_writeRow 66 = .ok (.ifCond .ne 8, 3) := by decide +kernel
theorem dX12_writeRow_69 : decode cX12_writeRow 69 = .ok (.bipush 114, 2) := by decide +kernel
theorem dX12_writeRow_71 : decode cX12_writeRow 71 = .ok (.goto 15, 3) := by decide +kernel
theorem dX12_writeRow_74 : decode cX12_writeRow 74 = .ok (.iload_n 3, 1) := by decide +kernel
theorem dX12_writeRow_75 : decode cX12_writeRow 75 = .ok (.iconst 1, 1) := by decide +kernel
theorem dX12_writeRow_76 : decode cX12_writeRow 76 = .ok (.if_icmp .ne 8, 3) := by decide +kernel
theorem dX12_writeRow_79 : decode cX12_writeRow 79 = .ok (.bipush 98, 2) := by decide +kernel
theorem dX12_writeRow_81 : decode cX12_writeRow 81 = .ok (.goto 5, 3) := by decide +kernel
theorem dX12_writeRow_84 : decode cX12_writeRow 84 = .ok (.bipush 46, 2) := by decide +kernel
theorem dX12_writeRow_86 : decode cX12_writeRow 86 = .ok (.invokevirtual 441, 3) := by decide +kernel
theorem dX12_writeRow_89 : decode cX12_writeRow 89 = .ok (.iinc 2 1, 3) := by decide +kernel
theorem dX12_writeRow_92 : decode cX12_writeRow 92 = .ok (.goto (-53), 3) := by decide +kernel
theorem dX12_writeRow_95 : decode cX12_writeRow 95 = .ok (.aload_n 0, 1) := by decide +kernel
theorem dX12_writeRow_96 : decode cX12_writeRow 96 = .ok (.getfield 438, 3) := by decide +kernel
theorem dX12_writeRow_99 : decode cX12_writeRow 99 = .ok (.ireturn, 1) := by decide +kernel
theorem dX12_writeCell_0 : decode cX12_writeCell 0 = .ok (.aload_n 0, 1) := by decide +kernel
theorem dX12_writeCell_1 : decode cX12_writeCell 1 = .ok (.iload_n 1, 1) := by decide +kernel
theorem dX12_writeCell_2 : decode cX12_writeCell 2 = .ok (.invokevirtual 308, 3) := by decide +kernel
theorem dX12_writeCell_5 : decode cX12_writeCell 5 = .ok (.ifCond .eq 5, 3) := by decide +kernel
theorem dX12_writeCell_8 : decode cX12_writeCell 8 = .ok (.iconst 0, 1) := by decide +kernel
theorem dX12_writeCell_9 : decode cX12_writeCell 9 = .ok (.ireturn, 1) := by decide +kernel
theorem dX12_writeCell_10 : decode cX12_writeCell 10 = .ok (.aload_n 0, 1) := by decide +kernel
theorem dX12_writeCell_11 : decode cX12_writeCell 11 = .ok (.iconst 0, 1) := by decide +kernel
theorem dX12_writeCell_12 : decode cX12_writeCell 12 = .ok (.putfield 438, 3) := by decide +kernel
theorem dX12_writeCell_15 : decode cX12_writeCell 15 = .ok (.aload_n 0, 1) := by decide +kernel
theorem dX12_writeCell_16 : decode cX12_writeCell 16 = .ok (.bipush 97, 2) := by decide +kernel
theorem dX12_writeCell_18 : decode cX12_writeCell 18 = .ok (.aload_n 0, 1) := by decide +kernel
theorem dX12_writeCell_19 : decode cX12_writeCell 19 = .ok (.iload_n 1, 1) := by decide +kernel
theorem dX12_writeCell_20 : decode cX12_writeCell 20 = .ok (.invokevirtual 206, 3) := by decide +kernel
theorem dX12_writeCell_23 : decode cX12_writeCell 23 = .ok (.iadd, 1) := by decide +kernel
theorem dX12_writeCell_24 : decode cX12_writeCell 24 = .ok (.invokevirtual 441, 3) := by decide +kernel
theorem dX12_writeCell_27 : decode cX12_writeCell 27 = .ok (.aload_n 0, 1) := by decide +kernel
theorem dX12_writeCell_28 : decode cX12_writeCell 28 = .ok (.bipush 49, 2) := by decide +kernel
theorem dX12_writeCell_30 : decode cX12_writeCell 30 = .ok (.aload_n 0, 1) := by decide +kernel
theorem dX12_writeCell_31 : decode cX12_writeCell 31 = .ok (.iload_n 1, 1) := by decide +kernel
theorem dX12_writeCell_32 : decode cX12_writeCell 32 = .ok (.invokevirtual 209, 3) := by decide +kernel
theorem dX12_writeCell_35 : decode cX12_writeCell 35 = .ok (.iadd, 1) := by decide +kernel
theorem dX12_writeCell_36 : decode cX12_writeCell 36 = .ok (.invokevirtual 441, 3) := by decide +kernel
theorem dX12_writeCell_39 : decode cX12_writeCell 39 = .ok (.aload_n 0, 1) := by decide +kernel
theorem dX12_writeCell_40 : decode cX12_writeCell 40 = .ok (.getfield 438, 3) := by decide +kernel
theorem dX12_writeCell_43 : decode cX12_writeCell 43 = .ok (.ireturn, 1) := by decide +kernel
theorem dX12_outputByte_0 : decode cX12_outputByte 0 = .ok (.aload_n 0, 1) := by decide +kernel
theorem dX12_outputByte_1 : decode cX12_outputByte 1 = .ok (.iconst 0, 1) := by decide +kernel
theorem dX12_outputByte_2 : decode cX12_outputByte 2 = .ok (.putfield 77, 3) := by decide +kernel
theorem dX12_outputByte_5 : decode cX12_outputByte 5 = .ok (.iload_n 1, 1) := by decide +kernel
theorem dX12_outputByte_6 : decode cX12_outputByte 6 = .ok (.i2l, 1) := by decide +kernel
theorem dX12_outputByte_7 : decode cX12_outputByte 7 = .ok (.lconst 0, 1) := by decide +kernel
theorem dX12_outputByte_8 : decode cX12_outputByte 8 = .ok (.aload_n 0, 1) := by decide +kernel
theorem dX12_outputByte_9 : decode cX12_outputByte 9 = .ok (.getfield 438, 3) := by decide +kernel
theorem dX12_outputByte_12 : decode cX12_outputByte 12 = .ok (.iconst 1, 1) := by decide +kernel
theorem dX12_outputByte_13 : decode cX12_outputByte 13 = .ok (.isub, 1) := by decide +kernel
theorem dX12_outputByte_14 : decode cX12_outputByte 14 = .ok (.i2l, 1) := by decide +kernel
theorem dX12_outputByte_15 : decode cX12_outputByte 15 = .ok (.invokestatic 108, 3) := by decide +kernel
theorem dX12_outputByte_18 : decode cX12_outputByte 18 = .ok (.ifCond .eq 12, 3) := by decide +kernel
theorem dX12_outputByte_21 : decode cX12_outputByte 21 = .ok (.aload_n 0, 1) := by decide +kernel
theorem dX12_outputByte_22 : decode cX12_outputByte 22 = .ok (.getfield 70, 3) := by decide +kernel
theorem dX12_outputByte_25 : decode cX12_outputByte 25 = .ok (.iload_n 1, 1) := by decide +kernel
theorem dX12_outputByte_26 : decode cX12_outputByte 26 = .ok (.iaload, 1) := by decide +kernel
theorem dX12_outputByte_27 : decode cX12_outputByte 27 = .ok (.goto 4, 3) := by decide +kernel
theorem dX12_outputByte_30 : decode cX12_outputByte 30 = .ok (.iconst (-1), 1) := by decide +kernel
theorem dX12_outputByte_31 : decode cX12_outputByte 31 = .ok (.ireturn, 1) := by decide +kernel
theorem dX12_undo_0 : decode cX12_undo 0 = .ok (.aload_n 0, 1) := by decide +kernel
theorem dX12_undo_1 : decode cX12_undo 1 = .ok (.iconst 0, 1) := by decide +kernel
theorem dX12_undo_2 : decode cX12_undo 2 = .ok (.putfield 77, 3) := by decide +kernel
theorem dX12_undo_5 : decode cX12_undo 5 = .ok (.aload_n 0, 1) := by decide +kernel
theorem dX12_undo_6 : decode cX12_undo 6 = .ok (.getfield 80, 3) := by decide +kernel
theorem dX12_undo_9 : decode cX12_undo 9 = .ok (.ifCond .ne 5, 3) := by decide +kernel
theorem dX12_undo_12 : decode cX12_undo 12 = .ok (.iconst (-1), 1) := by decide +kernel
theorem dX12_undo_13 : decode cX12_undo 13 = .ok (.ireturn, 1) := by decide +kernel
theorem dX12_undo_14 : decode cX12_undo 14 = .ok (.aload_n 0, 1) := by decide +kernel
theorem dX12_undo_15 : decode cX12_undo 15 = .ok (.dup, 1) := by decide +kernel
theorem dX12_undo_16 : decode cX12_undo 16 = .ok (.getfield 80, 3) := by decide +kernel
theorem dX12_undo_19 : decode cX12_undo 19 = .ok (.iconst 1, 1) := by decide +kernel
theorem dX12_undo_20 : decode cX12_undo 20 = .ok (.isub, 1) := by decide +kernel
theorem dX12_undo_21 : decode cX12_undo 21 = .ok (.putfield 80, 3) := by decide +kernel
theorem dX12_undo_24 : decode cX12_undo 24 = .ok (.iconst 0, 1) := by decide +kernel
theorem dX12_undo_25 : decode cX12_undo 25 = .ok (.istore_n 1, 1) := by decide +kernel
theorem dX12_undo_26 : decode cX12_undo 26 = .ok (.iload_n 1, 1) := by decide +kernel
theorem dX12_undo_27 : decode cX12_undo 27 = .ok (.sipush 286, 3) := by decide +kernel
theorem dX12_undo_30 : decode cX12_undo 30 = .ok (.if_icmp .ge 30, 3) := by decide +kernel
theorem dX12_undo_33 : decode cX12_undo 33 = .ok (.aload_n 0, 1) := by decide +kernel
theorem dX12_undo_34 : decode cX12_undo 34 = .ok (.getfield 9, 3) := by decide +kernel
theorem dX12_undo_37 : decode cX12_undo 37 = .ok (.iload_n 1, 1) := by decide +kernel
theorem dX12_undo_38 : decode cX12_undo 38 = .ok (.aload_n 0, 1) := by decide +kernel
theorem dX12_undo_39 : decode cX12_undo 39 = .ok (.getfield 23, 3) := by decide +kernel
theorem dX12_undo_42 : decode cX12_undo 42 = .ok (.sipush 286, 3) := by decide +kernel
theorem dX12_undo_45 : decode cX12_undo 45 = .ok (.aload_n 0, 1) := by decide +kernel
theorem dX12_undo_46 : decode cX12_undo 46 = .ok (.getfield 80, 3) := by decide +kernel
theorem dX12_undo_49 : decode cX12_undo 49 = .ok (.imul, 1) := by decide +kernel
theorem dX12_undo_50 : decode cX12_undo 50 = .ok (.iload_n 1, 1) := by decide +kernel
theorem dX12_undo_51 : decode cX12_undo 51 = .ok (.iadd, 1) := by decide +kernel
theorem dX12_undo_52 : decode cX12_undo 52 = .ok (.iaload, 1) := by decide +kernel
theorem dX12_undo_53 : decode cX12_undo 53 = .ok (.iastore, 1) := by decide +kernel
theorem dX12_undo_54 : decode cX12_undo 54 = .ok (.iinc 1 1, 3) := by decide +kernel
theorem dX12_undo_57 : decode cX12_undo 57 = .ok (.goto (-31), 3) := by decide +kernel
theorem dX12_undo_60 : decode cX12_undo 60 = .ok (.aload_n 0, 1) := by decide +kernel
theorem dX12_undo_61 : decode cX12_undo 61 = .ok (.getfield 80, 3) := by decide +kernel
theorem dX12_undo_64 : decode cX12_undo 64 = .ok (.ireturn, 1) := by decide +kernel
theorem dX12_saveSnapshot_0 : decode cX12_saveSnapshot 0 = .ok (.aload_n 0, 1) := by decide +kernel
theorem dX12_saveSnapshot_1 : decode cX12_saveSnapshot 1 = .ok (.iload_n 1, 1) := by decide +kernel
theorem dX12_saveSnapshot_2 : decode cX12_saveSnapshot 2 = .ok (.i2l, 1) := by decide +kernel
theorem dX12_saveSnapshot_3 : decode cX12_saveSnapshot 3 = .ok (.lconst 0, 1) := by decide +kernel
theorem dX12_saveSnapshot_4 : decode cX12_saveSnapshot 4 = .ok (.lconst 1, 1) := by decide +kernel
theorem dX12_saveSnapshot_5 : decode cX12_saveSnapshot 5 = .ok (.invokestatic 108, 3) := by decide +kernel
theorem dX12_saveSnapshot_8 : decode cX12_saveSnapshot 8 = .ok (.ifCond .ne 7, 3) := by decide +kernel
theorem dX12_saveSnapshot_11 : decode cX12_saveSnapshot 11 = .ok (.iconst 1, 1) := by decide +kernel
theorem dX12_saveSnapshot_12 : decode cX12_saveSnapshot 12 = .ok (.goto 4, 3) := by decide +kernel
theorem dX12_saveSnapshot_15 : decode cX12_saveSnapshot 15 = .ok (.iconst 0, 1) := by decide +kernel
theorem dX12_saveSnapshot_16 : decode cX12_saveSnapshot 16 = .ok (.invokevirtual 296, 3) := by decide +kernel
theorem dX12_saveSnapshot_19 : decode cX12_saveSnapshot 19 = .ok (.ifCond .eq 5, 3) := by decide +kernel
theorem dX12_saveSnapshot_22 : decode cX12_saveSnapshot 22 = .ok (.iconst 0, 1) := by decide +kernel
theorem dX12_saveSnapshot_23 : decode cX12_saveSnapshot 23 = .ok (.ireturn, 1) := by decide +kernel
theorem dX12_saveSnapshot_24 : decode cX12_saveSnapshot 24 = .ok (.iconst 0, 1) := by decide +kernel
theorem dX12_saveSnapshot_25 : decode cX12_saveSnapshot 25 = .ok (.istore_n 2, 1) := by decide +kernel
theorem dX12_saveSnapshot_26 : decode cX12_saveSnapshot 26 = .ok (.iload_n 2, 1) := by decide +kernel
theorem dX12_saveSnapshot_27 : decode cX12_saveSnapshot 27 = .ok (.sipush 286, 3) := by decide +kernel
theorem dX12_saveSnapshot_30 : decode cX12_saveSnapshot 30 = .ok (.if_icmp .ge 27, 3) := by decide +kernel
theorem dX12_saveSnapshot_33 : decode cX12_saveSnapshot 33 = .ok (.aload_n 0, 1) := by decide +kernel
theorem dX12_saveSnapshot_34 : decode cX12_saveSnapshot 34 = .ok (.getfield 16, 3) := by decide +kernel
theorem dX12_saveSnapshot_37 : decode cX12_saveSnapshot 37 = .ok (.sipush 286, 3) := by decide +kernel
theorem dX12_saveSnapshot_40 : decode cX12_saveSnapshot 40 = .ok (.iload_n 1, 1) := by decide +kernel
theorem dX12_saveSnapshot_41 : decode cX12_saveSnapshot 41 = .ok (.imul, 1) := by decide +kernel
theorem dX12_saveSnapshot_42 : decode cX12_saveSnapshot 42 = .ok (.iload_n 2, 1) := by decide +kernel
theorem dX12_saveSnapshot_43 : decode cX12_saveSnapshot 43 = .ok (.iadd, 1) := by decide +kernel
theorem dX12_saveSnapshot_44 : decode cX12_saveSnapshot 44 = .ok (.aload_n 0, 1) := by decide +kernel
theorem dX12_saveSnapshot_45 : decode cX12_saveSnapshot 45 = .ok (.getfield 9, 3) := by decide +kernel
theorem dX12_saveSnapshot_48 : decode cX12_saveSnapshot 48 = .ok (.iload_n 2, 1) := by decide +kernel
theorem dX12_saveSnapshot_49 : decode cX12_saveSnapshot 49 = .ok (.iaload, 1) := by decide +kernel
theorem dX12_saveSnapshot_50 : decode cX12_saveSnapshot 50 = .ok (.iastore, 1) := by decide +kernel
theorem dX12_saveSnapshot_51 : decode cX12_saveSnapshot 51 = .ok (.iinc 2 1, 3) := by decide +kernel
theorem dX12_saveSnapshot_54 : decode cX12_saveSnapshot 54 = .ok (.goto (-28), 3) := by decide +kernel
theorem dX12_saveSnapshot_57 : decode cX12_saveSnapshot 57 = .ok (.aload_n 0, 1) := by decide +kernel
theorem dX12_saveSnapshot_58 : decode cX12_saveSnapshot 58 = .ok (.getfield 19, 3) := by decide +kernel
theorem dX12_saveSnapshot_61 : decode cX12_saveSnapshot 61 = .ok (.iload_n 1, 1) := by decide +kernel
theorem dX12_saveSnapshot_62 : decode cX12_saveSnapshot 62 = .ok (.iconst 1, 1) := by decide +kernel
theorem dX12_saveSnapshot_63 : decode cX12_saveSnapshot 63 = .ok (.bastore, 1) := by decide +kernel
theorem dX12_saveSnapshot_64 : decode cX12_saveSnapshot 64 = .ok (.aload_n 0, 1) := by decide +kernel
theorem dX12_saveSnapshot_65 : decode cX12_saveSnapshot 65 = .ok (.iconst (-1), 1) := by decide +kernel
theorem dX12_saveSnapshot_66 : decode cX12_saveSnapshot 66 = .ok (.invokevirtual 291, 3) := by decide +kernel
theorem dX12_saveSnapshot_69 : decode cX12_saveSnapshot 69 = .ok (.ireturn, 1) := by decide +kernel
theorem dX12_restoreSnapshot_0 : decode cX12_restoreSnapshot 0 = .ok (.aload_n 0, 1) := by decide +kernel
theorem dX12_restoreSnapshot_1 : decode cX12_restoreSnapshot 1 = .ok (.iload_n 1, 1) := by decide +kernel
theorem dX12_restoreSnapshot_2 : decode cX12_restoreSnapshot 2 = .ok (.i2l, 1) := by decide +kernel
theorem dX12_restoreSnapshot_3 : decode cX12_restoreSnapshot 3 = .ok (.lconst 0, 1) := by decide +kernel
theorem dX12_restoreSnapshot_4 : decode cX12_restoreSnapshot 4 = .ok (.lconst 1, 1) := by decide +kernel
theorem dX12_restoreSnapshot_5 : decode cX12_restoreSnapshot 5 = .ok (.invokestatic 108, 3) := by decide +kernel
theorem dX12_restoreSnapshot_8 : decode cX12_restoreSnapshot 8 = .ok (.ifCond .ne 7, 3) := by decide +kernel
theorem dX12_restoreSnapshot_11 : decode cX12_restoreSnapshot 11 = .ok (.iconst 1, 1) := by decide +kernel
theorem dX12_restoreSnapshot_12 : decode cX12_restoreSnapshot 12 = .ok (.goto 4, 3) := by decide +kernel
theorem dX12_restoreSnapshot_15 : decode cX12_restoreSnapshot 15 = .ok (.iconst 0, 1) := by decide +kernel
theorem dX12_restoreSnapshot_16 : decode cX12_restoreSnapshot 16 = .ok (.invokevirtual 296, 3) := by decide +kernel
theorem dX12_restoreSnapshot_19 : decode cX12_restoreSnapshot 19 = .ok (.ifCond .eq 5, 3) := by decide +kernel
theorem dX12_restoreSnapshot_22 : decode cX12_restoreSnapshot 22 = .ok (.iconst 0, 1) := by decide +kernel
theorem dX12_restoreSnapshot_23 : decode cX12_restoreSnapshot 23 = .ok (.ireturn, 1) := by decide +kernel
theorem dX12_restoreSnapshot_24 : decode cX12_restoreSnapshot 24 = .ok (.aload_n 0, 1) := by decide +kernel
theorem dX12_restoreSnapshot_25 : decode cX12_restoreSnapshot 25 = .ok (.getfield 19, 3) := by decide +kernel
theorem dX12_restoreSnapshot_28 : decode cX12_restoreSnapshot 28 = .ok (.iload_n 1, 1) := by decide +kernel
theorem dX12_restoreSnapshot_29 : decode cX12_restoreSnapshot 29 = .ok (.baload, 1) := by decide +kernel
theorem dX12_restoreSnapshot_30 : decode cX12_restoreSnapshot 30 = .ok (.ifCond .ne 5, 3) := by decide +kernel
theorem dX12_restoreSnapshot_33 : decode cX12_restoreSnapshot 33 = .ok (.iconst (-1), 1) := by decide +kernel
theorem dX12_restoreSnapshot_34 : decode cX12_restoreSnapshot 34 = .ok (.ireturn, 1) := by decide +kernel
theorem dX12_restoreSnapshot_35 : decode cX12_restoreSnapshot 35 = .ok (.iconst 0, 1) := by decide +kernel
theorem dX12_restoreSnapshot_36 : decode cX12_restoreSnapshot 36 = .ok (.istore_n 2, 1) := by decide +kernel
theorem dX12_restoreSnapshot_37 : decode cX12_restoreSnapshot 37 = .ok (.iload_n 2, 1) := by decide +kernel
theorem dX12_restoreSnapshot_38 : decode cX12_restoreSnapshot 38 = .ok (.sipush 286, 3) := by decide +kernel
theorem dX12_restoreSnapshot_41 : decode cX12_restoreSnapshot 41 = .ok (.if_icmp .ge 27, 3) := by decide +kernel
theorem dX12_restoreSnapshot_44 : decode cX12_restoreSnapshot 44 = .ok (.aload_n 0, 1) := by decide +kernel
theorem dX12_restoreSnapshot_45 : decode cX12_restoreSnapshot 45 = .ok (.getfield 9, 3) := by decide +kernel
theorem dX12_restoreSnapshot_48 : decode cX12_restoreSnapshot 48 = .ok (.iload_n 2, 1) := by decide +kernel
theorem dX12_restoreSnapshot_49 : decode cX12_restoreSnapshot 49 = .ok (.aload_n 0, 1) := by decide +kernel
theorem dX12_restoreSnapshot_50 : decode cX12_restoreSnapshot 50 = .ok (.getfield 16, 3) := by decide +kernel
theorem dX12_restoreSnapshot_53 : decode cX12_restoreSnapshot 53 = .ok (.sipush 286, 3) := by decide +kernel
theorem dX12_restoreSnapshot_56 : decode cX12_restoreSnapshot 56 = .ok (.iload_n 1, 1) := by decide +kernel
theorem dX12_restoreSnapshot_57 : decode cX12_restoreSnapshot 57 = .ok (.imul, 1) := by decide +kernel
theorem dX12_restoreSnapshot_58 : decode cX12_restoreSnapshot 58 = .ok (.iload_n 2, 1) := by decide +kernel
theorem dX12_restoreSnapshot_59 : decode cX12_restoreSnapshot 59 = .ok (.iadd, 1) := by decide +kernel
theorem dX12_restoreSnapshot_60 : decode cX12_restoreSnapshot 60 = .ok (.iaload, 1) := by decide +kernel
theorem dX12_restoreSnapshot_61 : decode cX12_restoreSnapshot 61 = .ok (.iastore, 1) := by decide +kernel
theorem dX12_restoreSnapshot_62 : decode cX12_restoreSnapshot 62 = .ok (.iinc 2 1, 3) := by decide +kernel
theorem dX12_restoreSnapshot_65 : decode cX12_restoreSnapshot 65 = .ok (.goto (-28), 3) := by decide +kernel
theorem dX12_restoreSnapshot_68 : decode cX12_restoreSnapshot 68 = .ok (.aload_n 0, 1) := by decide +kernel
theorem dX12_restoreSnapshot_69 : decode cX12_restoreSnapshot 69 = .ok (.iconst 0, 1) := by decide +kernel
theorem dX12_restoreSnapshot_70 : decode cX12_restoreSnapshot 70 = .ok (.putfield 80, 3) := by decide +kernel
theorem dX12_restoreSnapshot_73 : decode cX12_restoreSnapshot 73 = .ok (.aload_n 0, 1) := by decide +kernel
theorem dX12_restoreSnapshot_74 : decode cX12_restoreSnapshot 74 = .ok (.iconst (-1), 1) := by decide +kernel
theorem dX12_restoreSnapshot_75 : decode cX12_restoreSnapshot 75 = .ok (.invokevirtual 291, 3) := by decide +kernel
theorem dX12_restoreSnapshot_78 : decode cX12_restoreSnapshot 78 = .ok (.ireturn, 1) := by decide +kernel
theorem dJ9_max_7cf53_0 : decode cJ9_max_7cf53 0 = .ok (.iload_n 0, 1) := by decide +kernel
theorem dJ9_max_7cf53_1 : decode cJ9_max_7cf53 1 = .ok (.iload_n 1, 1) := by decide +kernel
theorem dJ9_max_7cf53_2 : decode cJ9_max_7cf53 2 = .ok (.if_icmp .lt 7, 3) := by decide +kernel
theorem dJ9_max_7cf53_5 : decode cJ9_max_7cf53 5 = .ok (.iload_n 0, 1) := by decide +kernel
theorem dJ9_max_7cf53_6 : decode cJ9_max_7cf53 6 = .ok (.goto 4, 3) := by decide +kernel
theorem dJ9_max_7cf53_9 : decode cJ9_max_7cf53 9 = .ok (.iload_n 1, 1) := by decide +kernel
theorem dJ9_max_7cf53_10 : decode cJ9_max_7cf53 10 = .ok (.ireturn, 1) := by decide +kernel
theorem dJ9_min_7cf53_0 : decode cJ9_min_7cf53 0 = .ok (.iload_n 0, 1) := by decide +kernel
theorem dJ9_min_7cf53_1 : decode cJ9_min_7cf53 1 = .ok (.iload_n 1, 1) := by decide +kernel
theorem dJ9_min_7cf53_2 : decode cJ9_min_7cf53 2 = .ok (.if_icmp .gt 7, 3) := by decide +kernel
theorem dJ9_min_7cf53_5 : decode cJ9_min_7cf53 5 = .ok (.iload_n 0, 1) := by decide +kernel
theorem dJ9_min_7cf53_6 : decode cJ9_min_7cf53 6 = .ok (.goto 4, 3) := by decide +kernel
theorem dJ9_min_7cf53_9 : decode cJ9_min_7cf53 9 = .ok (.iload_n 1, 1) := by decide +kernel
theorem dJ9_min_7cf53_10 : decode cJ9_min_7cf53 10 = .ok (.ireturn, 1) := by decide +kernel
theorem dJ0_length_8abf5_0 : decode cJ0_length_8abf5 0 = .ok (.aload_n 0, 1) := by decide +kernel
theorem dJ0_length_8abf5_1 : decode cJ0_length_8abf5 1 = .ok (.getfield 9, 3) := by decide +kernel
theorem dJ0_length_8abf5_4 : decode cJ0_length_8abf5 4 = .ok (.arraylength, 1) := by decide +kernel
theorem dJ0_length_8abf5_5 : decode cJ0_length_8abf5 5 = .ok (.aload_n 0, 1) := by decide +kernel
theorem dJ0_length_8abf5_6 : decode cJ0_length_8abf5 6 = .ok (.invokevirtual 335, 3) := by decide +kernel
theorem dJ0_length_8abf5_9 : decode cJ0_length_8abf5 9 = .ok (.ishr, 1) := by decide +kernel
theorem dJ0_length_8abf5_10 : decode cJ0_length_8abf5 10 = .ok (.ireturn, 1) := by decide +kernel
theorem dJ0_charAt_5068e_0 : decode cJ0_charAt_5068e 0 = .ok (.aload_n 0, 1) := by decide +kernel
theorem dJ0_charAt_5068e_1 : decode cJ0_charAt_5068e 1 = .ok (.invokevirtual 492, 3) := by decide +kernel
theorem dJ0_charAt_5068e_4 : decode cJ0_charAt_5068e 4 = .ok (.ifCond .eq 12, 3) := by decide +kernel
theorem dJ0_charAt_5068e_7 : decode cJ0_charAt_5068e 7 = .ok (.aload_n 0, 1) := by decide +kernel
theorem dJ0_charAt_5068e_8 : decode cJ0_charAt_5068e 8 = .ok (.getfield 9, 3) := by decide +kernel
theorem dJ0_charAt_5068e_11 : decode cJ0_charAt_5068e 11 = .ok (.iload_n 1, 1) := by decide +kernel
theorem dJ0_charAt_5068e_12 : decode cJ0_charAt_5068e 12 = .ok (.invokestatic 495, 3) := by decide +kernel
theorem dJ0_charAt_5068e_15 : decode cJ0_charAt_5068e 15 = .ok (.ireturn, 1) := by decide +kernel
theorem dJ0_charAt_5068e_16 : decode cJ0_charAt_5068e 16 = .ok (.aload_n 0, 1) := by decide +kernel
theorem dJ0_charAt_5068e_17 : decode cJ0_charAt_5068e 17 = .ok (.getfield 9, 3) := by decide +kernel
theorem dJ0_charAt_5068e_20 : decode cJ0_charAt_5068e 20 = .ok (.iload_n 1, 1) := by decide +kernel
theorem dJ0_charAt_5068e_21 : decode cJ0_charAt_5068e 21 = .ok (.invokestatic 498, 3) := by decide +kernel
theorem dJ0_charAt_5068e_24 : decode cJ0_charAt_5068e 24 = .ok (.ireturn, 1) := by decide +kernel
theorem dJ0_coder_7d493_0 : decode cJ0_coder_7d493 0 = .ok (.getstatic 38, 3) := by decide +kernel
theorem dJ0_coder_7d493_3 : decode cJ0_coder_7d493 3 = .ok (.ifCond .eq 10, 3) := by decide +kernel
theorem dJ0_coder_7d493_6 : decode cJ0_coder_7d493 6 = .ok (.aload_n 0, 1) := by decide +kernel
theorem dJ0_coder_7d493_7 : decode cJ0_coder_7d493 7 = .ok (.getfield 15, 3) := by decide +kernel
theorem dJ0_coder_7d493_10 : decode cJ0_coder_7d493 10 = .ok (.goto 4, 3) := by decide +kernel
theorem dJ0_coder_7d493_13 : decode cJ0_coder_7d493 13 = .ok (.iconst 1, 1) := by decide +kernel
theorem dJ0_coder_7d493_14 : decode cJ0_coder_7d493 14 = .ok (.ireturn, 1) := by decide +kernel
theorem dJ0_isLatin1_aae02_0 : decode cJ0_isLatin1_aae02 0 = .ok (.getstatic 38, 3) := by decide +kernel
theorem dJ0_isLatin1_aae02_3 : decode cJ0_isLatin1_aae02 3 = .ok (.ifCond .eq 14, 3) := by decide +kernel
theorem dJ0_isLatin1_aae02_6 : decode cJ0_isLatin1_aae02 6 = .ok (.aload_n 0, 1) := by decide +kernel
theorem dJ0_isLatin1_aae02_7 : decode cJ0_isLatin1_aae02 7 = .ok (.getfield 15, 3) := by decide +kernel
theorem dJ0_isLatin1_aae02_10 : decode cJ0_isLatin1_aae02 10 = .ok (.ifCond .ne 7, 3) := by decide +kernel
theorem dJ0_isLatin1_aae02_13 : decode cJ0_isLatin1_aae02 13 = .ok (.iconst 1, 1) := by decide +kernel
theorem dJ0_isLatin1_aae02_14 : decode cJ0_isLatin1_aae02 14 = .ok (.goto 4, 3) := by decide +kernel
theorem dJ0_isLatin1_aae02_17 : decode cJ0_isLatin1_aae02 17 = .ok (.iconst 0, 1) := by decide +kernel
theorem dJ0_isLatin1_aae02_18 : decode cJ0_isLatin1_aae02 18 = .ok (.ireturn, 1) := by decide +kernel
theorem dJ0_checkIndex_df160_0 : decode cJ0_checkIndex_df160 0 = .ok (.iload_n 0, 1) := by decide +kernel
theorem dJ0_checkIndex_df160_1 : decode cJ0_checkIndex_df160 1 = .ok (.iload_n 1, 1) := by decide +kernel
theorem dJ0_checkIndex_df160_2 : decode cJ0_checkIndex_df160 2 = .ok (.getstatic 1053, 3) := by decide +kernel
theorem dJ0_checkIndex_df160_5 : decode cJ0_checkIndex_df160 5 = .ok (.invokestatic 1059, 3) := by decide +kernel
theorem dJ0_checkIndex_df160_8 : decode cJ0_checkIndex_df160 8 = .ok (.pop, 1) := by decide +kernel
theorem dJ0_checkIndex_df160_9 : decode cJ0_checkIndex_df160 9 = .ok (.return_, 1) := by decide +kernel
theorem dJ1_charAt_3b067_0 : decode cJ1_charAt_3b067 0 = .ok (.iload_n 1, 1) := by decide +kernel
theorem dJ1_charAt_3b067_1 : decode cJ1_charAt_3b067 1 = .ok (.aload_n 0, 1) := by decide +kernel
theorem dJ1_charAt_3b067_2 : decode cJ1_charAt_3b067 2 = .ok (.arraylength, 1) := by decide +kernel
theorem dJ1_charAt_3b067_3 : decode cJ1_charAt_3b067 3 = .ok (.invokestatic 9, 3) := by decide +kernel
theorem dJ1_charAt_3b067_6 : decode cJ1_charAt_3b067 6 = .ok (.aload_n 0, 1) := by decide +kernel
theorem dJ1_charAt_3b067_7 : decode cJ1_charAt_3b067 7 = .ok (.iload_n 1, 1) := by decide +kernel
theorem dJ1_charAt_3b067_8 : decode cJ1_charAt_3b067 8 = .ok (.baload, 1) := by decide +kernel
theorem dJ1_charAt_3b067_9 : decode cJ1_charAt_3b067 9 = .ok (.sipush 255, 3) := by decide +kernel
theorem dJ1_charAt_3b067_12 : decode cJ1_charAt_3b067 12 = .ok (.iand, 1) := by decide +kernel
theorem dJ1_charAt_3b067_13 : decode cJ1_charAt_3b067 13 = .ok (.i2c, 1) := by decide +kernel
theorem dJ1_charAt_3b067_14 : decode cJ1_charAt_3b067 14 = .ok (.ireturn, 1) := by decide +kernel
theorem dJ2_getChar_3b067_0 : decode cJ2_getChar_3b067 0 = .ok (.getstatic 44, 3) := by decide +kernel
theorem dJ2_getChar_3b067_3 : decode cJ2_getChar_3b067 3 = .ok (.ifCond .ne 25, 3) := by decide +kernel
theorem dJ2_getChar_3b067_6 : decode cJ2_getChar_3b067 6 = .ok (.iload_n 1, 1) := by decide +kernel
theorem dJ2_getChar_3b067_7 : decode cJ2_getChar_3b067 7 = .ok (.ifCond .lt 11, 3) := by decide +kernel
theorem dJ2_getChar_3b067_10 : decode cJ2_getChar_3b067 10 = .ok (.iload_n 1, 1) := by decide +kernel
theorem dJ2_getChar_3b067_11 : decode cJ2_getChar_3b067 11 = .ok (.aload_n 0, 1) := by decide +kernel
theorem dJ2_getChar_3b067_12 : decode cJ2_getChar_3b067 12 = .ok (.invokestatic 48, 3) := by decide +kernel
theorem dJ2_getChar_3b067_15 : decode cJ2_getChar_3b067 15 = .ok (.if_icmp .lt 13, 3) := by decide +kernel
theorem dJ2_getChar_3b067_18 : decode cJ2_getChar_3b067 18 = .ok (.new 52, 3) := by decide +kernel
theorem dJ2_getChar_3b067_21 : decode cJ2_getChar_3b067 21 = .ok (.dup, 1) := by decide +kernel
theorem dJ2_getChar_3b067_22 : decode cJ2_getChar_3b067 22 = .ok (.ldc 54, 2) := by decide +kernel
theorem dJ2_getChar_3b067_24 : decode cJ2_getChar_3b067 24 = .ok (.invokespecial 56, 3) := by decide +kernel
theorem dJ2_getChar_3b067_27 : decode cJ2_getChar_3b067 27 = .ok (.athrow, 1) := by decide +kernel
theorem dJ2_getChar_3b067_28 : decode cJ2_getChar_3b067 28 = .ok (.iload_n 1, 1) := by decide +kernel
theorem dJ2_getChar_3b067_29 : decode cJ2_getChar_3b067 29 = .ok (.iconst 1, 1) := by decide +kernel
theorem dJ2_getChar_3b067_30 : decode cJ2_getChar_3b067 30 = .ok (.ishl, 1) := by decide +kernel
theorem dJ2_getChar_3b067_31 : decode cJ2_getChar_3b067 31 = .ok (.istore_n 1, 1) := by decide +kernel
theorem dJ2_getChar_3b067_32 : decode cJ2_getChar_3b067 32 = .ok (.aload_n 0, 1) := by decide +kernel
theorem dJ2_getChar_3b067_33 : decode cJ2_getChar_3b067 33 = .ok (.iload_n 1, 1) := by decide +kernel
theorem dJ2_getChar_3b067_34 : decode cJ2_getChar_3b067 34 = .ok (.iinc 1 1, 3) := by decide +kernel
theorem dJ2_getChar_3b067_37 : decode cJ2_getChar_3b067 37 = .ok (.baload, 1) := by decide +kernel
theorem dJ2_getChar_3b067_38 : decode cJ2_getChar_3b067 38 = .ok (.sipush 255, 3) := by decide +kernel
theorem dJ2_getChar_3b067_41 : decode cJ2_getChar_3b067 41 = .ok (.iand, 1) := by decide +kernel
theorem dJ2_getChar_3b067_42 : decode cJ2_getChar_3b067 42 = .ok (.getstatic 59, 3) := by decide +kernel
theorem dJ2_getChar_3b067_45 : decode cJ2_getChar_3b067 45 = .ok (.ishl, 1) := by decide +kernel
theorem dJ2_getChar_3b067_46 : decode cJ2_getChar_3b067 46 = .ok (.aload_n 0, 1) := by decide +kernel
theorem dJ2_getChar_3b067_47 : decode cJ2_getChar_3b067 47 = .ok (.iload_n 1, 1) := by decide +kernel
theorem dJ2_getChar_3b067_48 : decode cJ2_getChar_3b067 48 = .ok (.baload, 1) := by decide +kernel
theorem dJ2_getChar_3b067_49 : decode cJ2_getChar_3b067 49 = .ok (.sipush 255, 3) := by decide +kernel
theorem dJ2_getChar_3b067_52 : decode cJ2_getChar_3b067 52 = .ok (.iand, 1) := by decide +kernel
theorem dJ2_getChar_3b067_53 : decode cJ2_getChar_3b067 53 = .ok (.getstatic 63, 3) := by decide +kernel
theorem dJ2_getChar_3b067_56 : decode cJ2_getChar_3b067 56 = .ok (.ishl, 1) := by decide +kernel
theorem dJ2_getChar_3b067_57 : decode cJ2_getChar_3b067 57 = .ok (.ior, 1) := by decide +kernel
theorem dJ2_getChar_3b067_58 : decode cJ2_getChar_3b067 58 = .ok (.i2c, 1) := by decide +kernel
theorem dJ2_getChar_3b067_59 : decode cJ2_getChar_3b067 59 = .ok (.ireturn, 1) := by decide +kernel
theorem dJ2_length_9d52b_0 : decode cJ2_length_9d52b 0 = .ok (.aload_n 0, 1) := by decide +kernel
theorem dJ2_length_9d52b_1 : decode cJ2_length_9d52b 1 = .ok (.arraylength, 1) := by decide +kernel
theorem dJ2_length_9d52b_2 : decode cJ2_length_9d52b 2 = .ok (.iconst 1, 1) := by decide +kernel
theorem dJ2_length_9d52b_3 : decode cJ2_length_9d52b 3 = .ok (.ishr, 1) := by decide +kernel
theorem dJ2_length_9d52b_4 : decode cJ2_length_9d52b 4 = .ok (.ireturn, 1) := by decide +kernel
theorem dJ2_charAt_3b067_0 : decode cJ2_charAt_3b067 0 = .ok (.iload_n 1, 1) := by decide +kernel
theorem dJ2_charAt_3b067_1 : decode cJ2_charAt_3b067 1 = .ok (.aload_n 0, 1) := by decide +kernel
theorem dJ2_charAt_3b067_2 : decode cJ2_charAt_3b067 2 = .ok (.invokestatic 67, 3) := by decide +kernel
theorem dJ2_charAt_3b067_5 : decode cJ2_charAt_3b067 5 = .ok (.aload_n 0, 1) := by decide +kernel
theorem dJ2_charAt_3b067_6 : decode cJ2_charAt_3b067 6 = .ok (.iload_n 1, 1) := by decide +kernel
theorem dJ2_charAt_3b067_7 : decode cJ2_charAt_3b067 7 = .ok (.invokestatic 71, 3) := by decide +kernel
theorem dJ2_charAt_3b067_10 : decode cJ2_charAt_3b067 10 = .ok (.ireturn, 1) := by decide +kernel
theorem dJ2_checkIndex_2214a_0 : decode cJ2_checkIndex_2214a 0 = .ok (.iload_n 0, 1) := by decide +kernel
theorem dJ2_checkIndex_2214a_1 : decode cJ2_checkIndex_2214a 1 = .ok (.aload_n 1, 1) := by decide +kernel
theorem dJ2_checkIndex_2214a_2 : decode cJ2_checkIndex_2214a 2 = .ok (.invokestatic 48, 3) := by decide +kernel
theorem dJ2_checkIndex_2214a_5 : decode cJ2_checkIndex_2214a 5 = .ok (.invokestatic 414, 3) := by decide +kernel
theorem dJ2_checkIndex_2214a_8 : decode cJ2_checkIndex_2214a 8 = .ok (.return_, 1) := by decide +kernel
theorem dJ3_checkIndex_8e157_0 : decode cJ3_checkIndex_8e157 0 = .ok (.iload_n 0, 1) := by decide +kernel
theorem dJ3_checkIndex_8e157_1 : decode cJ3_checkIndex_8e157 1 = .ok (.ifCond .lt 8, 3) := by decide +kernel
theorem dJ3_checkIndex_8e157_4 : decode cJ3_checkIndex_8e157 4 = .ok (.iload_n 0, 1) := by decide +kernel
theorem dJ3_checkIndex_8e157_5 : decode cJ3_checkIndex_8e157 5 = .ok (.iload_n 1, 1) := by decide +kernel
theorem dJ3_checkIndex_8e157_6 : decode cJ3_checkIndex_8e157 6 = .ok (.if_icmp .lt 10, 3) := by decide +kernel
theorem dJ3_checkIndex_8e157_9 : decode cJ3_checkIndex_8e157 9 = .ok (.aload_n 2, 1) := by decide +kernel
theorem dJ3_checkIndex_8e157_10 : decode cJ3_checkIndex_8e157 10 = .ok (.iload_n 0, 1) := by decide +kernel
theorem dJ3_checkIndex_8e157_11 : decode cJ3_checkIndex_8e157 11 = .ok (.iload_n 1, 1) := by decide +kernel
theorem dJ3_checkIndex_8e157_12 : decode cJ3_checkIndex_8e157 12 = .ok (.invokestatic 95, 3) := by decide +kernel
theorem dJ3_checkIndex_8e157_15 : decode cJ3_checkIndex_8e157 15 = .ok (.athrow, 1) := by decide +kernel
theorem dJ3_checkIndex_8e157_16 : decode cJ3_checkIndex_8e157 16 = .ok (.iload_n 0, 1) := by decide +kernel
theorem dJ3_checkIndex_8e157_17 : decode cJ3_checkIndex_8e157 17 = .ok (.ireturn, 1) := by decide +kernel
theorem dL_size_0 : decode cL_size 0 = .ok (.aload_n 2, 1) := by decide +kernel
theorem dL_size_1 : decode cL_size 1 = .ok (.iconst 0, 1) := by decide +kernel
theorem dL_size_2 : decode cL_size 2 = .ok (.aload_n 0, 1) := by decide +kernel
theorem dL_size_3 : decode cL_size 3 = .ok (.iload_n 1, 1) := by decide +kernel
theorem dL_size_4 : decode cL_size 4 = .ok (.invokevirtual 7, 3) := by decide +kernel
theorem dL_size_7 : decode cL_size 7 = .ok (.i2l, 1) := by decide +kernel
theorem dL_size_8 : decode cL_size 8 = .ok (.lastore, 1) := by decide +kernel
theorem dL_size_9 : decode cL_size 9 = .ok (.goto 6, 3) := by decide +kernel
theorem dL_size_12 : decode cL_size 12 = .ok (.astore_n 3, 1) := by decide +kernel
theorem dL_size_13 : decode cL_size 13 = .ok (.iconst 1, 1) := by decide +kernel
theorem dL_size_14 : decode cL_size 14 = .ok (.ireturn, 1) := by decide +kernel
theorem dL_size_15 : decode cL_size 15 = .ok (.iconst 0, 1) := by decide +kernel
theorem dL_size_16 : decode cL_size 16 = .ok (.ireturn, 1) := by decide +kernel
theorem dL_cell_0 : decode cL_cell 0 = .ok (.aload_n 2, 1) := by decide +kernel
theorem dL_cell_1 : decode cL_cell 1 = .ok (.iconst 0, 1) := by decide +kernel
theorem dL_cell_2 : decode cL_cell 2 = .ok (.aload_n 0, 1) := by decide +kernel
theorem dL_cell_3 : decode cL_cell 3 = .ok (.iload_n 1, 1) := by decide +kernel
theorem dL_cell_4 : decode cL_cell 4 = .ok (.invokevirtual 15, 3) := by decide +kernel
theorem dL_cell_7 : decode cL_cell 7 = .ok (.i2l, 1) := by decide +kernel
theorem dL_cell_8 : decode cL_cell 8 = .ok (.lastore, 1) := by decide +kernel
theorem dL_cell_9 : decode cL_cell 9 = .ok (.goto 6, 3) := by decide +kernel
theorem dL_cell_12 : decode cL_cell 12 = .ok (.astore_n 3, 1) := by decide +kernel
theorem dL_cell_13 : decode cL_cell 13 = .ok (.iconst 1, 1) := by decide +kernel
theorem dL_cell_14 : decode cL_cell 14 = .ok (.ireturn, 1) := by decide +kernel
theorem dL_cell_15 : decode cL_cell 15 = .ok (.iconst 0, 1) := by decide +kernel
theorem dL_cell_16 : decode cL_cell 16 = .ok (.ireturn, 1) := by decide +kernel
theorem dL_neighbour_0 : decode cL_neighbour 0 = .ok (.aload_n 3, 1) := by decide +kernel
theorem dL_neighbour_1 : decode cL_neighbour 1 = .ok (.iconst 0, 1) := by decide +kernel
theorem dL_neighbour_2 : decode cL_neighbour 2 = .ok (.aload_n 0, 1) := by decide +kernel
theorem dL_neighbour_3 : decode cL_neighbour 3 = .ok (.iload_n 1, 1) := by decide +kernel
theorem dL_neighbour_4 : decode cL_neighbour 4 = .ok (.iload_n 2, 1) := by decide +kernel
theorem dL_neighbour_5 : decode cL_neighbour 5 = .ok (.invokevirtual 20, 3) := by decide +kernel
theorem dL_neighbour_8 : decode cL_neighbour 8 = .ok (.i2l, 1) := by decide +kernel
theorem dL_neighbour_9 : decode cL_neighbour 9 = .ok (.lastore, 1) := by decide +kernel
theorem dL_neighbour_10 : decode cL_neighbour 10 = .ok (.goto 7, 3) := by decide +kernel
theorem dL_neighbour_13 : decode cL_neighbour 13 = .ok (.astore 4, 2) := by decide +kernel
theorem dL_neighbour_15 : decode cL_neighbour 15 = .ok (.iconst 1, 1) := by decide +kernel
theorem dL_neighbour_16 : decode cL_neighbour 16 = .ok (.ireturn, 1) := by decide +kernel
theorem dL_neighbour_17 : decode cL_neighbour 17 = .ok (.iconst 0, 1) := by decide +kernel
theorem dL_neighbour_18 : decode cL_neighbour 18 = .ok (.ireturn, 1) := by decide +kernel
theorem dL_group_0 : decode cL_group 0 = .ok (.aload_n 3, 1) := by decide +kernel
theorem dL_group_1 : decode cL_group 1 = .ok (.iconst 0, 1) := by decide +kernel
theorem dL_group_2 : decode cL_group 2 = .ok (.aload_n 0, 1) := by decide +kernel
theorem dL_group_3 : decode cL_group 3 = .ok (.iload_n 1, 1) := by decide +kernel
theorem dL_group_4 : decode cL_group 4 = .ok (.iload_n 2, 1) := by decide +kernel
theorem dL_group_5 : decode cL_group 5 = .ok (.invokevirtual 24, 3) := by decide +kernel
theorem dL_group_8 : decode cL_group 8 = .ok (.i2l, 1) := by decide +kernel
theorem dL_group_9 : decode cL_group 9 = .ok (.lastore, 1) := by decide +kernel
theorem dL_group_10 : decode cL_group 10 = .ok (.goto 11, 3) := by decide +kernel
theorem dL_group_13 : decode cL_group 13 = .ok (.astore 4, 2) := by decide +kernel
theorem dL_group_15 : decode cL_group 15 = .ok (.iconst 1, 1) := by decide +kernel
theorem dL_group_16 : decode cL_group 16 = .ok (.ireturn, 1) := by decide +kernel
theorem dL_group_17 : decode cL_group 17 = .ok (.astore 4, 2) := by decide +kernel
theorem dL_group_19 : decode cL_group 19 = .ok (.iconst 2, 1) := by decide +kernel
theorem dL_group_20 : decode cL_group 20 = .ok (.ireturn, 1) := by decide +kernel
theorem dL_group_21 : decode cL_group 21 = .ok (.iconst 0, 1) := by decide +kernel
theorem dL_group_22 : decode cL_group 22 = .ok (.ireturn, 1) := by decide +kernel
theorem dL_groups_0 : decode cL_groups 0 = .ok (.aload_n 2, 1) := by decide +kernel
theorem dL_groups_1 : decode cL_groups 1 = .ok (.iconst 0, 1) := by decide +kernel
theorem dL_groups_2 : decode cL_groups 2 = .ok (.aload_n 0, 1) := by decide +kernel
theorem dL_groups_3 : decode cL_groups 3 = .ok (.iload_n 1, 1) := by decide +kernel
theorem dL_groups_4 : decode cL_groups 4 = .ok (.invokevirtual 27, 3) := by decide +kernel
theorem dL_groups_7 : decode cL_groups 7 = .ok (.i2l, 1) := by decide +kernel
theorem dL_groups_8 : decode cL_groups 8 = .ok (.lastore, 1) := by decide +kernel
theorem dL_groups_9 : decode cL_groups 9 = .ok (.goto 6, 3) := by decide +kernel
theorem dL_groups_12 : decode cL_groups 12 = .ok (.astore_n 3, 1) := by decide +kernel
theorem dL_groups_13 : decode cL_groups 13 = .ok (.iconst 1, 1) := by decide +kernel
theorem dL_groups_14 : decode cL_groups 14 = .ok (.ireturn, 1) := by decide +kernel
theorem dL_groups_15 : decode cL_groups 15 = .ok (.iconst 0, 1) := by decide +kernel
theorem dL_groups_16 : decode cL_groups 16 = .ok (.ireturn, 1) := by decide +kernel
theorem dL_largest_0 : decode cL_largest 0 = .ok (.aload_n 2, 1) := by decide +kernel
theorem dL_largest_1 : decode cL_largest 1 = .ok (.iconst 0, 1) := by decide +kernel
theorem dL_largest_2 : decode cL_largest 2 = .ok (.aload_n 0, 1) := by decide +kernel
theorem dL_largest_3 : decode cL_largest 3 = .ok (.iload_n 1, 1) := by decide +kernel
theorem dL_largest_4 : decode cL_largest 4 = .ok (.invokevirtual 30, 3) := by decide +kernel
theorem dL_largest_7 : decode cL_largest 7 = .ok (.i2l, 1) := by decide +kernel
theorem dL_largest_8 : decode cL_largest 8 = .ok (.lastore, 1) := by decide +kernel
theorem dL_largest_9 : decode cL_largest 9 = .ok (.goto 6, 3) := by decide +kernel
theorem dL_largest_12 : decode cL_largest 12 = .ok (.astore_n 3, 1) := by decide +kernel
theorem dL_largest_13 : decode cL_largest 13 = .ok (.iconst 1, 1) := by decide +kernel
theorem dL_largest_14 : decode cL_largest 14 = .ok (.ireturn, 1) := by decide +kernel
theorem dL_largest_15 : decode cL_largest 15 = .ok (.iconst 0, 1) := by decide +kernel
theorem dL_largest_16 : decode cL_largest 16 = .ok (.ireturn, 1) := by decide +kernel
theorem dL_isBridge_0 : decode cL_isBridge 0 = .ok (.aload_n 3, 1) := by decide +kernel
theorem dL_isBridge_1 : decode cL_isBridge 1 = .ok (.iconst 0, 1) := by decide +kernel
theorem dL_isBridge_2 : decode cL_isBridge 2 = .ok (.aload_n 0, 1) := by decide +kernel
theorem dL_isBridge_3 : decode cL_isBridge 3 = .ok (.iload_n 1, 1) := by decide +kernel
theorem dL_isBridge_4 : decode cL_isBridge 4 = .ok (.iload_n 2, 1) := by decide +kernel
theorem dL_isBridge_5 : decode cL_isBridge 5 = .ok (.invokevirtual 33, 3) := by decide +kernel
theorem dL_isBridge_8 : decode cL_isBridge 8 = .ok (.ifCond .eq 7, 3) := by decide +kernel
theorem dL_isBridge_11 : decode cL_isBridge 11 = .ok (.lconst 1, 1) := by decide +kernel
theorem dL_isBridge_12 : decode cL_isBridge 12 = .ok (.goto 4, 3) := by decide +kernel
theorem dL_isBridge_15 : decode cL_isBridge 15 = .ok (.lconst 0, 1) := by decide +kernel
theorem dL_isBridge_16 : decode cL_isBridge 16 = .ok (.lastore, 1) := by decide +kernel
theorem dL_isBridge_17 : decode cL_isBridge 17 = .ok (.goto 7, 3) := by decide +kernel
theorem dL_isBridge_20 : decode cL_isBridge 20 = .ok (.astore 4, 2) := by decide +kernel
theorem dL_isBridge_22 : decode cL_isBridge 22 = .ok (.iconst 1, 1) := by decide +kernel
theorem dL_isBridge_23 : decode cL_isBridge 23 = .ok (.ireturn, 1) := by decide +kernel
theorem dL_isBridge_24 : decode cL_isBridge 24 = .ok (.iconst 0, 1) := by decide +kernel
theorem dL_isBridge_25 : decode cL_isBridge 25 = .ok (.ireturn, 1) := by decide +kernel
theorem dL_bridges_0 : decode cL_bridges 0 = .ok (.aload_n 3, 1) := by decide +kernel
theorem dL_bridges_1 : decode cL_bridges 1 = .ok (.iconst 0, 1) := by decide +kernel
theorem dL_bridges_2 : decode cL_bridges 2 = .ok (.aload_n 0, 1) := by decide +kernel
theorem dL_bridges_3 : decode cL_bridges 3 = .ok (.iload_n 1, 1) := by decide +kernel
theorem dL_bridges_4 : decode cL_bridges 4 = .ok (.iload_n 2, 1) := by decide +kernel
theorem dL_bridges_5 : decode cL_bridges 5 = .ok (.invokevirtual 37, 3) := by decide +kernel
theorem dL_bridges_8 : decode cL_bridges 8 = .ok (.i2l, 1) := by decide +kernel
theorem dL_bridges_9 : decode cL_bridges 9 = .ok (.lastore, 1) := by decide +kernel
theorem dL_bridges_10 : decode cL_bridges 10 = .ok (.goto 7, 3) := by decide +kernel
theorem dL_bridges_13 : decode cL_bridges 13 = .ok (.astore 4, 2) := by decide +kernel
theorem dL_bridges_15 : decode cL_bridges 15 = .ok (.iconst 1, 1) := by decide +kernel
theorem dL_bridges_16 : decode cL_bridges 16 = .ok (.ireturn, 1) := by decide +kernel
theorem dL_bridges_17 : decode cL_bridges 17 = .ok (.iconst 0, 1) := by decide +kernel
theorem dL_bridges_18 : decode cL_bridges 18 = .ok (.ireturn, 1) := by decide +kernel
theorem dL_bridge_0 : decode cL_bridge 0 = .ok (.aload 4, 2) := by decide +kernel
theorem dL_bridge_2 : decode cL_bridge 2 = .ok (.iconst 0, 1) := by decide +kernel
theorem dL_bridge_3 : decode cL_bridge 3 = .ok (.aload_n 0, 1) := by decide +kernel
theorem dL_bridge_4 : decode cL_bridge 4 = .ok (.iload_n 1, 1) := by decide +kernel
theorem dL_bridge_5 : decode cL_bridge 5 = .ok (.iload_n 2, 1) := by decide +kernel
theorem dL_bridge_6 : decode cL_bridge 6 = .ok (.iload_n 3, 1) := by decide +kernel
theorem dL_bridge_7 : decode cL_bridge 7 = .ok (.invokevirtual 41, 3) := by decide +kernel
theorem dL_bridge_10 : decode cL_bridge 10 = .ok (.i2l, 1) := by decide +kernel
theorem dL_bridge_11 : decode cL_bridge 11 = .ok (.lastore, 1) := by decide +kernel
theorem dL_bridge_12 : decode cL_bridge 12 = .ok (.goto 7, 3) := by decide +kernel
theorem dL_bridge_15 : decode cL_bridge 15 = .ok (.astore 5, 2) := by decide +kernel
theorem dL_bridge_17 : decode cL_bridge 17 = .ok (.iconst 1, 1) := by decide +kernel
theorem dL_bridge_18 : decode cL_bridge 18 = .ok (.ireturn, 1) := by decide +kernel
theorem dL_bridge_19 : decode cL_bridge 19 = .ok (.iconst 0, 1) := by decide +kernel
theorem dL_bridge_20 : decode cL_bridge 20 = .ok (.ireturn, 1) := by decide +kernel
theorem dL_chain_0 : decode cL_chain 0 = .ok (.aload_n 3, 1) := by decide +kernel
theorem dL_chain_1 : decode cL_chain 1 = .ok (.iconst 0, 1) := by decide +kernel
theorem dL_chain_2 : decode cL_chain 2 = .ok (.aload_n 0, 1) := by decide +kernel
theorem dL_chain_3 : decode cL_chain 3 = .ok (.iload_n 1, 1) := by decide +kernel
theorem dL_chain_4 : decode cL_chain 4 = .ok (.iload_n 2, 1) := by decide +kernel
theorem dL_chain_5 : decode cL_chain 5 = .ok (.invokevirtual 45, 3) := by decide +kernel
theorem dL_chain_8 : decode cL_chain 8 = .ok (.i2l, 1) := by decide +kernel
theorem dL_chain_9 : decode cL_chain 9 = .ok (.lastore, 1) := by decide +kernel
theorem dL_chain_10 : decode cL_chain 10 = .ok (.goto 11, 3) := by decide +kernel
theorem dL_chain_13 : decode cL_chain 13 = .ok (.astore 4, 2) := by decide +kernel
theorem dL_chain_15 : decode cL_chain 15 = .ok (.iconst 1, 1) := by decide +kernel
theorem dL_chain_16 : decode cL_chain 16 = .ok (.ireturn, 1) := by decide +kernel
theorem dL_chain_17 : decode cL_chain 17 = .ok (.astore 4, 2) := by decide +kernel
theorem dL_chain_19 : decode cL_chain 19 = .ok (.iconst 2, 1) := by decide +kernel
theorem dL_chain_20 : decode cL_chain 20 = .ok (.ireturn, 1) := by decide +kernel
theorem dL_chain_21 : decode cL_chain 21 = .ok (.iconst 0, 1) := by decide +kernel
theorem dL_chain_22 : decode cL_chain 22 = .ok (.ireturn, 1) := by decide +kernel
theorem dL_chains_0 : decode cL_chains 0 = .ok (.aload_n 2, 1) := by decide +kernel
theorem dL_chains_1 : decode cL_chains 1 = .ok (.iconst 0, 1) := by decide +kernel
theorem dL_chains_2 : decode cL_chains 2 = .ok (.aload_n 0, 1) := by decide +kernel
theorem dL_chains_3 : decode cL_chains 3 = .ok (.iload_n 1, 1) := by decide +kernel
theorem dL_chains_4 : decode cL_chains 4 = .ok (.invokevirtual 48, 3) := by decide +kernel
theorem dL_chains_7 : decode cL_chains 7 = .ok (.i2l, 1) := by decide +kernel
theorem dL_chains_8 : decode cL_chains 8 = .ok (.lastore, 1) := by decide +kernel
theorem dL_chains_9 : decode cL_chains 9 = .ok (.goto 6, 3) := by decide +kernel
theorem dL_chains_12 : decode cL_chains 12 = .ok (.astore_n 3, 1) := by decide +kernel
theorem dL_chains_13 : decode cL_chains 13 = .ok (.iconst 1, 1) := by decide +kernel
theorem dL_chains_14 : decode cL_chains 14 = .ok (.ireturn, 1) := by decide +kernel
theorem dL_chains_15 : decode cL_chains 15 = .ok (.iconst 0, 1) := by decide +kernel
theorem dL_chains_16 : decode cL_chains 16 = .ok (.ireturn, 1) := by decide +kernel
theorem dL_isSafe_0 : decode cL_isSafe 0 = .ok (.aload_n 2, 1) := by decide +kernel
theorem dL_isSafe_1 : decode cL_isSafe 1 = .ok (.iconst 0, 1) := by decide +kernel
theorem dL_isSafe_2 : decode cL_isSafe 2 = .ok (.aload_n 0, 1) := by decide +kernel
theorem dL_isSafe_3 : decode cL_isSafe 3 = .ok (.iload_n 1, 1) := by decide +kernel
theorem dL_isSafe_4 : decode cL_isSafe 4 = .ok (.invokevirtual 51, 3) := by decide +kernel
theorem dL_isSafe_7 : decode cL_isSafe 7 = .ok (.ifCond .eq 7, 3) := by decide +kernel
theorem dL_isSafe_10 : decode cL_isSafe 10 = .ok (.lconst 1, 1) := by decide +kernel
theorem dL_isSafe_11 : decode cL_isSafe 11 = .ok (.goto 4, 3) := by decide +kernel
theorem dL_isSafe_14 : decode cL_isSafe 14 = .ok (.lconst 0, 1) := by decide +kernel
theorem dL_isSafe_15 : decode cL_isSafe 15 = .ok (.lastore, 1) := by decide +kernel
theorem dL_isSafe_16 : decode cL_isSafe 16 = .ok (.goto 6, 3) := by decide +kernel
theorem dL_isSafe_19 : decode cL_isSafe 19 = .ok (.astore_n 3, 1) := by decide +kernel
theorem dL_isSafe_20 : decode cL_isSafe 20 = .ok (.iconst 1, 1) := by decide +kernel
theorem dL_isSafe_21 : decode cL_isSafe 21 = .ok (.ireturn, 1) := by decide +kernel
theorem dL_isSafe_22 : decode cL_isSafe 22 = .ok (.iconst 0, 1) := by decide +kernel
theorem dL_isSafe_23 : decode cL_isSafe 23 = .ok (.ireturn, 1) := by decide +kernel
theorem dL_answer_0 : decode cL_answer 0 = .ok (.aload_n 2, 1) := by decide +kernel
theorem dL_answer_1 : decode cL_answer 1 = .ok (.iconst 0, 1) := by decide +kernel
theorem dL_answer_2 : decode cL_answer 2 = .ok (.aload_n 0, 1) := by decide +kernel
theorem dL_answer_3 : decode cL_answer 3 = .ok (.iload_n 1, 1) := by decide +kernel
theorem dL_answer_4 : decode cL_answer 4 = .ok (.invokevirtual 55, 3) := by decide +kernel
theorem dL_answer_7 : decode cL_answer 7 = .ok (.i2l, 1) := by decide +kernel
theorem dL_answer_8 : decode cL_answer 8 = .ok (.lastore, 1) := by decide +kernel
theorem dL_answer_9 : decode cL_answer 9 = .ok (.goto 6, 3) := by decide +kernel
theorem dL_answer_12 : decode cL_answer 12 = .ok (.astore_n 3, 1) := by decide +kernel
theorem dL_answer_13 : decode cL_answer 13 = .ok (.iconst 1, 1) := by decide +kernel
theorem dL_answer_14 : decode cL_answer 14 = .ok (.ireturn, 1) := by decide +kernel
theorem dL_answer_15 : decode cL_answer 15 = .ok (.iconst 0, 1) := by decide +kernel
theorem dL_answer_16 : decode cL_answer 16 = .ok (.ireturn, 1) := by decide +kernel
theorem dL_threats_0 : decode cL_threats 0 = .ok (.aload_n 2, 1) := by decide +kernel
theorem dL_threats_1 : decode cL_threats 1 = .ok (.iconst 0, 1) := by decide +kernel
theorem dL_threats_2 : decode cL_threats 2 = .ok (.aload_n 0, 1) := by decide +kernel
theorem dL_threats_3 : decode cL_threats 3 = .ok (.iload_n 1, 1) := by decide +kernel
theorem dL_threats_4 : decode cL_threats 4 = .ok (.invokevirtual 58, 3) := by decide +kernel
theorem dL_threats_7 : decode cL_threats 7 = .ok (.i2l, 1) := by decide +kernel
theorem dL_threats_8 : decode cL_threats 8 = .ok (.lastore, 1) := by decide +kernel
theorem dL_threats_9 : decode cL_threats 9 = .ok (.goto 6, 3) := by decide +kernel
theorem dL_threats_12 : decode cL_threats 12 = .ok (.astore_n 3, 1) := by decide +kernel
theorem dL_threats_13 : decode cL_threats 13 = .ok (.iconst 1, 1) := by decide +kernel
theorem dL_threats_14 : decode cL_threats 14 = .ok (.ireturn, 1) := by decide +kernel
theorem dL_threats_15 : decode cL_threats 15 = .ok (.iconst 0, 1) := by decide +kernel
theorem dL_threats_16 : decode cL_threats 16 = .ok (.ireturn, 1) := by decide +kernel
theorem dL_threat_0 : decode cL_threat 0 = .ok (.aload_n 3, 1) := by decide +kernel
theorem dL_threat_1 : decode cL_threat 1 = .ok (.iconst 0, 1) := by decide +kernel
theorem dL_threat_2 : decode cL_threat 2 = .ok (.aload_n 0, 1) := by decide +kernel
theorem dL_threat_3 : decode cL_threat 3 = .ok (.iload_n 1, 1) := by decide +kernel
theorem dL_threat_4 : decode cL_threat 4 = .ok (.iload_n 2, 1) := by decide +kernel
theorem dL_threat_5 : decode cL_threat 5 = .ok (.invokevirtual 61, 3) := by decide +kernel
theorem dL_threat_8 : decode cL_threat 8 = .ok (.i2l, 1) := by decide +kernel
theorem dL_threat_9 : decode cL_threat 9 = .ok (.lastore, 1) := by decide +kernel
theorem dL_threat_10 : decode cL_threat 10 = .ok (.goto 7, 3) := by decide +kernel
theorem dL_threat_13 : decode cL_threat 13 = .ok (.astore 4, 2) := by decide +kernel
theorem dL_threat_15 : decode cL_threat 15 = .ok (.iconst 1, 1) := by decide +kernel
theorem dL_threat_16 : decode cL_threat 16 = .ok (.ireturn, 1) := by decide +kernel
theorem dL_threat_17 : decode cL_threat 17 = .ok (.iconst 0, 1) := by decide +kernel
theorem dL_threat_18 : decode cL_threat 18 = .ok (.ireturn, 1) := by decide +kernel
theorem dL_distance_0 : decode cL_distance 0 = .ok (.aload_n 2, 1) := by decide +kernel
theorem dL_distance_1 : decode cL_distance 1 = .ok (.iconst 0, 1) := by decide +kernel
theorem dL_distance_2 : decode cL_distance 2 = .ok (.aload_n 0, 1) := by decide +kernel
theorem dL_distance_3 : decode cL_distance 3 = .ok (.iload_n 1, 1) := by decide +kernel
theorem dL_distance_4 : decode cL_distance 4 = .ok (.invokevirtual 64, 3) := by decide +kernel
theorem dL_distance_7 : decode cL_distance 7 = .ok (.i2l, 1) := by decide +kernel
theorem dL_distance_8 : decode cL_distance 8 = .ok (.lastore, 1) := by decide +kernel
theorem dL_distance_9 : decode cL_distance 9 = .ok (.goto 6, 3) := by decide +kernel
theorem dL_distance_12 : decode cL_distance 12 = .ok (.astore_n 3, 1) := by decide +kernel
theorem dL_distance_13 : decode cL_distance 13 = .ok (.iconst 1, 1) := by decide +kernel
theorem dL_distance_14 : decode cL_distance 14 = .ok (.ireturn, 1) := by decide +kernel
theorem dL_distance_15 : decode cL_distance 15 = .ok (.iconst 0, 1) := by decide +kernel
theorem dL_distance_16 : decode cL_distance 16 = .ok (.ireturn, 1) := by decide +kernel
theorem dL_through_0 : decode cL_through 0 = .ok (.aload_n 3, 1) := by decide +kernel
theorem dL_through_1 : decode cL_through 1 = .ok (.iconst 0, 1) := by decide +kernel
theorem dL_through_2 : decode cL_through 2 = .ok (.aload_n 0, 1) := by decide +kernel
theorem dL_through_3 : decode cL_through 3 = .ok (.iload_n 1, 1) := by decide +kernel
theorem dL_through_4 : decode cL_through 4 = .ok (.iload_n 2, 1) := by decide +kernel
theorem dL_through_5 : decode cL_through 5 = .ok (.invokevirtual 67, 3) := by decide +kernel
theorem dL_through_8 : decode cL_through 8 = .ok (.i2l, 1) := by decide +kernel
theorem dL_through_9 : decode cL_through 9 = .ok (.lastore, 1) := by decide +kernel
theorem dL_through_10 : decode cL_through 10 = .ok (.goto 11, 3) := by decide +kernel
theorem dL_through_13 : decode cL_through 13 = .ok (.astore 4, 2) := by decide +kernel
theorem dL_through_15 : decode cL_through 15 = .ok (.iconst 1, 1) := by decide +kernel
theorem dL_through_16 : decode cL_through 16 = .ok (.ireturn, 1) := by decide +kernel
theorem dL_through_17 : decode cL_through 17 = .ok (.astore 4, 2) := by decide +kernel
theorem dL_through_19 : decode cL_through 19 = .ok (.iconst 2, 1) := by decide +kernel
theorem dL_through_20 : decode cL_through 20 = .ok (.ireturn, 1) := by decide +kernel
theorem dL_through_21 : decode cL_through 21 = .ok (.iconst 0, 1) := by decide +kernel
theorem dL_through_22 : decode cL_through 22 = .ok (.ireturn, 1) := by decide +kernel
theorem dL_useful_0 : decode cL_useful 0 = .ok (.aload_n 2, 1) := by decide +kernel
theorem dL_useful_1 : decode cL_useful 1 = .ok (.iconst 0, 1) := by decide +kernel
theorem dL_useful_2 : decode cL_useful 2 = .ok (.aload_n 0, 1) := by decide +kernel
theorem dL_useful_3 : decode cL_useful 3 = .ok (.iload_n 1, 1) := by decide +kernel
theorem dL_useful_4 : decode cL_useful 4 = .ok (.invokevirtual 70, 3) := by decide +kernel
theorem dL_useful_7 : decode cL_useful 7 = .ok (.i2l, 1) := by decide +kernel
theorem dL_useful_8 : decode cL_useful 8 = .ok (.lastore, 1) := by decide +kernel
theorem dL_useful_9 : decode cL_useful 9 = .ok (.goto 6, 3) := by decide +kernel
theorem dL_useful_12 : decode cL_useful 12 = .ok (.astore_n 3, 1) := by decide +kernel
theorem dL_useful_13 : decode cL_useful 13 = .ok (.iconst 1, 1) := by decide +kernel
theorem dL_useful_14 : decode cL_useful 14 = .ok (.ireturn, 1) := by decide +kernel
theorem dL_useful_15 : decode cL_useful 15 = .ok (.iconst 0, 1) := by decide +kernel
theorem dL_useful_16 : decode cL_useful 16 = .ok (.ireturn, 1) := by decide +kernel
theorem dL_potential_0 : decode cL_potential 0 = .ok (.aload 4, 2) := by decide +kernel
theorem dL_potential_2 : decode cL_potential 2 = .ok (.iconst 0, 1) := by decide +kernel
theorem dL_potential_3 : decode cL_potential 3 = .ok (.aload_n 0, 1) := by decide +kernel
theorem dL_potential_4 : decode cL_potential 4 = .ok (.iload_n 1, 1) := by decide +kernel
theorem dL_potential_5 : decode cL_potential 5 = .ok (.iload_n 2, 1) := by decide +kernel
theorem dL_potential_6 : decode cL_potential 6 = .ok (.iload_n 3, 1) := by decide +kernel
theorem dL_potential_7 : decode cL_potential 7 = .ok (.invokevirtual 73, 3) := by decide +kernel
theorem dL_potential_10 : decode cL_potential 10 = .ok (.i2l, 1) := by decide +kernel
theorem dL_potential_11 : decode cL_potential 11 = .ok (.lastore, 1) := by decide +kernel
theorem dL_potential_12 : decode cL_potential 12 = .ok (.goto 11, 3) := by decide +kernel
theorem dL_potential_15 : decode cL_potential 15 = .ok (.astore 5, 2) := by decide +kernel
theorem dL_potential_17 : decode cL_potential 17 = .ok (.iconst 1, 1) := by decide +kernel
theorem dL_potential_18 : decode cL_potential 18 = .ok (.ireturn, 1) := by decide +kernel
theorem dL_potential_19 : decode cL_potential 19 = .ok (.astore 5, 2) := by decide +kernel
theorem dL_potential_21 : decode cL_potential 21 = .ok (.iconst 2, 1) := by decide +kernel
theorem dL_potential_22 : decode cL_potential 22 = .ok (.ireturn, 1) := by decide +kernel
theorem dL_potential_23 : decode cL_potential 23 = .ok (.iconst 0, 1) := by decide +kernel
theorem dL_potential_24 : decode cL_potential 24 = .ok (.ireturn, 1) := by decide +kernel
theorem dL_current_0 : decode cL_current 0 = .ok (.aload_n 3, 1) := by decide +kernel
theorem dL_current_1 : decode cL_current 1 = .ok (.iconst 0, 1) := by decide +kernel
theorem dL_current_2 : decode cL_current 2 = .ok (.aload_n 0, 1) := by decide +kernel
theorem dL_current_3 : decode cL_current 3 = .ok (.iload_n 1, 1) := by decide +kernel
theorem dL_current_4 : decode cL_current 4 = .ok (.iload_n 2, 1) := by decide +kernel
theorem dL_current_5 : decode cL_current 5 = .ok (.invokevirtual 76, 3) := by decide +kernel
theorem dL_current_8 : decode cL_current 8 = .ok (.i2l, 1) := by decide +kernel
theorem dL_current_9 : decode cL_current 9 = .ok (.lastore, 1) := by decide +kernel
theorem dL_current_10 : decode cL_current 10 = .ok (.goto 7, 3) := by decide +kernel
theorem dL_current_13 : decode cL_current 13 = .ok (.astore 4, 2) := by decide +kernel
theorem dL_current_15 : decode cL_current 15 = .ok (.iconst 1, 1) := by decide +kernel
theorem dL_current_16 : decode cL_current 16 = .ok (.ireturn, 1) := by decide +kernel
theorem dL_current_17 : decode cL_current 17 = .ok (.iconst 0, 1) := by decide +kernel
theorem dL_current_18 : decode cL_current 18 = .ok (.ireturn, 1) := by decide +kernel
theorem dL_resistance_0 : decode cL_resistance 0 = .ok (.aload_n 3, 1) := by decide +kernel
theorem dL_resistance_1 : decode cL_resistance 1 = .ok (.iconst 0, 1) := by decide +kernel
theorem dL_resistance_2 : decode cL_resistance 2 = .ok (.aload_n 0, 1) := by decide +kernel
theorem dL_resistance_3 : decode cL_resistance 3 = .ok (.iload_n 1, 1) := by decide +kernel
theorem dL_resistance_4 : decode cL_resistance 4 = .ok (.iload_n 2, 1) := by decide +kernel
theorem dL_resistance_5 : decode cL_resistance 5 = .ok (.invokevirtual 79, 3) := by decide +kernel
theorem dL_resistance_8 : decode cL_resistance 8 = .ok (.f2d, 1) := by decide +kernel
theorem dL_resistance_9 : decode cL_resistance 9 = .ok (.dastore, 1) := by decide +kernel
theorem dL_resistance_10 : decode cL_resistance 10 = .ok (.goto 7, 3) := by decide +kernel
theorem dL_resistance_13 : decode cL_resistance 13 = .ok (.astore 4, 2) := by decide +kernel
theorem dL_resistance_15 : decode cL_resistance 15 = .ok (.iconst 1, 1) := by decide +kernel
theorem dL_resistance_16 : decode cL_resistance 16 = .ok (.ireturn, 1) := by decide +kernel
theorem dL_resistance_17 : decode cL_resistance 17 = .ok (.iconst 0, 1) := by decide +kernel
theorem dL_resistance_18 : decode cL_resistance 18 = .ok (.ireturn, 1) := by decide +kernel
theorem dL_balance_0 : decode cL_balance 0 = .ok (.aload_n 2, 1) := by decide +kernel
theorem dL_balance_1 : decode cL_balance 1 = .ok (.iconst 0, 1) := by decide +kernel
theorem dL_balance_2 : decode cL_balance 2 = .ok (.aload_n 0, 1) := by decide +kernel
theorem dL_balance_3 : decode cL_balance 3 = .ok (.iload_n 1, 1) := by decide +kernel
theorem dL_balance_4 : decode cL_balance 4 = .ok (.invokevirtual 83, 3) := by decide +kernel
theorem dL_balance_7 : decode cL_balance 7 = .ok (.dastore, 1) := by decide +kernel
theorem dL_balance_8 : decode cL_balance 8 = .ok (.goto 6, 3) := by decide +kernel
theorem dL_balance_11 : decode cL_balance 11 = .ok (.astore_n 3, 1) := by decide +kernel
theorem dL_balance_12 : decode cL_balance 12 = .ok (.iconst 1, 1) := by decide +kernel
theorem dL_balance_13 : decode cL_balance 13 = .ok (.ireturn, 1) := by decide +kernel
theorem dL_balance_14 : decode cL_balance 14 = .ok (.iconst 0, 1) := by decide +kernel
theorem dL_balance_15 : decode cL_balance 15 = .ok (.ireturn, 1) := by decide +kernel
theorem dL_filled_0 : decode cL_filled 0 = .ok (.aload_n 2, 1) := by decide +kernel
theorem dL_filled_1 : decode cL_filled 1 = .ok (.iconst 0, 1) := by decide +kernel
theorem dL_filled_2 : decode cL_filled 2 = .ok (.aload_n 0, 1) := by decide +kernel
theorem dL_filled_3 : decode cL_filled 3 = .ok (.iload_n 1, 1) := by decide +kernel
theorem dL_filled_4 : decode cL_filled 4 = .ok (.invokevirtual 87, 3) := by decide +kernel
theorem dL_filled_7 : decode cL_filled 7 = .ok (.i2l, 1) := by decide +kernel
theorem dL_filled_8 : decode cL_filled 8 = .ok (.lastore, 1) := by decide +kernel
theorem dL_filled_9 : decode cL_filled 9 = .ok (.goto 6, 3) := by decide +kernel
theorem dL_filled_12 : decode cL_filled 12 = .ok (.astore_n 3, 1) := by decide +kernel
theorem dL_filled_13 : decode cL_filled 13 = .ok (.iconst 1, 1) := by decide +kernel
theorem dL_filled_14 : decode cL_filled 14 = .ok (.ireturn, 1) := by decide +kernel
theorem dL_filled_15 : decode cL_filled 15 = .ok (.iconst 0, 1) := by decide +kernel
theorem dL_filled_16 : decode cL_filled 16 = .ok (.ireturn, 1) := by decide +kernel
theorem dL_fillings_0 : decode cL_fillings 0 = .ok (.aload 4, 2) := by decide +kernel
theorem dL_fillings_2 : decode cL_fillings 2 = .ok (.iconst 0, 1) := by decide +kernel
theorem dL_fillings_3 : decode cL_fillings 3 = .ok (.aload_n 0, 1) := by decide +kernel
theorem dL_fillings_4 : decode cL_fillings 4 = .ok (.iload_n 1, 1) := by decide +kernel
theorem dL_fillings_5 : decode cL_fillings 5 = .ok (.iload_n 2, 1) := by decide +kernel
theorem dL_fillings_6 : decode cL_fillings 6 = .ok (.iload_n 3, 1) := by decide +kernel
theorem dL_fillings_7 : decode cL_fillings 7 = .ok (.invokevirtual 90, 3) := by decide +kernel
theorem dL_fillings_10 : decode cL_fillings 10 = .ok (.i2l, 1) := by decide +kernel
theorem dL_fillings_11 : decode cL_fillings 11 = .ok (.lastore, 1) := by decide +kernel
theorem dL_fillings_12 : decode cL_fillings 12 = .ok (.goto 7, 3) := by decide +kernel
theorem dL_fillings_15 : decode cL_fillings 15 = .ok (.astore 5, 2) := by decide +kernel
theorem dL_fillings_17 : decode cL_fillings 17 = .ok (.iconst 1, 1) := by decide +kernel
theorem dL_fillings_18 : decode cL_fillings 18 = .ok (.ireturn, 1) := by decide +kernel
theorem dL_fillings_19 : decode cL_fillings 19 = .ok (.iconst 0, 1) := by decide +kernel
theorem dL_fillings_20 : decode cL_fillings 20 = .ok (.ireturn, 1) := by decide +kernel
theorem dL_idle_0 : decode cL_idle 0 = .ok (.aload_n 2, 1) := by decide +kernel
theorem dL_idle_1 : decode cL_idle 1 = .ok (.iconst 0, 1) := by decide +kernel
theorem dL_idle_2 : decode cL_idle 2 = .ok (.aload_n 0, 1) := by decide +kernel
theorem dL_idle_3 : decode cL_idle 3 = .ok (.iload_n 1, 1) := by decide +kernel
theorem dL_idle_4 : decode cL_idle 4 = .ok (.invokevirtual 93, 3) := by decide +kernel
theorem dL_idle_7 : decode cL_idle 7 = .ok (.i2l, 1) := by decide +kernel
theorem dL_idle_8 : decode cL_idle 8 = .ok (.lastore, 1) := by decide +kernel
theorem dL_idle_9 : decode cL_idle 9 = .ok (.goto 6, 3) := by decide +kernel
theorem dL_idle_12 : decode cL_idle 12 = .ok (.astore_n 3, 1) := by decide +kernel
theorem dL_idle_13 : decode cL_idle 13 = .ok (.iconst 1, 1) := by decide +kernel
theorem dL_idle_14 : decode cL_idle 14 = .ok (.ireturn, 1) := by decide +kernel
theorem dL_idle_15 : decode cL_idle 15 = .ok (.iconst 0, 1) := by decide +kernel
theorem dL_idle_16 : decode cL_idle 16 = .ok (.ireturn, 1) := by decide +kernel
theorem dL_move_0 : decode cL_move 0 = .ok (.aload_n 2, 1) := by decide +kernel
theorem dL_move_1 : decode cL_move 1 = .ok (.iconst 0, 1) := by decide +kernel
theorem dL_move_2 : decode cL_move 2 = .ok (.aload_n 0, 1) := by decide +kernel
theorem dL_move_3 : decode cL_move 3 = .ok (.iload_n 1, 1) := by decide +kernel
theorem dL_move_4 : decode cL_move 4 = .ok (.invokevirtual 96, 3) := by decide +kernel
theorem dL_move_7 : decode cL_move 7 = .ok (.i2l, 1) := by decide +kernel
theorem dL_move_8 : decode cL_move 8 = .ok (.lastore, 1) := by decide +kernel
theorem dL_move_9 : decode cL_move 9 = .ok (.goto 6, 3) := by decide +kernel
theorem dL_move_12 : decode cL_move 12 = .ok (.astore_n 3, 1) := by decide +kernel
theorem dL_move_13 : decode cL_move 13 = .ok (.iconst 1, 1) := by decide +kernel
theorem dL_move_14 : decode cL_move 14 = .ok (.ireturn, 1) := by decide +kernel
theorem dL_move_15 : decode cL_move 15 = .ok (.iconst 0, 1) := by decide +kernel
theorem dL_move_16 : decode cL_move 16 = .ok (.ireturn, 1) := by decide +kernel
theorem dL_put_0 : decode cL_put 0 = .ok (.aload_n 3, 1) := by decide +kernel
theorem dL_put_1 : decode cL_put 1 = .ok (.iconst 0, 1) := by decide +kernel
theorem dL_put_2 : decode cL_put 2 = .ok (.aload_n 0, 1) := by decide +kernel
theorem dL_put_3 : decode cL_put 3 = .ok (.iload_n 1, 1) := by decide +kernel
theorem dL_put_4 : decode cL_put 4 = .ok (.iload_n 2, 1) := by decide +kernel
theorem dL_put_5 : decode cL_put 5 = .ok (.invokevirtual 99, 3) := by decide +kernel
theorem dL_put_8 : decode cL_put 8 = .ok (.i2l, 1) := by decide +kernel
theorem dL_put_9 : decode cL_put 9 = .ok (.lastore, 1) := by decide +kernel
theorem dL_put_10 : decode cL_put 10 = .ok (.goto 11, 3) := by decide +kernel
theorem dL_put_13 : decode cL_put 13 = .ok (.astore 4, 2) := by decide +kernel
theorem dL_put_15 : decode cL_put 15 = .ok (.iconst 1, 1) := by decide +kernel
theorem dL_put_16 : decode cL_put 16 = .ok (.ireturn, 1) := by decide +kernel
theorem dL_put_17 : decode cL_put 17 = .ok (.astore 4, 2) := by decide +kernel
theorem dL_put_19 : decode cL_put 19 = .ok (.iconst 2, 1) := by decide +kernel
theorem dL_put_20 : decode cL_put 20 = .ok (.ireturn, 1) := by decide +kernel
theorem dL_put_21 : decode cL_put 21 = .ok (.iconst 0, 1) := by decide +kernel
theorem dL_put_22 : decode cL_put 22 = .ok (.ireturn, 1) := by decide +kernel
theorem dL_setTurn_0 : decode cL_setTurn 0 = .ok (.aload_n 2, 1) := by decide +kernel
theorem dL_setTurn_1 : decode cL_setTurn 1 = .ok (.iconst 0, 1) := by decide +kernel
theorem dL_setTurn_2 : decode cL_setTurn 2 = .ok (.aload_n 0, 1) := by decide +kernel
theorem dL_setTurn_3 : decode cL_setTurn 3 = .ok (.iload_n 1, 1) := by decide +kernel
theorem dL_setTurn_4 : decode cL_setTurn 4 = .ok (.invokevirtual 102, 3) := by decide +kernel
theorem dL_setTurn_7 : decode cL_setTurn 7 = .ok (.i2l, 1) := by decide +kernel
theorem dL_setTurn_8 : decode cL_setTurn 8 = .ok (.lastore, 1) := by decide +kernel
theorem dL_setTurn_9 : decode cL_setTurn 9 = .ok (.goto 6, 3) := by decide +kernel
theorem dL_setTurn_12 : decode cL_setTurn 12 = .ok (.astore_n 3, 1) := by decide +kernel
theorem dL_setTurn_13 : decode cL_setTurn 13 = .ok (.iconst 1, 1) := by decide +kernel
theorem dL_setTurn_14 : decode cL_setTurn 14 = .ok (.ireturn, 1) := by decide +kernel
theorem dL_setTurn_15 : decode cL_setTurn 15 = .ok (.iconst 0, 1) := by decide +kernel
theorem dL_setTurn_16 : decode cL_setTurn 16 = .ok (.ireturn, 1) := by decide +kernel
theorem dL_playForced_0 : decode cL_playForced 0 = .ok (.aload_n 2, 1) := by decide +kernel
theorem dL_playForced_1 : decode cL_playForced 1 = .ok (.iconst 0, 1) := by decide +kernel
theorem dL_playForced_2 : decode cL_playForced 2 = .ok (.aload_n 0, 1) := by decide +kernel
theorem dL_playForced_3 : decode cL_playForced 3 = .ok (.iload_n 1, 1) := by decide +kernel
theorem dL_playForced_4 : decode cL_playForced 4 = .ok (.invokevirtual 105, 3) := by decide +kernel
theorem dL_playForced_7 : decode cL_playForced 7 = .ok (.i2l, 1) := by decide +kernel
theorem dL_playForced_8 : decode cL_playForced 8 = .ok (.lastore, 1) := by decide +kernel
theorem dL_playForced_9 : decode cL_playForced 9 = .ok (.goto 6, 3) := by decide +kernel
theorem dL_playForced_12 : decode cL_playForced 12 = .ok (.astore_n 3, 1) := by decide +kernel
theorem dL_playForced_13 : decode cL_playForced 13 = .ok (.iconst 1, 1) := by decide +kernel
theorem dL_playForced_14 : decode cL_playForced 14 = .ok (.ireturn, 1) := by decide +kernel
theorem dL_playForced_15 : decode cL_playForced 15 = .ok (.iconst 0, 1) := by decide +kernel
theorem dL_playForced_16 : decode cL_playForced 16 = .ok (.ireturn, 1) := by decide +kernel
theorem dL_writeRow_0 : decode cL_writeRow 0 = .ok (.aload_n 2, 1) := by decide +kernel
theorem dL_writeRow_1 : decode cL_writeRow 1 = .ok (.iconst 0, 1) := by decide +kernel
theorem dL_writeRow_2 : decode cL_writeRow 2 = .ok (.aload_n 0, 1) := by decide +kernel
theorem dL_writeRow_3 : decode cL_writeRow 3 = .ok (.iload_n 1, 1) := by decide +kernel
theorem dL_writeRow_4 : decode cL_writeRow 4 = .ok (.invokevirtual 108, 3) := by decide +kernel
theorem dL_writeRow_7 : decode cL_writeRow 7 = .ok (.i2l, 1) := by decide +kernel
theorem dL_writeRow_8 : decode cL_writeRow 8 = .ok (.lastore, 1) := by decide +kernel
theorem dL_writeRow_9 : decode cL_writeRow 9 = .ok (.goto 6, 3) := by decide +kernel
theorem dL_writeRow_12 : decode cL_writeRow 12 = .ok (.astore_n 3, 1) := by decide +kernel
theorem dL_writeRow_13 : decode cL_writeRow 13 = .ok (.iconst 1, 1) := by decide +kernel
theorem dL_writeRow_14 : decode cL_writeRow 14 = .ok (.ireturn, 1) := by decide +kernel
theorem dL_writeRow_15 : decode cL_writeRow 15 = .ok (.iconst 0, 1) := by decide +kernel
theorem dL_writeRow_16 : decode cL_writeRow 16 = .ok (.ireturn, 1) := by decide +kernel
theorem dL_writeCell_0 : decode cL_writeCell 0 = .ok (.aload_n 2, 1) := by decide +kernel
theorem dL_writeCell_1 : decode cL_writeCell 1 = .ok (.iconst 0, 1) := by decide +kernel
theorem dL_writeCell_2 : decode cL_writeCell 2 = .ok (.aload_n 0, 1) := by decide +kernel
theorem dL_writeCell_3 : decode cL_writeCell 3 = .ok (.iload_n 1, 1) := by decide +kernel
theorem dL_writeCell_4 : decode cL_writeCell 4 = .ok (.invokevirtual 111, 3) := by decide +kernel
theorem dL_writeCell_7 : decode cL_writeCell 7 = .ok (.i2l, 1) := by decide +kernel
theorem dL_writeCell_8 : decode cL_writeCell 8 = .ok (.lastore, 1) := by decide +kernel
theorem dL_writeCell_9 : decode cL_writeCell 9 = .ok (.goto 6, 3) := by decide +kernel
theorem dL_writeCell_12 : decode cL_writeCell 12 = .ok (.astore_n 3, 1) := by decide +kernel
theorem dL_writeCell_13 : decode cL_writeCell 13 = .ok (.iconst 1, 1) := by decide +kernel
theorem dL_writeCell_14 : decode cL_writeCell 14 = .ok (.ireturn, 1) := by decide +kernel
theorem dL_writeCell_15 : decode cL_writeCell 15 = .ok (.iconst 0, 1) := by decide +kernel
theorem dL_writeCell_16 : decode cL_writeCell 16 = .ok (.ireturn, 1) := by decide +kernel
theorem dL_saveSnapshot_0 : decode cL_saveSnapshot 0 = .ok (.aload_n 2, 1) := by decide +kernel
theorem dL_saveSnapshot_1 : decode cL_saveSnapshot 1 = .ok (.iconst 0, 1) := by decide +kernel
theorem dL_saveSnapshot_2 : decode cL_saveSnapshot 2 = .ok (.aload_n 0, 1) := by decide +kernel
theorem dL_saveSnapshot_3 : decode cL_saveSnapshot 3 = .ok (.iload_n 1, 1) := by decide +kernel
theorem dL_saveSnapshot_4 : decode cL_saveSnapshot 4 = .ok (.invokevirtual 114, 3) := by decide +kernel
theorem dL_saveSnapshot_7 : decode cL_saveSnapshot 7 = .ok (.i2l, 1) := by decide +kernel
theorem dL_saveSnapshot_8 : decode cL_saveSnapshot 8 = .ok (.lastore, 1) := by decide +kernel
theorem dL_saveSnapshot_9 : decode cL_saveSnapshot 9 = .ok (.goto 6, 3) := by decide +kernel
theorem dL_saveSnapshot_12 : decode cL_saveSnapshot 12 = .ok (.astore_n 3, 1) := by decide +kernel
theorem dL_saveSnapshot_13 : decode cL_saveSnapshot 13 = .ok (.iconst 1, 1) := by decide +kernel
theorem dL_saveSnapshot_14 : decode cL_saveSnapshot 14 = .ok (.ireturn, 1) := by decide +kernel
theorem dL_saveSnapshot_15 : decode cL_saveSnapshot 15 = .ok (.iconst 0, 1) := by decide +kernel
theorem dL_saveSnapshot_16 : decode cL_saveSnapshot 16 = .ok (.ireturn, 1) := by decide +kernel
theorem dL_restoreSnapshot_0 : decode cL_restoreSnapshot 0 = .ok (.aload_n 2, 1) := by decide +kernel
theorem dL_restoreSnapshot_1 : decode cL_restoreSnapshot 1 = .ok (.iconst 0, 1) := by decide +kernel
theorem dL_restoreSnapshot_2 : decode cL_restoreSnapshot 2 = .ok (.aload_n 0, 1) := by decide +kernel
theorem dL_restoreSnapshot_3 : decode cL_restoreSnapshot 3 = .ok (.iload_n 1, 1) := by decide +kernel
theorem dL_restoreSnapshot_4 : decode cL_restoreSnapshot 4 = .ok (.invokevirtual 117, 3) := by decide +kernel
theorem dL_restoreSnapshot_7 : decode cL_restoreSnapshot 7 = .ok (.i2l, 1) := by decide +kernel
theorem dL_restoreSnapshot_8 : decode cL_restoreSnapshot 8 = .ok (.lastore, 1) := by decide +kernel
theorem dL_restoreSnapshot_9 : decode cL_restoreSnapshot 9 = .ok (.goto 6, 3) := by decide +kernel
theorem dL_restoreSnapshot_12 : decode cL_restoreSnapshot 12 = .ok (.astore_n 3, 1) := by decide +kernel
theorem dL_restoreSnapshot_13 : decode cL_restoreSnapshot 13 = .ok (.iconst 1, 1) := by decide +kernel
theorem dL_restoreSnapshot_14 : decode cL_restoreSnapshot 14 = .ok (.ireturn, 1) := by decide +kernel
theorem dL_restoreSnapshot_15 : decode cL_restoreSnapshot 15 = .ok (.iconst 0, 1) := by decide +kernel
theorem dL_restoreSnapshot_16 : decode cL_restoreSnapshot 16 = .ok (.ireturn, 1) := by decide +kernel
theorem dL_law_0 : decode cL_law 0 = .ok (.new 8, 3) := by decide +kernel
theorem dL_law_3 : decode cL_law 3 = .ok (.dup, 1) := by decide +kernel
theorem dL_law_4 : decode cL_law 4 = .ok (.invokespecial 120, 3) := by decide +kernel
theorem dL_law_7 : decode cL_law 7 = .ok (.astore_n 1, 1) := by decide +kernel
theorem dL_law_8 : decode cL_law 8 = .ok (.new 121, 3) := by decide +kernel
theorem dL_law_11 : decode cL_law 11 = .ok (.dup, 1) := by decide +kernel
theorem dL_law_12 : decode cL_law 12 = .ok (.invokespecial 123, 3) := by decide +kernel
theorem dL_law_15 : decode cL_law 15 = .ok (.astore_n 2, 1) := by decide +kernel
theorem dL_law_16 : decode cL_law 16 = .ok (.iconst 1, 1) := by decide +kernel
theorem dL_law_17 : decode cL_law 17 = .ok (.newarray .long, 2) := by decide +kernel
theorem dL_law_19 : decode cL_law 19 = .ok (.astore_n 3, 1) := by decide +kernel
theorem dL_law_20 : decode cL_law 20 = .ok (.iconst 1, 1) := by decide +kernel
theorem dL_law_21 : decode cL_law 21 = .ok (.newarray .double, 2) := by decide +kernel
theorem dL_law_23 : decode cL_law 23 = .ok (.astore 4, 2) := by decide +kernel
theorem dL_law_25 : decode cL_law 25 = .ok (.iconst 0, 1) := by decide +kernel
theorem dL_law_26 : decode cL_law 26 = .ok (.istore 5, 2) := by decide +kernel
theorem dL_law_28 : decode cL_law 28 = .ok (.iload 5, 2) := by decide +kernel
theorem dL_law_30 : decode cL_law 30 = .ok (.aload_n 0, 1) := by decide +kernel
theorem dL_law_31 : decode cL_law 31 = .ok (.arraylength, 1) := by decide +kernel
theorem dL_law_32 : decode cL_law 32 = .ok (.iconst 4, 1) := by decide +kernel
theorem dL_law_33 : decode cL_law 33 = .ok (.isub, 1) := by decide +kernel
theorem dL_law_34 : decode cL_law 34 = .ok (.if_icmp .gt 2679, 3) := by decide +kernel
theorem dL_law_37 : decode cL_law 37 = .ok (.aload_n 0, 1) := by decide +kernel
theorem dL_law_38 : decode cL_law 38 = .ok (.iload 5, 2) := by decide +kernel
theorem dL_law_40 : decode cL_law 40 = .ok (.iaload, 1) := by decide +kernel
theorem dL_law_41 : decode cL_law 41 = .ok (.bipush 63, 2) := by decide +kernel
theorem dL_law_43 : decode cL_law 43 = .ok (.iand, 1) := by decide +kernel
theorem dL_law_44 : decode cL_law 44 = .ok (.tableswitch 2663 0 50 #[220, 277, 290, 303, 316, 372, 428, 496, 564, 620, 676, 751, 835, 915, 983, 1039, 1102, 1158, 1214, 1282, 1295, 1351, 1419, 1475, 1488, 1568, 1636, 1726, 1803, 1816, 1829, 1842, 1898, 1978, 2034, 2059, 2115, 2128, 2141, 2209, 2265, 2278, 2334, 2347, 2360, 2401, 2457, 2513, 2538, 2551, 2607], 220) := by decide +kernel
theorem dL_law_264 : decode cL_law 264 = .ok (.aload_n 1, 1) := by decide +kernel
theorem dL_law_265 : decode cL_law 265 = .ok (.aload_n 0, 1) := by decide +kernel
theorem dL_law_266 : decode cL_law 266 = .ok (.iload 5, 2) := by decide +kernel
theorem dL_law_268 : decode cL_law 268 = .ok (.iconst 1, 1) := by decide +kernel
theorem dL_law_269 : decode cL_law 269 = .ok (.iadd, 1) := by decide +kernel
theorem dL_law_270 : decode cL_law 270 = .ok (.iaload, 1) := by decide +kernel
theorem dL_law_271 : decode cL_law 271 = .ok (.i2l, 1) := by decide +kernel
theorem dL_law_272 : decode cL_law 272 = .ok (.bipush 32, 2) := by decide +kernel
theorem dL_law_274 : decode cL_law 274 = .ok (.lshl, 1) := by decide +kernel
theorem dL_law_275 : decode cL_law 275 = .ok (.aload_n 0, 1) := by decide +kernel
theorem dL_law_276 : decode cL_law 276 = .ok (.iload 5, 2) := by decide +kernel
theorem dL_law_278 : decode cL_law 278 = .ok (.iconst 2, 1) := by decide +kernel
theorem dL_law_279 : decode cL_law 279 = .ok (.iadd, 1) := by decide +kernel
theorem dL_law_280 : decode cL_law 280 = .ok (.iaload, 1) := by decide +kernel
theorem dL_law_281 : decode cL_law 281 = .ok (.i2l, 1) := by decide +kernel
theorem dL_law_282 : decode cL_law 282 = .ok (.ldc2_w 124, 3) := by decide +kernel
theorem dL_law_285 : decode cL_law 285 = .ok (.land, 1) := by decide +kernel
theorem dL_law_286 : decode cL_law 286 = .ok (.lor, 1) := by decide +kernel
theorem dL_law_287 : decode cL_law 287 = .ok (.invokevirtual 126, 3) := by decide +kernel
theorem dL_law_290 : decode cL_law 290 = .ok (.aload_n 2, 1) := by decide +kernel
theorem dL_law_291 : decode cL_law 291 = .ok (.aload_n 0, 1) := by decide +kernel
theorem dL_law_292 : decode cL_law 292 = .ok (.iload 5, 2) := by decide +kernel
theorem dL_law_294 : decode cL_law 294 = .ok (.iconst 1, 1) := by decide +kernel
theorem dL_law_295 : decode cL_law 295 = .ok (.iadd, 1) := by decide +kernel
theorem dL_law_296 : decode cL_law 296 = .ok (.iaload, 1) := by decide +kernel
theorem dL_law_297 : decode cL_law 297 = .ok (.i2l, 1) := by decide +kernel
theorem dL_law_298 : decode cL_law 298 = .ok (.bipush 32, 2) := by decide +kernel
theorem dL_law_300 : decode cL_law 300 = .ok (.lshl, 1) := by decide +kernel
theorem dL_law_301 : decode cL_law 301 = .ok (.aload_n 0, 1) := by decide +kernel
theorem dL_law_302 : decode cL_law 302 = .ok (.iload 5, 2) := by decide +kernel
theorem dL_law_304 : decode cL_law 304 = .ok (.iconst 2, 1) := by decide +kernel
theorem dL_law_305 : decode cL_law 305 = .ok (.iadd, 1) := by decide +kernel
theorem dL_law_306 : decode cL_law 306 = .ok (.iaload, 1) := by decide +kernel
theorem dL_law_307 : decode cL_law 307 = .ok (.i2l, 1) := by decide +kernel
theorem dL_law_308 : decode cL_law 308 = .ok (.ldc2_w 124, 3) := by decide +kernel
theorem dL_law_311 : decode cL_law 311 = .ok (.land, 1) := by decide +kernel
theorem dL_law_312 : decode cL_law 312 = .ok (.lor, 1) := by decide +kernel
theorem dL_law_313 : decode cL_law 313 = .ok (.invokevirtual 130, 3) := by decide +kernel
theorem dL_law_316 : decode cL_law 316 = .ok (.if_icmp .eq 2391, 3) := by decide +kernel
theorem dL_law_319 : decode cL_law 319 = .ok (.iconst 0, 1) := by decide +kernel
theorem dL_law_320 : decode cL_law 320 = .ok (.ireturn, 1) := by decide +kernel
theorem dL_law_321 : decode cL_law 321 = .ok (.aload_n 1, 1) := by decide +kernel
theorem dL_law_322 : decode cL_law 322 = .ok (.invokevirtual 131, 3) := by decide +kernel
theorem dL_law_325 : decode cL_law 325 = .ok (.aload_n 2, 1) := by decide +kernel
theorem dL_law_326 : decode cL_law 326 = .ok (.invokevirtual 135, 3) := by decide +kernel
theorem dL_law_329 : decode cL_law 329 = .ok (.if_icmp .eq 2378, 3) := by decide +kernel
theorem dL_law_332 : decode cL_law 332 = .ok (.iconst 0, 1) := by decide +kernel
theorem dL_law_333 : decode cL_law 333 = .ok (.ireturn, 1) := by decide +kernel
theorem dL_law_334 : decode cL_law 334 = .ok (.aload_n 1, 1) := by decide +kernel
theorem dL_law_335 : decode cL_law 335 = .ok (.invokevirtual 136, 3) := by decide +kernel
theorem dL_law_338 : decode cL_law 338 = .ok (.aload_n 2, 1) := by decide +kernel
theorem dL_law_339 : decode cL_law 339 = .ok (.invokevirtual 139, 3) := by decide +kernel
theorem dL_law_342 : decode cL_law 342 = .ok (.if_icmp .eq 2365, 3) := by decide +kernel
theorem dL_law_345 : decode cL_law 345 = .ok (.iconst 0, 1) := by decide +kernel
theorem dL_law_346 : decode cL_law 346 = .ok (.ireturn, 1) := by decide +kernel
theorem dL_law_347 : decode cL_law 347 = .ok (.aload_n 1, 1) := by decide +kernel
theorem dL_law_348 : decode cL_law 348 = .ok (.invokevirtual 140, 3) := by decide +kernel
theorem dL_law_351 : decode cL_law 351 = .ok (.aload_n 2, 1) := by decide +kernel
theorem dL_law_352 : decode cL_law 352 = .ok (.invokevirtual 143, 3) := by decide +kernel
theorem dL_law_355 : decode cL_law 355 = .ok (.if_icmp .eq 2352, 3) := by decide +kernel
theorem dL_law_358 : decode cL_law 358 = .ok (.iconst 0, 1) := by decide +kernel
theorem dL_law_359 : decode cL_law 359 = .ok (.ireturn, 1) := by decide +kernel
theorem dL_law_360 : decode cL_law 360 = .ok (.aload_n 1, 1) := by decide +kernel
theorem dL_law_361 : decode cL_law 361 = .ok (.aload_n 0, 1) := by decide +kernel
theorem dL_law_362 : decode cL_law 362 = .ok (.iload 5, 2) := by decide +kernel
theorem dL_law_364 : decode cL_law 364 = .ok (.iconst 1, 1) := by decide +kernel
theorem dL_law_365 : decode cL_law 365 = .ok (.iadd, 1) := by decide +kernel
theorem dL_law_366 : decode cL_law 366 = .ok (.iaload, 1) := by decide +kernel
theorem dL_law_367 : decode cL_law 367 = .ok (.aload_n 3, 1) := by decide +kernel
theorem dL_law_368 : decode cL_law 368 = .ok (.invokestatic 144, 3) := by decide +kernel
theorem dL_law_371 : decode cL_law 371 = .ok (.istore 6, 2) := by decide +kernel
theorem dL_law_373 : decode cL_law 373 = .ok (.aload_n 2, 1) := by decide +kernel
theorem dL_law_374 : decode cL_law 374 = .ok (.aload_n 0, 1) := by decide +kernel
theorem dL_law_375 : decode cL_law 375 = .ok (.iload 5, 2) := by decide +kernel
theorem dL_law_377 : decode cL_law 377 = .ok (.iconst 1, 1) := by decide +kernel
theorem dL_law_378 : decode cL_law 378 = .ok (.iadd, 1) := by decide +kernel
theorem dL_law_379 : decode cL_law 379 = .ok (.iaload, 1) := by decide +kernel
theorem dL_law_380 : decode cL_law 380 = .ok (.invokevirtual 149, 3) := by decide +kernel
theorem dL_law_383 : decode cL_law 383 = .ok (.istore 7, 2) := by decide +kernel
theorem dL_law_385 : decode cL_law 385 = .ok (.aload_n 2, 1) := by decide +kernel
theorem dL_law_386 : decode cL_law 386 = .ok (.invokevirtual 150, 3) := by decide +kernel
theorem dL_law_389 : decode cL_law 389 = .ok (.iload 6, 2) := by decide +kernel
theorem dL_law_391 : decode cL_law 391 = .ok (.if_icmp .eq 5, 3) := by decide +kernel
theorem dL_law_394 : decode cL_law 394 = .ok (.iconst 0, 1) := by decide +kernel
theorem dL_law_395 : decode cL_law 395 = .ok (.ireturn, 1) := by decide +kernel
theorem dL_law_396 : decode cL_law 396 = .ok (.iload 6, 2) := by decide +kernel
theorem dL_law_398 : decode cL_law 398 = .ok (.ifCond .ne 15, 3) := by decide +kernel
theorem dL_law_401 : decode cL_law 401 = .ok (.aload_n 3, 1) := by decide +kernel
theorem dL_law_402 : decode cL_law 402 = .ok (.iconst 0, 1) := by decide +kernel
theorem dL_law_403 : decode cL_law 403 = .ok (.laload, 1) := by decide +kernel
theorem dL_law_404 : decode cL_law 404 = .ok (.iload 7, 2) := by decide +kernel
theorem dL_law_406 : decode cL_law 406 = .ok (.i2l, 1) := by decide +kernel
theorem dL_law_407 : decode cL_law 407 = .ok (.lcmp, 1) := by decide +kernel
theorem dL_law_408 : decode cL_law 408 = .ok (.ifCond .eq 5, 3) := by decide +kernel
theorem dL_law_411 : decode cL_law 411 = .ok (.iconst 0, 1) := by decide +kernel
theorem dL_law_412 : decode cL_law 412 = .ok (.ireturn, 1) := by decide +kernel
theorem dL_law_413 : decode cL_law 413 = .ok (.goto 2294, 3) := by decide +kernel
theorem dL_law_416 : decode cL_law 416 = .ok (.aload_n 1, 1) := by decide +kernel
theorem dL_law_417 : decode cL_law 417 = .ok (.aload_n 0, 1) := by decide +kernel
theorem dL_law_418 : decode cL_law 418 = .ok (.iload 5, 2) := by decide +kernel
theorem dL_law_420 : decode cL_law 420 = .ok (.iconst 1, 1) := by decide +kernel
theorem dL_law_421 : decode cL_law 421 = .ok (.iadd, 1) := by decide +kernel
theorem dL_law_422 : decode cL_law 422 = .ok (.iaload, 1) := by decide +kernel
theorem dL_law_423 : decode cL_law 423 = .ok (.aload_n 3, 1) := by decide +kernel
theorem dL_law_424 : decode cL_law 424 = .ok (.invokestatic 153, 3) := by decide +kernel
theorem dL_law_427 : decode cL_law 427 = .ok (.istore 6, 2) := by decide +kernel
theorem dL_law_429 : decode cL_law 429 = .ok (.aload_n 2, 1) := by decide +kernel
theorem dL_law_430 : decode cL_law 430 = .ok (.aload_n 0, 1) := by decide +kernel
theorem dL_law_431 : decode cL_law 431 = .ok (.iload 5, 2) := by decide +kernel
theorem dL_law_433 : decode cL_law 433 = .ok (.iconst 1, 1) := by decide +kernel
theorem dL_law_434 : decode cL_law 434 = .ok (.iadd, 1) := by decide +kernel
theorem dL_law_435 : decode cL_law 435 = .ok (.iaload, 1) := by decide +kernel
theorem dL_law_436 : decode cL_law 436 = .ok (.invokevirtual 155, 3) := by decide +kernel
theorem dL_law_439 : decode cL_law 439 = .ok (.istore 7, 2) := by decide +kernel
theorem dL_law_441 : decode cL_law 441 = .ok (.aload_n 2, 1) := by decide +kernel
theorem dL_law_442 : decode cL_law 442 = .ok (.invokevirtual 150, 3) := by decide +kernel
theorem dL_law_445 : decode cL_law 445 = .ok (.iload 6, 2) := by decide +kernel
theorem dL_law_447 : decode cL_law 447 = .ok (.if_icmp .eq 5, 3) := by decide +kernel
theorem dL_law_450 : decode cL_law 450 = .ok (.iconst 0, 1) := by decide +kernel
theorem dL_law_451 : decode cL_law 451 = .ok (.ireturn, 1) := by decide +kernel
theorem dL_law_452 : decode cL_law 452 = .ok (.iload 6, 2) := by decide +kernel
theorem dL_law_454 : decode cL_law 454 = .ok (.ifCond .ne 15, 3) := by decide +kernel
theorem dL_law_457 : decode cL_law 457 = .ok (.aload_n 3, 1) := by decide +kernel
theorem dL_law_458 : decode cL_law 458 = .ok (.iconst 0, 1) := by decide +kernel
theorem dL_law_459 : decode cL_law 459 = .ok (.laload, 1) := by decide +kernel
theorem dL_law_460 : decode cL_law 460 = .ok (.iload 7, 2) := by decide +kernel
theorem dL_law_462 : decode cL_law 462 = .ok (.i2l, 1) := by decide +kernel
theorem dL_law_463 : decode cL_law 463 = .ok (.lcmp, 1) := by decide +kernel
theorem dL_law_464 : decode cL_law 464 = .ok (.ifCond .eq 5, 3) := by decide +kernel
theorem dL_law_467 : decode cL_law 467 = .ok (.iconst 0, 1) := by decide +kernel
theorem dL_law_468 : decode cL_law 468 = .ok (.ireturn, 1) := by decide +kernel
theorem dL_law_469 : decode cL_law 469 = .ok (.goto 2238, 3) := by decide +kernel
theorem dL_law_472 : decode cL_law 472 = .ok (.aload_n 1, 1) := by decide +kernel
theorem dL_law_473 : decode cL_law 473 = .ok (.aload_n 0, 1) := by decide +kernel
theorem dL_law_474 : decode cL_law 474 = .ok (.iload 5, 2) := by decide +kernel
theorem dL_law_476 : decode cL_law 476 = .ok (.iconst 1, 1) := by decide +kernel
theorem dL_law_477 : decode cL_law 477 = .ok (.iadd, 1) := by decide +kernel
theorem dL_law_478 : decode cL_law 478 = .ok (.iaload, 1) := by decide +kernel
theorem dL_law_479 : decode cL_law 479 = .ok (.aload_n 0, 1) := by decide +kernel
theorem dL_law_480 : decode cL_law 480 = .ok (.iload 5, 2) := by decide +kernel
theorem dL_law_482 : decode cL_law 482 = .ok (.iconst 2, 1) := by decide +kernel
theorem dL_law_483 : decode cL_law 483 = .ok (.iadd, 1) := by decide +kernel
theorem dL_law_484 : decode cL_law 484 = .ok (.iaload, 1) := by decide +kernel
theorem dL_law_485 : decode cL_law 485 = .ok (.aload_n 3, 1) := by decide +kernel
theorem dL_law_486 : decode cL_law 486 = .ok (.invokestatic 156, 3) := by decide +kernel
theorem dL_law_489 : decode cL_law 489 = .ok (.istore 6, 2) := by decide +kernel
theorem dL_law_491 : decode cL_law 491 = .ok (.aload_n 2, 1) := by decide +kernel
theorem dL_law_492 : decode cL_law 492 = .ok (.aload_n 0, 1) := by decide +kernel
theorem dL_law_493 : decode cL_law 493 = .ok (.iload 5, 2) := by decide +kernel
theorem dL_law_495 : decode cL_law 495 = .ok (.iconst 1, 1) := by decide +kernel
theorem dL_law_496 : decode cL_law 496 = .ok (.iadd, 1) := by decide +kernel
theorem dL_law_497 : decode cL_law 497 = .ok (.iaload, 1) := by decide +kernel
theorem dL_law_498 : decode cL_law 498 = .ok (.aload_n 0, 1) := by decide +kernel
theorem dL_law_499 : decode cL_law 499 = .ok (.iload 5, 2) := by decide +kernel
theorem dL_law_501 : decode cL_law 501 = .ok (.iconst 2, 1) := by decide +kernel
theorem dL_law_502 : decode cL_law 502 = .ok (.iadd, 1) := by decide +kernel
theorem dL_law_503 : decode cL_law 503 = .ok (.iaload, 1) := by decide +kernel
theorem dL_law_504 : decode cL_law 504 = .ok (.invokevirtual 159, 3) := by decide +kernel
theorem dL_law_507 : decode cL_law 507 = .ok (.istore 7, 2) := by decide +kernel
theorem dL_law_509 : decode cL_law 509 = .ok (.aload_n 2, 1) := by decide +kernel
theorem dL_law_510 : decode cL_law 510 = .ok (.invokevirtual 150, 3) := by decide +kernel
theorem dL_law_513 : decode cL_law 513 = .ok (.iload 6, 2) := by decide +kernel
theorem dL_law_515 : decode cL_law 515 = .ok (.if_icmp .eq 5, 3) := by decide +kernel
theorem dL_law_518 : decode cL_law 518 = .ok (.iconst 0, 1) := by decide +kernel
theorem dL_law_519 : decode cL_law 519 = .ok (.ireturn, 1) := by decide +kernel
theorem dL_law_520 : decode cL_law 520 = .ok (.iload 6, 2) := by decide +kernel
theorem dL_law_522 : decode cL_law 522 = .ok (.ifCond .ne 15, 3) := by decide +kernel
theorem dL_law_525 : decode cL_law 525 = .ok (.aload_n 3, 1) := by decide +kernel
theorem dL_law_526 : decode cL_law 526 = .ok (.iconst 0, 1) := by decide +kernel
theorem dL_law_527 : decode cL_law 527 = .ok (.laload, 1) := by decide +kernel
theorem dL_law_528 : decode cL_law 528 = .ok (.iload 7, 2) := by decide +kernel
theorem dL_law_530 : decode cL_law 530 = .ok (.i2l, 1) := by decide +kernel
theorem dL_law_531 : decode cL_law 531 = .ok (.lcmp, 1) := by decide +kernel
theorem dL_law_532 : decode cL_law 532 = .ok (.ifCond .eq 5, 3) := by decide +kernel
theorem dL_law_535 : decode cL_law 535 = .ok (.iconst 0, 1) := by decide +kernel
theorem dL_law_536 : decode cL_law 536 = .ok (.ireturn, 1) := by decide +kernel
theorem dL_law_537 : decode cL_law 537 = .ok (.goto 2170, 3) := by decide +kernel
theorem dL_law_540 : decode cL_law 540 = .ok (.aload_n 1, 1) := by decide +kernel
theorem dL_law_541 : decode cL_law 541 = .ok (.aload_n 0, 1) := by decide +kernel
theorem dL_law_542 : decode cL_law 542 = .ok (.iload 5, 2) := by decide +kernel
theorem dL_law_544 : decode cL_law 544 = .ok (.iconst 1, 1) := by decide +kernel
theorem dL_law_545 : decode cL_law 545 = .ok (.iadd, 1) := by decide +kernel
theorem dL_law_546 : decode cL_law 546 = .ok (.iaload, 1) := by decide +kernel
theorem dL_law_547 : decode cL_law 547 = .ok (.aload_n 0, 1) := by decide +kernel
theorem dL_law_548 : decode cL_law 548 = .ok (.iload 5, 2) := by decide +kernel
theorem dL_law_550 : decode cL_law 550 = .ok (.iconst 2, 1) := by decide +kernel
theorem dL_law_551 : decode cL_law 551 = .ok (.iadd, 1) := by decide +kernel
theorem dL_law_552 : decode cL_law 552 = .ok (.iaload, 1) := by decide +kernel
theorem dL_law_553 : decode cL_law 553 = .ok (.aload_n 3, 1) := by decide +kernel
theorem dL_law_554 : decode cL_law 554 = .ok (.invokestatic 160, 3) := by decide +kernel
theorem dL_law_557 : decode cL_law 557 = .ok (.istore 6, 2) := by decide +kernel
theorem dL_law_559 : decode cL_law 559 = .ok (.aload_n 2, 1) := by decide +kernel
theorem dL_law_560 : decode cL_law 560 = .ok (.aload_n 0, 1) := by decide +kernel
theorem dL_law_561 : decode cL_law 561 = .ok (.iload 5, 2) := by decide +kernel
theorem dL_law_563 : decode cL_law 563 = .ok (.iconst 1, 1) := by decide +kernel
theorem dL_law_564 : decode cL_law 564 = .ok (.iadd, 1) := by decide +kernel
theorem dL_law_565 : decode cL_law 565 = .ok (.iaload, 1) := by decide +kernel
theorem dL_law_566 : decode cL_law 566 = .ok (.aload_n 0, 1) := by decide +kernel
theorem dL_law_567 : decode cL_law 567 = .ok (.iload 5, 2) := by decide +kernel
theorem dL_law_569 : decode cL_law 569 = .ok (.iconst 2, 1) := by decide +kernel
theorem dL_law_570 : decode cL_law 570 = .ok (.iadd, 1) := by decide +kernel
theorem dL_law_571 : decode cL_law 571 = .ok (.iaload, 1) := by decide +kernel
theorem dL_law_572 : decode cL_law 572 = .ok (.invokevirtual 162, 3) := by decide +kernel
theorem dL_law_575 : decode cL_law 575 = .ok (.istore 7, 2) := by decide +kernel
theorem dL_law_577 : decode cL_law 577 = .ok (.aload_n 2, 1) := by decide +kernel
theorem dL_law_578 : decode cL_law 578 = .ok (.invokevirtual 150, 3) := by decide +kernel
theorem dL_law_581 : decode cL_law 581 = .ok (.iload 6, 2) := by decide +kernel
theorem dL_law_583 : decode cL_law 583 = .ok (.if_icmp .eq 5, 3) := by decide +kernel
theorem dL_law_586 : decode cL_law 586 = .ok (.iconst 0, 1) := by decide +kernel
theorem dL_law_587 : decode cL_law 587 = .ok (.ireturn, 1) := by decide +kernel
theorem dL_law_588 : decode cL_law 588 = .ok (.iload 6, 2) := by decide +kernel
theorem dL_law_590 : decode cL_law 590 = .ok (.ifCond .ne 15, 3) := by decide +kernel
theorem dL_law_593 : decode cL_law 593 = .ok (.aload_n 3, 1) := by decide +kernel
theorem dL_law_594 : decode cL_law 594 = .ok (.iconst 0, 1) := by decide +kernel
theorem dL_law_595 : decode cL_law 595 = .ok (.laload, 1) := by decide +kernel
theorem dL_law_596 : decode cL_law 596 = .ok (.iload 7, 2) := by decide +kernel
theorem dL_law_598 : decode cL_law 598 = .ok (.i2l, 1) := by decide +kernel
theorem dL_law_599 : decode cL_law 599 = .ok (.lcmp, 1) := by decide +kernel
theorem dL_law_600 : decode cL_law 600 = .ok (.ifCond .eq 5, 3) := by decide +kernel
theorem dL_law_603 : decode cL_law 603 = .ok (.iconst 0, 1) := by decide +kernel
theorem dL_law_604 : decode cL_law 604 = .ok (.ireturn, 1) := by decide +kernel
theorem dL_law_605 : decode cL_law 605 = .ok (.goto 2102, 3) := by decide +kernel
theorem dL_law_608 : decode cL_law 608 = .ok (.aload_n 1, 1) := by decide +kernel
theorem dL_law_609 : decode cL_law 609 = .ok (.aload_n 0, 1) := by decide +kernel
theorem dL_law_610 : decode cL_law 610 = .ok (.iload 5, 2) := by decide +kernel
theorem dL_law_612 : decode cL_law 612 = .ok (.iconst 1, 1) := by decide +kernel
theorem dL_law_613 : decode cL_law 613 = .ok (.iadd, 1) := by decide +kernel
theorem dL_law_614 : decode cL_law 614 = .ok (.iaload, 1) := by decide +kernel
theorem dL_law_615 : decode cL_law 615 = .ok (.aload_n 3, 1) := by decide +kernel
theorem dL_law_616 : decode cL_law 616 = .ok (.invokestatic 163, 3) := by decide +kernel
theorem dL_law_619 : decode cL_law 619 = .ok (.istore 6, 2) := by decide +kernel
theorem dL_law_621 : decode cL_law 621 = .ok (.aload_n 2, 1) := by decide +kernel
theorem dL_law_622 : decode cL_law 622 = .ok (.aload_n 0, 1) := by decide +kernel
theorem dL_law_623 : decode cL_law 623 = .ok (.iload 5, 2) := by decide +kernel
theorem dL_law_625 : decode cL_law 625 = .ok (.iconst 1, 1) := by decide +kernel
theorem dL_law_626 : decode cL_law 626 = .ok (.iadd, 1) := by decide +kernel
theorem dL_law_627 : decode cL_law 627 = .ok (.iaload, 1) := by decide +kernel
theorem dL_law_628 : decode cL_law 628 = .ok (.invokevirtual 165, 3) := by decide +kernel
theorem dL_law_631 : decode cL_law 631 = .ok (.istore 7, 2) := by decide +kernel
theorem dL_law_633 : decode cL_law 633 = .ok (.aload_n 2, 1) := by decide +kernel
theorem dL_law_634 : decode cL_law 634 = .ok (.invokevirtual 150, 3) := by decide +kernel
theorem dL_law_637 : decode cL_law 637 = .ok (.iload 6, 2) := by decide +kernel
theorem dL_law_639 : decode cL_law 639 = .ok (.if_icmp .eq 5, 3) := by decide +kernel
theorem dL_law_642 : decode cL_law 642 = .ok (.iconst 0, 1) := by decide +kernel
theorem dL_law_643 : decode cL_law 643 = .ok (.ireturn, 1) := by decide +kernel
theorem dL_law_644 : decode cL_law 644 = .ok (.iload 6, 2) := by decide +kernel
theorem dL_law_646 : decode cL_law 646 = .ok (.ifCond .ne 15, 3) := by decide +kernel
theorem dL_law_649 : decode cL_law 649 = .ok (.aload_n 3, 1) := by decide +kernel
theorem dL_law_650 : decode cL_law 650 = .ok (.iconst 0, 1) := by decide +kernel
theorem dL_law_651 : decode cL_law 651 = .ok (.laload, 1) := by decide +kernel
theorem dL_law_652 : decode cL_law 652 = .ok (.iload 7, 2) := by decide +kernel
theorem dL_law_654 : decode cL_law 654 = .ok (.i2l, 1) := by decide +kernel
theorem dL_law_655 : decode cL_law 655 = .ok (.lcmp, 1) := by decide +kernel
theorem dL_law_656 : decode cL_law 656 = .ok (.ifCond .eq 5, 3) := by decide +kernel
theorem dL_law_659 : decode cL_law 659 = .ok (.iconst 0, 1) := by decide +kernel
theorem dL_law_660 : decode cL_law 660 = .ok (.ireturn, 1) := by decide +kernel
theorem dL_law_661 : decode cL_law 661 = .ok (.goto 2046, 3) := by decide +kernel
theorem dL_law_664 : decode cL_law 664 = .ok (.aload_n 1, 1) := by decide +kernel
theorem dL_law_665 : decode cL_law 665 = .ok (.aload_n 0, 1) := by decide +kernel
theorem dL_law_666 : decode cL_law 666 = .ok (.iload 5, 2) := by decide +kernel
theorem dL_law_668 : decode cL_law 668 = .ok (.iconst 1, 1) := by decide +kernel
theorem dL_law_669 : decode cL_law 669 = .ok (.iadd, 1) := by decide +kernel
theorem dL_law_670 : decode cL_law 670 = .ok (.iaload, 1) := by decide +kernel
theorem dL_law_671 : decode cL_law 671 = .ok (.aload_n 3, 1) := by decide +kernel
theorem dL_law_672 : decode cL_law 672 = .ok (.invokestatic 166, 3) := by decide +kernel
theorem dL_law_675 : decode cL_law 675 = .ok (.istore 6, 2) := by decide +kernel
theorem dL_law_677 : decode cL_law 677 = .ok (.aload_n 2, 1) := by decide +kernel
theorem dL_law_678 : decode cL_law 678 = .ok (.aload_n 0, 1) := by decide +kernel
theorem dL_law_679 : decode cL_law 679 = .ok (.iload 5, 2) := by decide +kernel
theorem dL_law_681 : decode cL_law 681 = .ok (.iconst 1, 1) := by decide +kernel
theorem dL_law_682 : decode cL_law 682 = .ok (.iadd, 1) := by decide +kernel
theorem dL_law_683 : decode cL_law 683 = .ok (.iaload, 1) := by decide +kernel
theorem dL_law_684 : decode cL_law 684 = .ok (.invokevirtual 168, 3) := by decide +kernel
theorem dL_law_687 : decode cL_law 687 = .ok (.istore 7, 2) := by decide +kernel
theorem dL_law_689 : decode cL_law 689 = .ok (.aload_n 2, 1) := by decide +kernel
theorem dL_law_690 : decode cL_law 690 = .ok (.invokevirtual 150, 3) := by decide +kernel
theorem dL_law_693 : decode cL_law 693 = .ok (.iload 6, 2) := by decide +kernel
theorem dL_law_695 : decode cL_law 695 = .ok (.if_icmp .eq 5, 3) := by decide +kernel
theorem dL_law_698 : decode cL_law 698 = .ok (.iconst 0, 1) := by decide +kernel
theorem dL_law_699 : decode cL_law 699 = .ok (.ireturn, 1) := by decide +kernel
theorem dL_law_700 : decode cL_law 700 = .ok (.iload 6, 2) := by decide +kernel
theorem dL_law_702 : decode cL_law 702 = .ok (.ifCond .ne 15, 3) := by decide +kernel
theorem dL_law_705 : decode cL_law 705 = .ok (.aload_n 3, 1) := by decide +kernel
theorem dL_law_706 : decode cL_law 706 = .ok (.iconst 0, 1) := by decide +kernel
theorem dL_law_707 : decode cL_law 707 = .ok (.laload, 1) := by decide +kernel
theorem dL_law_708 : decode cL_law 708 = .ok (.iload 7, 2) := by decide +kernel
theorem dL_law_710 : decode cL_law 710 = .ok (.i2l, 1) := by decide +kernel
theorem dL_law_711 : decode cL_law 711 = .ok (.lcmp, 1) := by decide +kernel
theorem dL_law_712 : decode cL_law 712 = .ok (.ifCond .eq 5, 3) := by decide +kernel
theorem dL_law_715 : decode cL_law 715 = .ok (.iconst 0, 1) := by decide +kernel
theorem dL_law_716 : decode cL_law 716 = .ok (.ireturn, 1) := by decide +kernel
theorem dL_law_717 : decode cL_law 717 = .ok (.goto 1990, 3) := by decide +kernel
theorem dL_law_720 : decode cL_law 720 = .ok (.aload_n 1, 1) := by decide +kernel
theorem dL_law_721 : decode cL_law 721 = .ok (.aload_n 0, 1) := by decide +kernel
theorem dL_law_722 : decode cL_law 722 = .ok (.iload 5, 2) := by decide +kernel
theorem dL_law_724 : decode cL_law 724 = .ok (.iconst 1, 1) := by decide +kernel
theorem dL_law_725 : decode cL_law 725 = .ok (.iadd, 1) := by decide +kernel
theorem dL_law_726 : decode cL_law 726 = .ok (.iaload, 1) := by decide +kernel
theorem dL_law_727 : decode cL_law 727 = .ok (.aload_n 0, 1) := by decide +kernel
theorem dL_law_728 : decode cL_law 728 = .ok (.iload 5, 2) := by decide +kernel
theorem dL_law_730 : decode cL_law 730 = .ok (.iconst 2, 1) := by decide +kernel
theorem dL_law_731 : decode cL_law 731 = .ok (.iadd, 1) := by decide +kernel
theorem dL_law_732 : decode cL_law 732 = .ok (.iaload, 1) := by decide +kernel
theorem dL_law_733 : decode cL_law 733 = .ok (.aload_n 3, 1) := by decide +kernel
theorem dL_law_734 : decode cL_law 734 = .ok (.invokestatic 169, 3) := by decide +kernel
theorem dL_law_737 : decode cL_law 737 = .ok (.istore 6, 2) := by decide +kernel
theorem dL_law_739 : decode cL_law 739 = .ok (.aload_n 2, 1) := by decide +kernel
theorem dL_law_740 : decode cL_law 740 = .ok (.aload_n 0, 1) := by decide +kernel
theorem dL_law_741 : decode cL_law 741 = .ok (.iload 5, 2) := by decide +kernel
theorem dL_law_743 : decode cL_law 743 = .ok (.iconst 1, 1) := by decide +kernel
theorem dL_law_744 : decode cL_law 744 = .ok (.iadd, 1) := by decide +kernel
theorem dL_law_745 : decode cL_law 745 = .ok (.iaload, 1) := by decide +kernel
theorem dL_law_746 : decode cL_law 746 = .ok (.aload_n 0, 1) := by decide +kernel
theorem dL_law_747 : decode cL_law 747 = .ok (.iload 5, 2) := by decide +kernel
theorem dL_law_749 : decode cL_law 749 = .ok (.iconst 2, 1) := by decide +kernel
theorem dL_law_750 : decode cL_law 750 = .ok (.iadd, 1) := by decide +kernel
theorem dL_law_751 : decode cL_law 751 = .ok (.iaload, 1) := by decide +kernel
theorem dL_law_752 : decode cL_law 752 = .ok (.invokevirtual 171, 3) := by decide +kernel
theorem dL_law_755 : decode cL_law 755 = .ok (.istore 7, 2) := by decide +kernel
theorem dL_law_757 : decode cL_law 757 = .ok (.aload_n 2, 1) := by decide +kernel
theorem dL_law_758 : decode cL_law 758 = .ok (.invokevirtual 150, 3) := by decide +kernel
theorem dL_law_761 : decode cL_law 761 = .ok (.iload 6, 2) := by decide +kernel
theorem dL_law_763 : decode cL_law 763 = .ok (.if_icmp .eq 5, 3) := by decide +kernel
theorem dL_law_766 : decode cL_law 766 = .ok (.iconst 0, 1) := by decide +kernel
theorem dL_law_767 : decode cL_law 767 = .ok (.ireturn, 1) := by decide +kernel
theorem dL_law_768 : decode cL_law 768 = .ok (.iload 6, 2) := by decide +kernel
theorem dL_law_770 : decode cL_law 770 = .ok (.ifCond .ne 22, 3) := by decide +kernel
theorem dL_law_773 : decode cL_law 773 = .ok (.aload_n 3, 1) := by decide +kernel
theorem dL_law_774 : decode cL_law 774 = .ok (.iconst 0, 1) := by decide +kernel
theorem dL_law_775 : decode cL_law 775 = .ok (.laload, 1) := by decide +kernel
theorem dL_law_776 : decode cL_law 776 = .ok (.iload 7, 2) := by decide +kernel
theorem dL_law_778 : decode cL_law 778 = .ok (.ifCond .eq 7, 3) := by decide +kernel
theorem dL_law_781 : decode cL_law 781 = .ok (.lconst 1, 1) := by decide +kernel
theorem dL_law_782 : decode cL_law 782 = .ok (.goto 4, 3) := by decide +kernel
theorem dL_law_785 : decode cL_law 785 = .ok (.lconst 0, 1) := by decide +kernel
theorem dL_law_786 : decode cL_law 786 = .ok (.lcmp, 1) := by decide +kernel
theorem dL_law_787 : decode cL_law 787 = .ok (.ifCond .eq 5, 3) := by decide +kernel
theorem dL_law_790 : decode cL_law 790 = .ok (.iconst 0, 1) := by decide +kernel
theorem dL_law_791 : decode cL_law 791 = .ok (.ireturn, 1) := by decide +kernel
theorem dL_law_792 : decode cL_law 792 = .ok (.goto 1915, 3) := by decide +kernel
theorem dL_law_795 : decode cL_law 795 = .ok (.aload_n 1, 1) := by decide +kernel
theorem dL_law_796 : decode cL_law 796 = .ok (.aload_n 0, 1) := by decide +kernel
theorem dL_law_797 : decode cL_law 797 = .ok (.iload 5, 2) := by decide +kernel
theorem dL_law_799 : decode cL_law 799 = .ok (.iconst 1, 1) := by decide +kernel
theorem dL_law_800 : decode cL_law 800 = .ok (.iadd, 1) := by decide +kernel
theorem dL_law_801 : decode cL_law 801 = .ok (.iaload, 1) := by decide +kernel
theorem dL_law_802 : decode cL_law 802 = .ok (.aload_n 0, 1) := by decide +kernel
theorem dL_law_803 : decode cL_law 803 = .ok (.iload 5, 2) := by decide +kernel
theorem dL_law_805 : decode cL_law 805 = .ok (.iconst 2, 1) := by decide +kernel
theorem dL_law_806 : decode cL_law 806 = .ok (.iadd, 1) := by decide +kernel
theorem dL_law_807 : decode cL_law 807 = .ok (.iaload, 1) := by decide +kernel
theorem dL_law_808 : decode cL_law 808 = .ok (.ifCond .eq 7, 3) := by decide +kernel
theorem dL_law_811 : decode cL_law 811 = .ok (.iconst 1, 1) := by decide +kernel
theorem dL_law_812 : decode cL_law 812 = .ok (.goto 4, 3) := by decide +kernel
theorem dL_law_815 : decode cL_law 815 = .ok (.iconst 0, 1) := by decide +kernel
theorem dL_law_816 : decode cL_law 816 = .ok (.aload_n 3, 1) := by decide +kernel
theorem dL_law_817 : decode cL_law 817 = .ok (.invokestatic 172, 3) := by decide +kernel
theorem dL_law_820 : decode cL_law 820 = .ok (.istore 6, 2) := by decide +kernel
theorem dL_law_822 : decode cL_law 822 = .ok (.aload_n 2, 1) := by decide +kernel
theorem dL_law_823 : decode cL_law 823 = .ok (.aload_n 0, 1) := by decide +kernel
theorem dL_law_824 : decode cL_law 824 = .ok (.iload 5, 2) := by decide +kernel
theorem dL_law_826 : decode cL_law 826 = .ok (.iconst 1, 1) := by decide +kernel
theorem dL_law_827 : decode cL_law 827 = .ok (.iadd, 1) := by decide +kernel
theorem dL_law_828 : decode cL_law 828 = .ok (.iaload, 1) := by decide +kernel
theorem dL_law_829 : decode cL_law 829 = .ok (.aload_n 0, 1) := by decide +kernel
theorem dL_law_830 : decode cL_law 830 = .ok (.iload 5, 2) := by decide +kernel
theorem dL_law_832 : decode cL_law 832 = .ok (.iconst 2, 1) := by decide +kernel
theorem dL_law_833 : decode cL_law 833 = .ok (.iadd, 1) := by decide +kernel
theorem dL_law_834 : decode cL_law 834 = .ok (.iaload, 1) := by decide +kernel
theorem dL_law_835 : decode cL_law 835 = .ok (.ifCond .eq 7, 3) := by decide +kernel
theorem dL_law_838 : decode cL_law 838 = .ok (.iconst 1, 1) := by decide +kernel
theorem dL_law_839 : decode cL_law 839 = .ok (.goto 4, 3) := by decide +kernel
theorem dL_law_842 : decode cL_law 842 = .ok (.iconst 0, 1) := by decide +kernel
theorem dL_law_843 : decode cL_law 843 = .ok (.invokevirtual 175, 3) := by decide +kernel
theorem dL_law_846 : decode cL_law 846 = .ok (.istore 7, 2) := by decide +kernel
theorem dL_law_848 : decode cL_law 848 = .ok (.aload_n 2, 1) := by decide +kernel
theorem dL_law_849 : decode cL_law 849 = .ok (.invokevirtual 150, 3) := by decide +kernel
theorem dL_law_852 : decode cL_law 852 = .ok (.iload 6, 2) := by decide +kernel
theorem dL_law_854 : decode cL_law 854 = .ok (.if_icmp .eq 5, 3) := by decide +kernel
theorem dL_law_857 : decode cL_law 857 = .ok (.iconst 0, 1) := by decide +kernel
theorem dL_law_858 : decode cL_law 858 = .ok (.ireturn, 1) := by decide +kernel
theorem dL_law_859 : decode cL_law 859 = .ok (.iload 6, 2) := by decide +kernel
theorem dL_law_861 : decode cL_law 861 = .ok (.ifCond .ne 15, 3) := by decide +kernel
theorem dL_law_864 : decode cL_law 864 = .ok (.aload_n 3, 1) := by decide +kernel
theorem dL_law_865 : decode cL_law 865 = .ok (.iconst 0, 1) := by decide +kernel
theorem dL_law_866 : decode cL_law 866 = .ok (.laload, 1) := by decide +kernel
theorem dL_law_867 : decode cL_law 867 = .ok (.iload 7, 2) := by decide +kernel
theorem dL_law_869 : decode cL_law 869 = .ok (.i2l, 1) := by decide +kernel
theorem dL_law_870 : decode cL_law 870 = .ok (.lcmp, 1) := by decide +kernel
theorem dL_law_871 : decode cL_law 871 = .ok (.ifCond .eq 5, 3) := by decide +kernel
theorem dL_law_874 : decode cL_law 874 = .ok (.iconst 0, 1) := by decide +kernel
theorem dL_law_875 : decode cL_law 875 = .ok (.ireturn, 1) := by decide +kernel
theorem dL_law_876 : decode cL_law 876 = .ok (.goto 1831, 3) := by decide +kernel
theorem dL_law_879 : decode cL_law 879 = .ok (.aload_n 1, 1) := by decide +kernel
theorem dL_law_880 : decode cL_law 880 = .ok (.aload_n 0, 1) := by decide +kernel
theorem dL_law_881 : decode cL_law 881 = .ok (.iload 5, 2) := by decide +kernel
theorem dL_law_883 : decode cL_law 883 = .ok (.iconst 1, 1) := by decide +kernel
theorem dL_law_884 : decode cL_law 884 = .ok (.iadd, 1) := by decide +kernel
theorem dL_law_885 : decode cL_law 885 = .ok (.iaload, 1) := by decide +kernel
theorem dL_law_886 : decode cL_law 886 = .ok (.aload_n 0, 1) := by decide +kernel
theorem dL_law_887 : decode cL_law 887 = .ok (.iload 5, 2) := by decide +kernel
theorem dL_law_889 : decode cL_law 889 = .ok (.iconst 2, 1) := by decide +kernel
theorem dL_law_890 : decode cL_law 890 = .ok (.iadd, 1) := by decide +kernel
theorem dL_law_891 : decode cL_law 891 = .ok (.iaload, 1) := by decide +kernel
theorem dL_law_892 : decode cL_law 892 = .ok (.aload_n 0, 1) := by decide +kernel
theorem dL_law_893 : decode cL_law 893 = .ok (.iload 5, 2) := by decide +kernel
theorem dL_law_895 : decode cL_law 895 = .ok (.iconst 3, 1) := by decide +kernel
theorem dL_law_896 : decode cL_law 896 = .ok (.iadd, 1) := by decide +kernel
theorem dL_law_897 : decode cL_law 897 = .ok (.iaload, 1) := by decide +kernel
theorem dL_law_898 : decode cL_law 898 = .ok (.aload_n 3, 1) := by decide +kernel
theorem dL_law_899 : decode cL_law 899 = .ok (.invokestatic 176, 3) := by decide +kernel
theorem dL_law_902 : decode cL_law 902 = .ok (.istore 6, 2) := by decide +kernel
theorem dL_law_904 : decode cL_law 904 = .ok (.aload_n 2, 1) := by decide +kernel
theorem dL_law_905 : decode cL_law 905 = .ok (.aload_n 0, 1) := by decide +kernel
theorem dL_law_906 : decode cL_law 906 = .ok (.iload 5, 2) := by decide +kernel
theorem dL_law_908 : decode cL_law 908 = .ok (.iconst 1, 1) := by decide +kernel
theorem dL_law_909 : decode cL_law 909 = .ok (.iadd, 1) := by decide +kernel
theorem dL_law_910 : decode cL_law 910 = .ok (.iaload, 1) := by decide +kernel
theorem dL_law_911 : decode cL_law 911 = .ok (.aload_n 0, 1) := by decide +kernel
theorem dL_law_912 : decode cL_law 912 = .ok (.iload 5, 2) := by decide +kernel
theorem dL_law_914 : decode cL_law 914 = .ok (.iconst 2, 1) := by decide +kernel
theorem dL_law_915 : decode cL_law 915 = .ok (.iadd, 1) := by decide +kernel
theorem dL_law_916 : decode cL_law 916 = .ok (.iaload, 1) := by decide +kernel
theorem dL_law_917 : decode cL_law 917 = .ok (.aload_n 0, 1) := by decide +kernel
theorem dL_law_918 : decode cL_law 918 = .ok (.iload 5, 2) := by decide +kernel
theorem dL_law_920 : decode cL_law 920 = .ok (.iconst 3, 1) := by decide +kernel
theorem dL_law_921 : decode cL_law 921 = .ok (.iadd, 1) := by decide +kernel
theorem dL_law_922 : decode cL_law 922 = .ok (.iaload, 1) := by decide +kernel
theorem dL_law_923 : decode cL_law 923 = .ok (.invokevirtual 179, 3) := by decide +kernel
theorem dL_law_926 : decode cL_law 926 = .ok (.istore 7, 2) := by decide +kernel
theorem dL_law_928 : decode cL_law 928 = .ok (.aload_n 2, 1) := by decide +kernel
theorem dL_law_929 : decode cL_law 929 = .ok (.invokevirtual 150, 3) := by decide +kernel
theorem dL_law_932 : decode cL_law 932 = .ok (.iload 6, 2) := by decide +kernel
theorem dL_law_934 : decode cL_law 934 = .ok (.if_icmp .eq 5, 3) := by decide +kernel
theorem dL_law_937 : decode cL_law 937 = .ok (.iconst 0, 1) := by decide +kernel
theorem dL_law_938 : decode cL_law 938 = .ok (.ireturn, 1) := by decide +kernel
theorem dL_law_939 : decode cL_law 939 = .ok (.iload 6, 2) := by decide +kernel
theorem dL_law_941 : decode cL_law 941 = .ok (.ifCond .ne 15, 3) := by decide +kernel
theorem dL_law_944 : decode cL_law 944 = .ok (.aload_n 3, 1) := by decide +kernel
theorem dL_law_945 : decode cL_law 945 = .ok (.iconst 0, 1) := by decide +kernel
theorem dL_law_946 : decode cL_law 946 = .ok (.laload, 1) := by decide +kernel
theorem dL_law_947 : decode cL_law 947 = .ok (.iload 7, 2) := by decide +kernel
theorem dL_law_949 : decode cL_law 949 = .ok (.i2l, 1) := by decide +kernel
theorem dL_law_950 : decode cL_law 950 = .ok (.lcmp, 1) := by decide +kernel
theorem dL_law_951 : decode cL_law 951 = .ok (.ifCond .eq 5, 3) := by decide +kernel
theorem dL_law_954 : decode cL_law 954 = .ok (.iconst 0, 1) := by decide +kernel
theorem dL_law_955 : decode cL_law 955 = .ok (.ireturn, 1) := by decide +kernel
theorem dL_law_956 : decode cL_law 956 = .ok (.goto 1751, 3) := by decide +kernel
theorem dL_law_959 : decode cL_law 959 = .ok (.aload_n 1, 1) := by decide +kernel
theorem dL_law_960 : decode cL_law 960 = .ok (.aload_n 0, 1) := by decide +kernel
theorem dL_law_961 : decode cL_law 961 = .ok (.iload 5, 2) := by decide +kernel
theorem dL_law_963 : decode cL_law 963 = .ok (.iconst 1, 1) := by decide +kernel
theorem dL_law_964 : decode cL_law 964 = .ok (.iadd, 1) := by decide +kernel
theorem dL_law_965 : decode cL_law 965 = .ok (.iaload, 1) := by decide +kernel
theorem dL_law_966 : decode cL_law 966 = .ok (.aload_n 0, 1) := by decide +kernel
theorem dL_law_967 : decode cL_law 967 = .ok (.iload 5, 2) := by decide +kernel
theorem dL_law_969 : decode cL_law 969 = .ok (.iconst 2, 1) := by decide +kernel
theorem dL_law_970 : decode cL_law 970 = .ok (.iadd, 1) := by decide +kernel
theorem dL_law_971 : decode cL_law 971 = .ok (.iaload, 1) := by decide +kernel
theorem dL_law_972 : decode cL_law 972 = .ok (.aload_n 3, 1) := by decide +kernel
theorem dL_law_973 : decode cL_law 973 = .ok (.invokestatic 180, 3) := by decide +kernel
theorem dL_law_976 : decode cL_law 976 = .ok (.istore 6, 2) := by decide +kernel
theorem dL_law_978 : decode cL_law 978 = .ok (.aload_n 2, 1) := by decide +kernel
theorem dL_law_979 : decode cL_law 979 = .ok (.aload_n 0, 1) := by decide +kernel
theorem dL_law_980 : decode cL_law 980 = .ok (.iload 5, 2) := by decide +kernel
theorem dL_law_982 : decode cL_law 982 = .ok (.iconst 1, 1) := by decide +kernel
theorem dL_law_983 : decode cL_law 983 = .ok (.iadd, 1) := by decide +kernel
theorem dL_law_984 : decode cL_law 984 = .ok (.iaload, 1) := by decide +kernel
theorem dL_law_985 : decode cL_law 985 = .ok (.aload_n 0, 1) := by decide +kernel
theorem dL_law_986 : decode cL_law 986 = .ok (.iload 5, 2) := by decide +kernel
theorem dL_law_988 : decode cL_law 988 = .ok (.iconst 2, 1) := by decide +kernel
theorem dL_law_989 : decode cL_law 989 = .ok (.iadd, 1) := by decide +kernel
theorem dL_law_990 : decode cL_law 990 = .ok (.iaload, 1) := by decide +kernel
theorem dL_law_991 : decode cL_law 991 = .ok (.invokevirtual 182, 3) := by decide +kernel
theorem dL_law_994 : decode cL_law 994 = .ok (.istore 7, 2) := by decide +kernel
theorem dL_law_996 : decode cL_law 996 = .ok (.aload_n 2, 1) := by decide +kernel
theorem dL_law_997 : decode cL_law 997 = .ok (.invokevirtual 150, 3) := by decide +kernel
theorem dL_law_1000 : decode cL_law 1000 = .ok (.iload 6, 2) := by decide +kernel
theorem dL_law_1002 : decode cL_law 1002 = .ok (.if_icmp .eq 5, 3) := by decide +kernel
theorem dL_law_1005 : decode cL_law 1005 = .ok (.iconst 0, 1) := by decide +kernel
theorem dL_law_1006 : decode cL_law 1006 = .ok (.ireturn, 1) := by decide +kernel
theorem dL_law_1007 : decode cL_law 1007 = .ok (.iload 6, 2) := by decide +kernel
theorem dL_law_1009 : decode cL_law 1009 = .ok (.ifCond .ne 15, 3) := by decide +kernel
theorem dL_law_1012 : decode cL_law 1012 = .ok (.aload_n 3, 1) := by decide +kernel
theorem dL_law_1013 : decode cL_law 1013 = .ok (.iconst 0, 1) := by decide +kernel
theorem dL_law_1014 : decode cL_law 1014 = .ok (.laload, 1) := by decide +kernel
theorem dL_law_1015 : decode cL_law 1015 = .ok (.iload 7, 2) := by decide +kernel
theorem dL_law_1017 : decode cL_law 1017 = .ok (.i2l, 1) := by decide +kernel
theorem dL_law_1018 : decode cL_law 1018 = .ok (.lcmp, 1) := by decide +kernel
theorem dL_law_1019 : decode cL_law 1019 = .ok (.ifCond .eq 5, 3) := by decide +kernel
theorem dL_law_1022 : decode cL_law 1022 = .ok (.iconst 0, 1) := by decide +kernel
theorem dL_law_1023 : decode cL_law 1023 = .ok (.ireturn, 1) := by decide +kernel
theorem dL_law_1024 : decode cL_law 1024 = .ok (.goto 1683, 3) := by decide +kernel
theorem dL_law_1027 : decode cL_law 1027 = .ok (.aload_n 1, 1) := by decide +kernel
theorem dL_law_1028 : decode cL_law 1028 = .ok (.aload_n 0, 1) := by decide +kernel
theorem dL_law_1029 : decode cL_law 1029 = .ok (.iload 5, 2) := by decide +kernel
theorem dL_law_1031 : decode cL_law 1031 = .ok (.iconst 1, 1) := by decide +kernel
theorem dL_law_1032 : decode cL_law 1032 = .ok (.iadd, 1) := by decide +kernel
theorem dL_law_1033 : decode cL_law 1033 = .ok (.iaload, 1) := by decide +kernel
theorem dL_law_1034 : decode cL_law 1034 = .ok (.aload_n 3, 1) := by decide +kernel
theorem dL_law_1035 : decode cL_law 1035 = .ok (.invokestatic 183, 3) := by decide +kernel
theorem dL_law_1038 : decode cL_law 1038 = .ok (.istore 6, 2) := by decide +kernel
theorem dL_law_1040 : decode cL_law 1040 = .ok (.aload_n 2, 1) := by decide +kernel
theorem dL_law_1041 : decode cL_law 1041 = .ok (.aload_n 0, 1) := by decide +kernel
theorem dL_law_1042 : decode cL_law 1042 = .ok (.iload 5, 2) := by decide +kernel
theorem dL_law_1044 : decode cL_law 1044 = .ok (.iconst 1, 1) := by decide +kernel
theorem dL_law_1045 : decode cL_law 1045 = .ok (.iadd, 1) := by decide +kernel
theorem dL_law_1046 : decode cL_law 1046 = .ok (.iaload, 1) := by decide +kernel
theorem dL_law_1047 : decode cL_law 1047 = .ok (.invokevirtual 185, 3) := by decide +kernel
theorem dL_law_1050 : decode cL_law 1050 = .ok (.istore 7, 2) := by decide +kernel
theorem dL_law_1052 : decode cL_law 1052 = .ok (.aload_n 2, 1) := by decide +kernel
theorem dL_law_1053 : decode cL_law 1053 = .ok (.invokevirtual 150, 3) := by decide +kernel
theorem dL_law_1056 : decode cL_law 1056 = .ok (.iload 6, 2) := by decide +kernel
theorem dL_law_1058 : decode cL_law 1058 = .ok (.if_icmp .eq 5, 3) := by decide +kernel
theorem dL_law_1061 : decode cL_law 1061 = .ok (.iconst 0, 1) := by decide +kernel
theorem dL_law_1062 : decode cL_law 1062 = .ok (.ireturn, 1) := by decide +kernel
theorem dL_law_1063 : decode cL_law 1063 = .ok (.iload 6, 2) := by decide +kernel
theorem dL_law_1065 : decode cL_law 1065 = .ok (.ifCond .ne 15, 3) := by decide +kernel
theorem dL_law_1068 : decode cL_law 1068 = .ok (.aload_n 3, 1) := by decide +kernel
theorem dL_law_1069 : decode cL_law 1069 = .ok (.iconst 0, 1) := by decide +kernel
theorem dL_law_1070 : decode cL_law 1070 = .ok (.laload, 1) := by decide +kernel
theorem dL_law_1071 : decode cL_law 1071 = .ok (.iload 7, 2) := by decide +kernel
theorem dL_law_1073 : decode cL_law 1073 = .ok (.i2l, 1) := by decide +kernel
theorem dL_law_1074 : decode cL_law 1074 = .ok (.lcmp, 1) := by decide +kernel
theorem dL_law_1075 : decode cL_law 1075 = .ok (.ifCond .eq 5, 3) := by decide +kernel
theorem dL_law_1078 : decode cL_law 1078 = .ok (.iconst 0, 1) := by decide +kernel
theorem dL_law_1079 : decode cL_law 1079 = .ok (.ireturn, 1) := by decide +kernel
theorem dL_law_1080 : decode cL_law 1080 = .ok (.goto 1627, 3) := by decide +kernel
theorem dL_law_1083 : decode cL_law 1083 = .ok (.aload_n 1, 1) := by decide +kernel
theorem dL_law_1084 : decode cL_law 1084 = .ok (.aload_n 0, 1) := by decide +kernel
theorem dL_law_1085 : decode cL_law 1085 = .ok (.iload 5, 2) := by decide +kernel
theorem dL_law_1087 : decode cL_law 1087 = .ok (.iconst 1, 1) := by decide +kernel
theorem dL_law_1088 : decode cL_law 1088 = .ok (.iadd, 1) := by decide +kernel
theorem dL_law_1089 : decode cL_law 1089 = .ok (.iaload, 1) := by decide +kernel
theorem dL_law_1090 : decode cL_law 1090 = .ok (.aload_n 3, 1) := by decide +kernel
theorem dL_law_1091 : decode cL_law 1091 = .ok (.invokestatic 186, 3) := by decide +kernel
theorem dL_law_1094 : decode cL_law 1094 = .ok (.istore 6, 2) := by decide +kernel
theorem dL_law_1096 : decode cL_law 1096 = .ok (.aload_n 2, 1) := by decide +kernel
theorem dL_law_1097 : decode cL_law 1097 = .ok (.aload_n 0, 1) := by decide +kernel
theorem dL_law_1098 : decode cL_law 1098 = .ok (.iload 5, 2) := by decide +kernel
theorem dL_law_1100 : decode cL_law 1100 = .ok (.iconst 1, 1) := by decide +kernel
theorem dL_law_1101 : decode cL_law 1101 = .ok (.iadd, 1) := by decide +kernel
theorem dL_law_1102 : decode cL_law 1102 = .ok (.iaload, 1) := by decide +kernel
theorem dL_law_1103 : decode cL_law 1103 = .ok (.invokevirtual 188, 3) := by decide +kernel
theorem dL_law_1106 : decode cL_law 1106 = .ok (.istore 7, 2) := by decide +kernel
theorem dL_law_1108 : decode cL_law 1108 = .ok (.aload_n 2, 1) := by decide +kernel
theorem dL_law_1109 : decode cL_law 1109 = .ok (.invokevirtual 150, 3) := by decide +kernel
theorem dL_law_1112 : decode cL_law 1112 = .ok (.iload 6, 2) := by decide +kernel
theorem dL_law_1114 : decode cL_law 1114 = .ok (.if_icmp .eq 5, 3) := by decide +kernel
theorem dL_law_1117 : decode cL_law 1117 = .ok (.iconst 0, 1) := by decide +kernel
theorem dL_law_1118 : decode cL_law 1118 = .ok (.ireturn, 1) := by decide +kernel
theorem dL_law_1119 : decode cL_law 1119 = .ok (.iload 6, 2) := by decide +kernel
theorem dL_law_1121 : decode cL_law 1121 = .ok (.ifCond .ne 22, 3) := by decide +kernel
theorem dL_law_1124 : decode cL_law 1124 = .ok (.aload_n 3, 1) := by decide +kernel
theorem dL_law_1125 : decode cL_law 1125 = .ok (.iconst 0, 1) := by decide +kernel
theorem dL_law_1126 : decode cL_law 1126 = .ok (.laload, 1) := by decide +kernel
theorem dL_law_1127 : decode cL_law 1127 = .ok (.iload 7, 2) := by decide +kernel
theorem dL_law_1129 : decode cL_law 1129 = .ok (.ifCond .eq 7, 3) := by decide +kernel
theorem dL_law_1132 : decode cL_law 1132 = .ok (.lconst 1, 1) := by decide +kernel
theorem dL_law_1133 : decode cL_law 1133 = .ok (.goto 4, 3) := by decide +kernel
theorem dL_law_1136 : decode cL_law 1136 = .ok (.lconst 0, 1) := by decide +kernel
theorem dL_law_1137 : decode cL_law 1137 = .ok (.lcmp, 1) := by decide +kernel
theorem dL_law_1138 : decode cL_law 1138 = .ok (.ifCond .eq 5, 3) := by decide +kernel
theorem dL_law_1141 : decode cL_law 1141 = .ok (.iconst 0, 1) := by decide +kernel
theorem dL_law_1142 : decode cL_law 1142 = .ok (.ireturn, 1) := by decide +kernel
theorem dL_law_1143 : decode cL_law 1143 = .ok (.goto 1564, 3) := by decide +kernel
theorem dL_law_1146 : decode cL_law 1146 = .ok (.aload_n 1, 1) := by decide +kernel
theorem dL_law_1147 : decode cL_law 1147 = .ok (.aload_n 0, 1) := by decide +kernel
theorem dL_law_1148 : decode cL_law 1148 = .ok (.iload 5, 2) := by decide +kernel
theorem dL_law_1150 : decode cL_law 1150 = .ok (.iconst 1, 1) := by decide +kernel
theorem dL_law_1151 : decode cL_law 1151 = .ok (.iadd, 1) := by decide +kernel
theorem dL_law_1152 : decode cL_law 1152 = .ok (.iaload, 1) := by decide +kernel
theorem dL_law_1153 : decode cL_law 1153 = .ok (.aload_n 3, 1) := by decide +kernel
theorem dL_law_1154 : decode cL_law 1154 = .ok (.invokestatic 189, 3) := by decide +kernel
theorem dL_law_1157 : decode cL_law 1157 = .ok (.istore 6, 2) := by decide +kernel
theorem dL_law_1159 : decode cL_law 1159 = .ok (.aload_n 2, 1) := by decide +kernel
theorem dL_law_1160 : decode cL_law 1160 = .ok (.aload_n 0, 1) := by decide +kernel
theorem dL_law_1161 : decode cL_law 1161 = .ok (.iload 5, 2) := by decide +kernel
theorem dL_law_1163 : decode cL_law 1163 = .ok (.iconst 1, 1) := by decide +kernel
theorem dL_law_1164 : decode cL_law 1164 = .ok (.iadd, 1) := by decide +kernel
theorem dL_law_1165 : decode cL_law 1165 = .ok (.iaload, 1) := by decide +kernel
theorem dL_law_1166 : decode cL_law 1166 = .ok (.invokevirtual 191, 3) := by decide +kernel
theorem dL_law_1169 : decode cL_law 1169 = .ok (.istore 7, 2) := by decide +kernel
theorem dL_law_1171 : decode cL_law 1171 = .ok (.aload_n 2, 1) := by decide +kernel
theorem dL_law_1172 : decode cL_law 1172 = .ok (.invokevirtual 150, 3) := by decide +kernel
theorem dL_law_1175 : decode cL_law 1175 = .ok (.iload 6, 2) := by decide +kernel
theorem dL_law_1177 : decode cL_law 1177 = .ok (.if_icmp .eq 5, 3) := by decide +kernel
theorem dL_law_1180 : decode cL_law 1180 = .ok (.iconst 0, 1) := by decide +kernel
theorem dL_law_1181 : decode cL_law 1181 = .ok (.ireturn, 1) := by decide +kernel
theorem dL_law_1182 : decode cL_law 1182 = .ok (.iload 6, 2) := by decide +kernel
theorem dL_law_1184 : decode cL_law 1184 = .ok (.ifCond .ne 15, 3) := by decide +kernel
theorem dL_law_1187 : decode cL_law 1187 = .ok (.aload_n 3, 1) := by decide +kernel
theorem dL_law_1188 : decode cL_law 1188 = .ok (.iconst 0, 1) := by decide +kernel
theorem dL_law_1189 : decode cL_law 1189 = .ok (.laload, 1) := by decide +kernel
theorem dL_law_1190 : decode cL_law 1190 = .ok (.iload 7, 2) := by decide +kernel
theorem dL_law_1192 : decode cL_law 1192 = .ok (.i2l, 1) := by decide +kernel
theorem dL_law_1193 : decode cL_law 1193 = .ok (.lcmp, 1) := by decide +kernel
theorem dL_law_1194 : decode cL_law 1194 = .ok (.ifCond .eq 5, 3) := by decide +kernel
theorem dL_law_1197 : decode cL_law 1197 = .ok (.iconst 0, 1) := by decide +kernel
theorem dL_law_1198 : decode cL_law 1198 = .ok (.ireturn, 1) := by decide +kernel
theorem dL_law_1199 : decode cL_law 1199 = .ok (.goto 1508, 3) := by decide +kernel
theorem dL_law_1202 : decode cL_law 1202 = .ok (.aload_n 1, 1) := by decide +kernel
theorem dL_law_1203 : decode cL_law 1203 = .ok (.aload_n 0, 1) := by decide +kernel
theorem dL_law_1204 : decode cL_law 1204 = .ok (.iload 5, 2) := by decide +kernel
theorem dL_law_1206 : decode cL_law 1206 = .ok (.iconst 1, 1) := by decide +kernel
theorem dL_law_1207 : decode cL_law 1207 = .ok (.iadd, 1) := by decide +kernel
theorem dL_law_1208 : decode cL_law 1208 = .ok (.iaload, 1) := by decide +kernel
theorem dL_law_1209 : decode cL_law 1209 = .ok (.aload_n 3, 1) := by decide +kernel
theorem dL_law_1210 : decode cL_law 1210 = .ok (.invokestatic 192, 3) := by decide +kernel
theorem dL_law_1213 : decode cL_law 1213 = .ok (.istore 6, 2) := by decide +kernel
theorem dL_law_1215 : decode cL_law 1215 = .ok (.aload_n 2, 1) := by decide +kernel
theorem dL_law_1216 : decode cL_law 1216 = .ok (.aload_n 0, 1) := by decide +kernel
theorem dL_law_1217 : decode cL_law 1217 = .ok (.iload 5, 2) := by decide +kernel
theorem dL_law_1219 : decode cL_law 1219 = .ok (.iconst 1, 1) := by decide +kernel
theorem dL_law_1220 : decode cL_law 1220 = .ok (.iadd, 1) := by decide +kernel
theorem dL_law_1221 : decode cL_law 1221 = .ok (.iaload, 1) := by decide +kernel
theorem dL_law_1222 : decode cL_law 1222 = .ok (.invokevirtual 194, 3) := by decide +kernel
theorem dL_law_1225 : decode cL_law 1225 = .ok (.istore 7, 2) := by decide +kernel
theorem dL_law_1227 : decode cL_law 1227 = .ok (.aload_n 2, 1) := by decide +kernel
theorem dL_law_1228 : decode cL_law 1228 = .ok (.invokevirtual 150, 3) := by decide +kernel
theorem dL_law_1231 : decode cL_law 1231 = .ok (.iload 6, 2) := by decide +kernel
theorem dL_law_1233 : decode cL_law 1233 = .ok (.if_icmp .eq 5, 3) := by decide +kernel
theorem dL_law_1236 : decode cL_law 1236 = .ok (.iconst 0, 1) := by decide +kernel
theorem dL_law_1237 : decode cL_law 1237 = .ok (.ireturn, 1) := by decide +kernel
theorem dL_law_1238 : decode cL_law 1238 = .ok (.iload 6, 2) := by decide +kernel
theorem dL_law_1240 : decode cL_law 1240 = .ok (.ifCond .ne 15, 3) := by decide +kernel
theorem dL_law_1243 : decode cL_law 1243 = .ok (.aload_n 3, 1) := by decide +kernel
theorem dL_law_1244 : decode cL_law 1244 = .ok (.iconst 0, 1) := by decide +kernel
theorem dL_law_1245 : decode cL_law 1245 = .ok (.laload, 1) := by decide +kernel
theorem dL_law_1246 : decode cL_law 1246 = .ok (.iload 7, 2) := by decide +kernel
theorem dL_law_1248 : decode cL_law 1248 = .ok (.i2l, 1) := by decide +kernel
theorem dL_law_1249 : decode cL_law 1249 = .ok (.lcmp, 1) := by decide +kernel
theorem dL_law_1250 : decode cL_law 1250 = .ok (.ifCond .eq 5, 3) := by decide +kernel
theorem dL_law_1253 : decode cL_law 1253 = .ok (.iconst 0, 1) := by decide +kernel
theorem dL_law_1254 : decode cL_law 1254 = .ok (.ireturn, 1) := by decide +kernel
theorem dL_law_1255 : decode cL_law 1255 = .ok (.goto 1452, 3) := by decide +kernel
theorem dL_law_1258 : decode cL_law 1258 = .ok (.aload_n 1, 1) := by decide +kernel
theorem dL_law_1259 : decode cL_law 1259 = .ok (.aload_n 0, 1) := by decide +kernel
theorem dL_law_1260 : decode cL_law 1260 = .ok (.iload 5, 2) := by decide +kernel
theorem dL_law_1262 : decode cL_law 1262 = .ok (.iconst 1, 1) := by decide +kernel
theorem dL_law_1263 : decode cL_law 1263 = .ok (.iadd, 1) := by decide +kernel
theorem dL_law_1264 : decode cL_law 1264 = .ok (.iaload, 1) := by decide +kernel
theorem dL_law_1265 : decode cL_law 1265 = .ok (.aload_n 0, 1) := by decide +kernel
theorem dL_law_1266 : decode cL_law 1266 = .ok (.iload 5, 2) := by decide +kernel
theorem dL_law_1268 : decode cL_law 1268 = .ok (.iconst 2, 1) := by decide +kernel
theorem dL_law_1269 : decode cL_law 1269 = .ok (.iadd, 1) := by decide +kernel
theorem dL_law_1270 : decode cL_law 1270 = .ok (.iaload, 1) := by decide +kernel
theorem dL_law_1271 : decode cL_law 1271 = .ok (.aload_n 3, 1) := by decide +kernel
theorem dL_law_1272 : decode cL_law 1272 = .ok (.invokestatic 195, 3) := by decide +kernel
theorem dL_law_1275 : decode cL_law 1275 = .ok (.istore 6, 2) := by decide +kernel
theorem dL_law_1277 : decode cL_law 1277 = .ok (.aload_n 2, 1) := by decide +kernel
theorem dL_law_1278 : decode cL_law 1278 = .ok (.aload_n 0, 1) := by decide +kernel
theorem dL_law_1279 : decode cL_law 1279 = .ok (.iload 5, 2) := by decide +kernel
theorem dL_law_1281 : decode cL_law 1281 = .ok (.iconst 1, 1) := by decide +kernel
theorem dL_law_1282 : decode cL_law 1282 = .ok (.iadd, 1) := by decide +kernel
theorem dL_law_1283 : decode cL_law 1283 = .ok (.iaload, 1) := by decide +kernel
theorem dL_law_1284 : decode cL_law 1284 = .ok (.aload_n 0, 1) := by decide +kernel
theorem dL_law_1285 : decode cL_law 1285 = .ok (.iload 5, 2) := by decide +kernel
theorem dL_law_1287 : decode cL_law 1287 = .ok (.iconst 2, 1) := by decide +kernel
theorem dL_law_1288 : decode cL_law 1288 = .ok (.iadd, 1) := by decide +kernel
theorem dL_law_1289 : decode cL_law 1289 = .ok (.iaload, 1) := by decide +kernel
theorem dL_law_1290 : decode cL_law 1290 = .ok (.invokevirtual 197, 3) := by decide +kernel
theorem dL_law_1293 : decode cL_law 1293 = .ok (.istore 7, 2) := by decide +kernel
theorem dL_law_1295 : decode cL_law 1295 = .ok (.aload_n 2, 1) := by decide +kernel
theorem dL_law_1296 : decode cL_law 1296 = .ok (.invokevirtual 150, 3) := by decide +kernel
theorem dL_law_1299 : decode cL_law 1299 = .ok (.iload 6, 2) := by decide +kernel
theorem dL_law_1301 : decode cL_law 1301 = .ok (.if_icmp .eq 5, 3) := by decide +kernel
theorem dL_law_1304 : decode cL_law 1304 = .ok (.iconst 0, 1) := by decide +kernel
theorem dL_law_1305 : decode cL_law 1305 = .ok (.ireturn, 1) := by decide +kernel
theorem dL_law_1306 : decode cL_law 1306 = .ok (.iload 6, 2) := by decide +kernel
theorem dL_law_1308 : decode cL_law 1308 = .ok (.ifCond .ne 15, 3) := by decide +kernel
theorem dL_law_1311 : decode cL_law 1311 = .ok (.aload_n 3, 1) := by decide +kernel
theorem dL_law_1312 : decode cL_law 1312 = .ok (.iconst 0, 1) := by decide +kernel
theorem dL_law_1313 : decode cL_law 1313 = .ok (.laload, 1) := by decide +kernel
theorem dL_law_1314 : decode cL_law 1314 = .ok (.iload 7, 2) := by decide +kernel
theorem dL_law_1316 : decode cL_law 1316 = .ok (.i2l, 1) := by decide +kernel
theorem dL_law_1317 : decode cL_law 1317 = .ok (.lcmp, 1) := by decide +kernel
theorem dL_law_1318 : decode cL_law 1318 = .ok (.ifCond .eq 5, 3) := by decide +kernel
theorem dL_law_1321 : decode cL_law 1321 = .ok (.iconst 0, 1) := by decide +kernel
theorem dL_law_1322 : decode cL_law 1322 = .ok (.ireturn, 1) := by decide +kernel
theorem dL_law_1323 : decode cL_law 1323 = .ok (.goto 1384, 3) := by decide +kernel
theorem dL_law_1326 : decode cL_law 1326 = .ok (.aload_n 1, 1) := by decide +kernel
theorem dL_law_1327 : decode cL_law 1327 = .ok (.invokevirtual 198, 3) := by decide +kernel
theorem dL_law_1330 : decode cL_law 1330 = .ok (.aload_n 2, 1) := by decide +kernel
theorem dL_law_1331 : decode cL_law 1331 = .ok (.invokevirtual 201, 3) := by decide +kernel
theorem dL_law_1334 : decode cL_law 1334 = .ok (.if_icmp .eq 1373, 3) := by decide +kernel
theorem dL_law_1337 : decode cL_law 1337 = .ok (.iconst 0, 1) := by decide +kernel
theorem dL_law_1338 : decode cL_law 1338 = .ok (.ireturn, 1) := by decide +kernel
theorem dL_law_1339 : decode cL_law 1339 = .ok (.aload_n 1, 1) := by decide +kernel
theorem dL_law_1340 : decode cL_law 1340 = .ok (.aload_n 0, 1) := by decide +kernel
theorem dL_law_1341 : decode cL_law 1341 = .ok (.iload 5, 2) := by decide +kernel
theorem dL_law_1343 : decode cL_law 1343 = .ok (.iconst 1, 1) := by decide +kernel
theorem dL_law_1344 : decode cL_law 1344 = .ok (.iadd, 1) := by decide +kernel
theorem dL_law_1345 : decode cL_law 1345 = .ok (.iaload, 1) := by decide +kernel
theorem dL_law_1346 : decode cL_law 1346 = .ok (.aload_n 3, 1) := by decide +kernel
theorem dL_law_1347 : decode cL_law 1347 = .ok (.invokestatic 202, 3) := by decide +kernel
theorem dL_law_1350 : decode cL_law 1350 = .ok (.istore 6, 2) := by decide +kernel
theorem dL_law_1352 : decode cL_law 1352 = .ok (.aload_n 2, 1) := by decide +kernel
theorem dL_law_1353 : decode cL_law 1353 = .ok (.aload_n 0, 1) := by decide +kernel
theorem dL_law_1354 : decode cL_law 1354 = .ok (.iload 5, 2) := by decide +kernel
theorem dL_law_1356 : decode cL_law 1356 = .ok (.iconst 1, 1) := by decide +kernel
theorem dL_law_1357 : decode cL_law 1357 = .ok (.iadd, 1) := by decide +kernel
theorem dL_law_1358 : decode cL_law 1358 = .ok (.iaload, 1) := by decide +kernel
theorem dL_law_1359 : decode cL_law 1359 = .ok (.invokevirtual 204, 3) := by decide +kernel
theorem dL_law_1362 : decode cL_law 1362 = .ok (.istore 7, 2) := by decide +kernel
theorem dL_law_1364 : decode cL_law 1364 = .ok (.aload_n 2, 1) := by decide +kernel
theorem dL_law_1365 : decode cL_law 1365 = .ok (.invokevirtual 150, 3) := by decide +kernel
theorem dL_law_1368 : decode cL_law 1368 = .ok (.iload 6, 2) := by decide +kernel
theorem dL_law_1370 : decode cL_law 1370 = .ok (.if_icmp .eq 5, 3) := by decide +kernel
theorem dL_law_1373 : decode cL_law 1373 = .ok (.iconst 0, 1) := by decide +kernel
theorem dL_law_1374 : decode cL_law 1374 = .ok (.ireturn, 1) := by decide +kernel
theorem dL_law_1375 : decode cL_law 1375 = .ok (.iload 6, 2) := by decide +kernel
theorem dL_law_1377 : decode cL_law 1377 = .ok (.ifCond .ne 15, 3) := by decide +kernel
theorem dL_law_1380 : decode cL_law 1380 = .ok (.aload_n 3, 1) := by decide +kernel
theorem dL_law_1381 : decode cL_law 1381 = .ok (.iconst 0, 1) := by decide +kernel
theorem dL_law_1382 : decode cL_law 1382 = .ok (.laload, 1) := by decide +kernel
theorem dL_law_1383 : decode cL_law 1383 = .ok (.iload 7, 2) := by decide +kernel
theorem dL_law_1385 : decode cL_law 1385 = .ok (.i2l, 1) := by decide +kernel
theorem dL_law_1386 : decode cL_law 1386 = .ok (.lcmp, 1) := by decide +kernel
theorem dL_law_1387 : decode cL_law 1387 = .ok (.ifCond .eq 5, 3) := by decide +kernel
theorem dL_law_1390 : decode cL_law 1390 = .ok (.iconst 0, 1) := by decide +kernel
theorem dL_law_1391 : decode cL_law 1391 = .ok (.ireturn, 1) := by decide +kernel
theorem dL_law_1392 : decode cL_law 1392 = .ok (.goto 1315, 3) := by decide +kernel
theorem dL_law_1395 : decode cL_law 1395 = .ok (.aload_n 1, 1) := by decide +kernel
theorem dL_law_1396 : decode cL_law 1396 = .ok (.aload_n 0, 1) := by decide +kernel
theorem dL_law_1397 : decode cL_law 1397 = .ok (.iload 5, 2) := by decide +kernel
theorem dL_law_1399 : decode cL_law 1399 = .ok (.iconst 1, 1) := by decide +kernel
theorem dL_law_1400 : decode cL_law 1400 = .ok (.iadd, 1) := by decide +kernel
theorem dL_law_1401 : decode cL_law 1401 = .ok (.iaload, 1) := by decide +kernel
theorem dL_law_1402 : decode cL_law 1402 = .ok (.aload_n 0, 1) := by decide +kernel
theorem dL_law_1403 : decode cL_law 1403 = .ok (.iload 5, 2) := by decide +kernel
theorem dL_law_1405 : decode cL_law 1405 = .ok (.iconst 2, 1) := by decide +kernel
theorem dL_law_1406 : decode cL_law 1406 = .ok (.iadd, 1) := by decide +kernel
theorem dL_law_1407 : decode cL_law 1407 = .ok (.iaload, 1) := by decide +kernel
theorem dL_law_1408 : decode cL_law 1408 = .ok (.aload_n 3, 1) := by decide +kernel
theorem dL_law_1409 : decode cL_law 1409 = .ok (.invokestatic 205, 3) := by decide +kernel
theorem dL_law_1412 : decode cL_law 1412 = .ok (.istore 6, 2) := by decide +kernel
theorem dL_law_1414 : decode cL_law 1414 = .ok (.aload_n 2, 1) := by decide +kernel
theorem dL_law_1415 : decode cL_law 1415 = .ok (.aload_n 0, 1) := by decide +kernel
theorem dL_law_1416 : decode cL_law 1416 = .ok (.iload 5, 2) := by decide +kernel
theorem dL_law_1418 : decode cL_law 1418 = .ok (.iconst 1, 1) := by decide +kernel
theorem dL_law_1419 : decode cL_law 1419 = .ok (.iadd, 1) := by decide +kernel
theorem dL_law_1420 : decode cL_law 1420 = .ok (.iaload, 1) := by decide +kernel
theorem dL_law_1421 : decode cL_law 1421 = .ok (.aload_n 0, 1) := by decide +kernel
theorem dL_law_1422 : decode cL_law 1422 = .ok (.iload 5, 2) := by decide +kernel
theorem dL_law_1424 : decode cL_law 1424 = .ok (.iconst 2, 1) := by decide +kernel
theorem dL_law_1425 : decode cL_law 1425 = .ok (.iadd, 1) := by decide +kernel
theorem dL_law_1426 : decode cL_law 1426 = .ok (.iaload, 1) := by decide +kernel
theorem dL_law_1427 : decode cL_law 1427 = .ok (.invokevirtual 207, 3) := by decide +kernel
theorem dL_law_1430 : decode cL_law 1430 = .ok (.istore 7, 2) := by decide +kernel
theorem dL_law_1432 : decode cL_law 1432 = .ok (.aload_n 2, 1) := by decide +kernel
theorem dL_law_1433 : decode cL_law 1433 = .ok (.invokevirtual 150, 3) := by decide +kernel
theorem dL_law_1436 : decode cL_law 1436 = .ok (.iload 6, 2) := by decide +kernel
theorem dL_law_1438 : decode cL_law 1438 = .ok (.if_icmp .eq 5, 3) := by decide +kernel
theorem dL_law_1441 : decode cL_law 1441 = .ok (.iconst 0, 1) := by decide +kernel
theorem dL_law_1442 : decode cL_law 1442 = .ok (.ireturn, 1) := by decide +kernel
theorem dL_law_1443 : decode cL_law 1443 = .ok (.iload 6, 2) := by decide +kernel
theorem dL_law_1445 : decode cL_law 1445 = .ok (.ifCond .ne 15, 3) := by decide +kernel
theorem dL_law_1448 : decode cL_law 1448 = .ok (.aload_n 3, 1) := by decide +kernel
theorem dL_law_1449 : decode cL_law 1449 = .ok (.iconst 0, 1) := by decide +kernel
theorem dL_law_1450 : decode cL_law 1450 = .ok (.laload, 1) := by decide +kernel
theorem dL_law_1451 : decode cL_law 1451 = .ok (.iload 7, 2) := by decide +kernel
theorem dL_law_1453 : decode cL_law 1453 = .ok (.i2l, 1) := by decide +kernel
theorem dL_law_1454 : decode cL_law 1454 = .ok (.lcmp, 1) := by decide +kernel
theorem dL_law_1455 : decode cL_law 1455 = .ok (.ifCond .eq 5, 3) := by decide +kernel
theorem dL_law_1458 : decode cL_law 1458 = .ok (.iconst 0, 1) := by decide +kernel
theorem dL_law_1459 : decode cL_law 1459 = .ok (.ireturn, 1) := by decide +kernel
theorem dL_law_1460 : decode cL_law 1460 = .ok (.goto 1247, 3) := by decide +kernel
theorem dL_law_1463 : decode cL_law 1463 = .ok (.aload_n 1, 1) := by decide +kernel
theorem dL_law_1464 : decode cL_law 1464 = .ok (.aload_n 0, 1) := by decide +kernel
theorem dL_law_1465 : decode cL_law 1465 = .ok (.iload 5, 2) := by decide +kernel
theorem dL_law_1467 : decode cL_law 1467 = .ok (.iconst 1, 1) := by decide +kernel
theorem dL_law_1468 : decode cL_law 1468 = .ok (.iadd, 1) := by decide +kernel
theorem dL_law_1469 : decode cL_law 1469 = .ok (.iaload, 1) := by decide +kernel
theorem dL_law_1470 : decode cL_law 1470 = .ok (.aload_n 3, 1) := by decide +kernel
theorem dL_law_1471 : decode cL_law 1471 = .ok (.invokestatic 208, 3) := by decide +kernel
theorem dL_law_1474 : decode cL_law 1474 = .ok (.istore 6, 2) := by decide +kernel
theorem dL_law_1476 : decode cL_law 1476 = .ok (.aload_n 2, 1) := by decide +kernel
theorem dL_law_1477 : decode cL_law 1477 = .ok (.aload_n 0, 1) := by decide +kernel
theorem dL_law_1478 : decode cL_law 1478 = .ok (.iload 5, 2) := by decide +kernel
theorem dL_law_1480 : decode cL_law 1480 = .ok (.iconst 1, 1) := by decide +kernel
theorem dL_law_1481 : decode cL_law 1481 = .ok (.iadd, 1) := by decide +kernel
theorem dL_law_1482 : decode cL_law 1482 = .ok (.iaload, 1) := by decide +kernel
theorem dL_law_1483 : decode cL_law 1483 = .ok (.invokevirtual 210, 3) := by decide +kernel
theorem dL_law_1486 : decode cL_law 1486 = .ok (.istore 7, 2) := by decide +kernel
theorem dL_law_1488 : decode cL_law 1488 = .ok (.aload_n 2, 1) := by decide +kernel
theorem dL_law_1489 : decode cL_law 1489 = .ok (.invokevirtual 150, 3) := by decide +kernel
theorem dL_law_1492 : decode cL_law 1492 = .ok (.iload 6, 2) := by decide +kernel
theorem dL_law_1494 : decode cL_law 1494 = .ok (.if_icmp .eq 5, 3) := by decide +kernel
theorem dL_law_1497 : decode cL_law 1497 = .ok (.iconst 0, 1) := by decide +kernel
theorem dL_law_1498 : decode cL_law 1498 = .ok (.ireturn, 1) := by decide +kernel
theorem dL_law_1499 : decode cL_law 1499 = .ok (.iload 6, 2) := by decide +kernel
theorem dL_law_1501 : decode cL_law 1501 = .ok (.ifCond .ne 15, 3) := by decide +kernel
theorem dL_law_1504 : decode cL_law 1504 = .ok (.aload_n 3, 1) := by decide +kernel
theorem dL_law_1505 : decode cL_law 1505 = .ok (.iconst 0, 1) := by decide +kernel
theorem dL_law_1506 : decode cL_law 1506 = .ok (.laload, 1) := by decide +kernel
theorem dL_law_1507 : decode cL_law 1507 = .ok (.iload 7, 2) := by decide +kernel
theorem dL_law_1509 : decode cL_law 1509 = .ok (.i2l, 1) := by decide +kernel
theorem dL_law_1510 : decode cL_law 1510 = .ok (.lcmp, 1) := by decide +kernel
theorem dL_law_1511 : decode cL_law 1511 = .ok (.ifCond .eq 5, 3) := by decide +kernel
theorem dL_law_1514 : decode cL_law 1514 = .ok (.iconst 0, 1) := by decide +kernel
theorem dL_law_1515 : decode cL_law 1515 = .ok (.ireturn, 1) := by decide +kernel
theorem dL_law_1516 : decode cL_law 1516 = .ok (.goto 1191, 3) := by decide +kernel
theorem dL_law_1519 : decode cL_law 1519 = .ok (.aload_n 1, 1) := by decide +kernel
theorem dL_law_1520 : decode cL_law 1520 = .ok (.invokevirtual 211, 3) := by decide +kernel
theorem dL_law_1523 : decode cL_law 1523 = .ok (.aload_n 2, 1) := by decide +kernel
theorem dL_law_1524 : decode cL_law 1524 = .ok (.invokevirtual 214, 3) := by decide +kernel
theorem dL_law_1527 : decode cL_law 1527 = .ok (.if_icmp .eq 1180, 3) := by decide +kernel
theorem dL_law_1530 : decode cL_law 1530 = .ok (.iconst 0, 1) := by decide +kernel
theorem dL_law_1531 : decode cL_law 1531 = .ok (.ireturn, 1) := by decide +kernel
theorem dL_law_1532 : decode cL_law 1532 = .ok (.aload_n 1, 1) := by decide +kernel
theorem dL_law_1533 : decode cL_law 1533 = .ok (.aload_n 0, 1) := by decide +kernel
theorem dL_law_1534 : decode cL_law 1534 = .ok (.iload 5, 2) := by decide +kernel
theorem dL_law_1536 : decode cL_law 1536 = .ok (.iconst 1, 1) := by decide +kernel
theorem dL_law_1537 : decode cL_law 1537 = .ok (.iadd, 1) := by decide +kernel
theorem dL_law_1538 : decode cL_law 1538 = .ok (.iaload, 1) := by decide +kernel
theorem dL_law_1539 : decode cL_law 1539 = .ok (.aload_n 0, 1) := by decide +kernel
theorem dL_law_1540 : decode cL_law 1540 = .ok (.iload 5, 2) := by decide +kernel
theorem dL_law_1542 : decode cL_law 1542 = .ok (.iconst 2, 1) := by decide +kernel
theorem dL_law_1543 : decode cL_law 1543 = .ok (.iadd, 1) := by decide +kernel
theorem dL_law_1544 : decode cL_law 1544 = .ok (.iaload, 1) := by decide +kernel
theorem dL_law_1545 : decode cL_law 1545 = .ok (.aload_n 0, 1) := by decide +kernel
theorem dL_law_1546 : decode cL_law 1546 = .ok (.iload 5, 2) := by decide +kernel
theorem dL_law_1548 : decode cL_law 1548 = .ok (.iconst 3, 1) := by decide +kernel
theorem dL_law_1549 : decode cL_law 1549 = .ok (.iadd, 1) := by decide +kernel
theorem dL_law_1550 : decode cL_law 1550 = .ok (.iaload, 1) := by decide +kernel
theorem dL_law_1551 : decode cL_law 1551 = .ok (.aload_n 3, 1) := by decide +kernel
theorem dL_law_1552 : decode cL_law 1552 = .ok (.invokestatic 215, 3) := by decide +kernel
theorem dL_law_1555 : decode cL_law 1555 = .ok (.istore 6, 2) := by decide +kernel
theorem dL_law_1557 : decode cL_law 1557 = .ok (.aload_n 2, 1) := by decide +kernel
theorem dL_law_1558 : decode cL_law 1558 = .ok (.aload_n 0, 1) := by decide +kernel
theorem dL_law_1559 : decode cL_law 1559 = .ok (.iload 5, 2) := by decide +kernel
theorem dL_law_1561 : decode cL_law 1561 = .ok (.iconst 1, 1) := by decide +kernel
theorem dL_law_1562 : decode cL_law 1562 = .ok (.iadd, 1) := by decide +kernel
theorem dL_law_1563 : decode cL_law 1563 = .ok (.iaload, 1) := by decide +kernel
theorem dL_law_1564 : decode cL_law 1564 = .ok (.aload_n 0, 1) := by decide +kernel
theorem dL_law_1565 : decode cL_law 1565 = .ok (.iload 5, 2) := by decide +kernel
theorem dL_law_1567 : decode cL_law 1567 = .ok (.iconst 2, 1) := by decide +kernel
theorem dL_law_1568 : decode cL_law 1568 = .ok (.iadd, 1) := by decide +kernel
theorem dL_law_1569 : decode cL_law 1569 = .ok (.iaload, 1) := by decide +kernel
theorem dL_law_1570 : decode cL_law 1570 = .ok (.aload_n 0, 1) := by decide +kernel
theorem dL_law_1571 : decode cL_law 1571 = .ok (.iload 5, 2) := by decide +kernel
theorem dL_law_1573 : decode cL_law 1573 = .ok (.iconst 3, 1) := by decide +kernel
theorem dL_law_1574 : decode cL_law 1574 = .ok (.iadd, 1) := by decide +kernel
theorem dL_law_1575 : decode cL_law 1575 = .ok (.iaload, 1) := by decide +kernel
theorem dL_law_1576 : decode cL_law 1576 = .ok (.invokevirtual 217, 3) := by decide +kernel
theorem dL_law_1579 : decode cL_law 1579 = .ok (.istore 7, 2) := by decide +kernel
theorem dL_law_1581 : decode cL_law 1581 = .ok (.aload_n 2, 1) := by decide +kernel
theorem dL_law_1582 : decode cL_law 1582 = .ok (.invokevirtual 150, 3) := by decide +kernel
theorem dL_law_1585 : decode cL_law 1585 = .ok (.iload 6, 2) := by decide +kernel
theorem dL_law_1587 : decode cL_law 1587 = .ok (.if_icmp .eq 5, 3) := by decide +kernel
theorem dL_law_1590 : decode cL_law 1590 = .ok (.iconst 0, 1) := by decide +kernel
theorem dL_law_1591 : decode cL_law 1591 = .ok (.ireturn, 1) := by decide +kernel
theorem dL_law_1592 : decode cL_law 1592 = .ok (.iload 6, 2) := by decide +kernel
theorem dL_law_1594 : decode cL_law 1594 = .ok (.ifCond .ne 15, 3) := by decide +kernel
theorem dL_law_1597 : decode cL_law 1597 = .ok (.aload_n 3, 1) := by decide +kernel
theorem dL_law_1598 : decode cL_law 1598 = .ok (.iconst 0, 1) := by decide +kernel
theorem dL_law_1599 : decode cL_law 1599 = .ok (.laload, 1) := by decide +kernel
theorem dL_law_1600 : decode cL_law 1600 = .ok (.iload 7, 2) := by decide +kernel
theorem dL_law_1602 : decode cL_law 1602 = .ok (.i2l, 1) := by decide +kernel
theorem dL_law_1603 : decode cL_law 1603 = .ok (.lcmp, 1) := by decide +kernel
theorem dL_law_1604 : decode cL_law 1604 = .ok (.ifCond .eq 5, 3) := by decide +kernel
theorem dL_law_1607 : decode cL_law 1607 = .ok (.iconst 0, 1) := by decide +kernel
theorem dL_law_1608 : decode cL_law 1608 = .ok (.ireturn, 1) := by decide +kernel
theorem dL_law_1609 : decode cL_law 1609 = .ok (.goto 1098, 3) := by decide +kernel
theorem dL_law_1612 : decode cL_law 1612 = .ok (.aload_n 1, 1) := by decide +kernel
theorem dL_law_1613 : decode cL_law 1613 = .ok (.aload_n 0, 1) := by decide +kernel
theorem dL_law_1614 : decode cL_law 1614 = .ok (.iload 5, 2) := by decide +kernel
theorem dL_law_1616 : decode cL_law 1616 = .ok (.iconst 1, 1) := by decide +kernel
theorem dL_law_1617 : decode cL_law 1617 = .ok (.iadd, 1) := by decide +kernel
theorem dL_law_1618 : decode cL_law 1618 = .ok (.iaload, 1) := by decide +kernel
theorem dL_law_1619 : decode cL_law 1619 = .ok (.aload_n 0, 1) := by decide +kernel
theorem dL_law_1620 : decode cL_law 1620 = .ok (.iload 5, 2) := by decide +kernel
theorem dL_law_1622 : decode cL_law 1622 = .ok (.iconst 2, 1) := by decide +kernel
theorem dL_law_1623 : decode cL_law 1623 = .ok (.iadd, 1) := by decide +kernel
theorem dL_law_1624 : decode cL_law 1624 = .ok (.iaload, 1) := by decide +kernel
theorem dL_law_1625 : decode cL_law 1625 = .ok (.aload_n 3, 1) := by decide +kernel
theorem dL_law_1626 : decode cL_law 1626 = .ok (.invokestatic 218, 3) := by decide +kernel
theorem dL_law_1629 : decode cL_law 1629 = .ok (.istore 6, 2) := by decide +kernel
theorem dL_law_1631 : decode cL_law 1631 = .ok (.aload_n 2, 1) := by decide +kernel
theorem dL_law_1632 : decode cL_law 1632 = .ok (.aload_n 0, 1) := by decide +kernel
theorem dL_law_1633 : decode cL_law 1633 = .ok (.iload 5, 2) := by decide +kernel
theorem dL_law_1635 : decode cL_law 1635 = .ok (.iconst 1, 1) := by decide +kernel
theorem dL_law_1636 : decode cL_law 1636 = .ok (.iadd, 1) := by decide +kernel
theorem dL_law_1637 : decode cL_law 1637 = .ok (.iaload, 1) := by decide +kernel
theorem dL_law_1638 : decode cL_law 1638 = .ok (.aload_n 0, 1) := by decide +kernel
theorem dL_law_1639 : decode cL_law 1639 = .ok (.iload 5, 2) := by decide +kernel
theorem dL_law_1641 : decode cL_law 1641 = .ok (.iconst 2, 1) := by decide +kernel
theorem dL_law_1642 : decode cL_law 1642 = .ok (.iadd, 1) := by decide +kernel
theorem dL_law_1643 : decode cL_law 1643 = .ok (.iaload, 1) := by decide +kernel
theorem dL_law_1644 : decode cL_law 1644 = .ok (.invokevirtual 220, 3) := by decide +kernel
theorem dL_law_1647 : decode cL_law 1647 = .ok (.istore 7, 2) := by decide +kernel
theorem dL_law_1649 : decode cL_law 1649 = .ok (.aload_n 2, 1) := by decide +kernel
theorem dL_law_1650 : decode cL_law 1650 = .ok (.invokevirtual 150, 3) := by decide +kernel
theorem dL_law_1653 : decode cL_law 1653 = .ok (.iload 6, 2) := by decide +kernel
theorem dL_law_1655 : decode cL_law 1655 = .ok (.if_icmp .eq 5, 3) := by decide +kernel
theorem dL_law_1658 : decode cL_law 1658 = .ok (.iconst 0, 1) := by decide +kernel
theorem dL_law_1659 : decode cL_law 1659 = .ok (.ireturn, 1) := by decide +kernel
theorem dL_law_1660 : decode cL_law 1660 = .ok (.iload 6, 2) := by decide +kernel
theorem dL_law_1662 : decode cL_law 1662 = .ok (.ifCond .ne 15, 3) := by decide +kernel
theorem dL_law_1665 : decode cL_law 1665 = .ok (.aload_n 3, 1) := by decide +kernel
theorem dL_law_1666 : decode cL_law 1666 = .ok (.iconst 0, 1) := by decide +kernel
theorem dL_law_1667 : decode cL_law 1667 = .ok (.laload, 1) := by decide +kernel
theorem dL_law_1668 : decode cL_law 1668 = .ok (.iload 7, 2) := by decide +kernel
theorem dL_law_1670 : decode cL_law 1670 = .ok (.i2l, 1) := by decide +kernel
theorem dL_law_1671 : decode cL_law 1671 = .ok (.lcmp, 1) := by decide +kernel
theorem dL_law_1672 : decode cL_law 1672 = .ok (.ifCond .eq 5, 3) := by decide +kernel
theorem dL_law_1675 : decode cL_law 1675 = .ok (.iconst 0, 1) := by decide +kernel
theorem dL_law_1676 : decode cL_law 1676 = .ok (.ireturn, 1) := by decide +kernel
theorem dL_law_1677 : decode cL_law 1677 = .ok (.goto 1030, 3) := by decide +kernel
theorem dL_law_1680 : decode cL_law 1680 = .ok (.aload_n 1, 1) := by decide +kernel
theorem dL_law_1681 : decode cL_law 1681 = .ok (.aload_n 0, 1) := by decide +kernel
theorem dL_law_1682 : decode cL_law 1682 = .ok (.iload 5, 2) := by decide +kernel
theorem dL_law_1684 : decode cL_law 1684 = .ok (.iconst 1, 1) := by decide +kernel
theorem dL_law_1685 : decode cL_law 1685 = .ok (.iadd, 1) := by decide +kernel
theorem dL_law_1686 : decode cL_law 1686 = .ok (.iaload, 1) := by decide +kernel
theorem dL_law_1687 : decode cL_law 1687 = .ok (.aload_n 0, 1) := by decide +kernel
theorem dL_law_1688 : decode cL_law 1688 = .ok (.iload 5, 2) := by decide +kernel
theorem dL_law_1690 : decode cL_law 1690 = .ok (.iconst 2, 1) := by decide +kernel
theorem dL_law_1691 : decode cL_law 1691 = .ok (.iadd, 1) := by decide +kernel
theorem dL_law_1692 : decode cL_law 1692 = .ok (.iaload, 1) := by decide +kernel
theorem dL_law_1693 : decode cL_law 1693 = .ok (.aload 4, 2) := by decide +kernel
theorem dL_law_1695 : decode cL_law 1695 = .ok (.invokestatic 221, 3) := by decide +kernel
theorem dL_law_1698 : decode cL_law 1698 = .ok (.istore 6, 2) := by decide +kernel
theorem dL_law_1700 : decode cL_law 1700 = .ok (.aload_n 2, 1) := by decide +kernel
theorem dL_law_1701 : decode cL_law 1701 = .ok (.aload_n 0, 1) := by decide +kernel
theorem dL_law_1702 : decode cL_law 1702 = .ok (.iload 5, 2) := by decide +kernel
theorem dL_law_1704 : decode cL_law 1704 = .ok (.iconst 1, 1) := by decide +kernel
theorem dL_law_1705 : decode cL_law 1705 = .ok (.iadd, 1) := by decide +kernel
theorem dL_law_1706 : decode cL_law 1706 = .ok (.iaload, 1) := by decide +kernel
theorem dL_law_1707 : decode cL_law 1707 = .ok (.aload_n 0, 1) := by decide +kernel
theorem dL_law_1708 : decode cL_law 1708 = .ok (.iload 5, 2) := by decide +kernel
theorem dL_law_1710 : decode cL_law 1710 = .ok (.iconst 2, 1) := by decide +kernel
theorem dL_law_1711 : decode cL_law 1711 = .ok (.iadd, 1) := by decide +kernel
theorem dL_law_1712 : decode cL_law 1712 = .ok (.iaload, 1) := by decide +kernel
theorem dL_law_1713 : decode cL_law 1713 = .ok (.invokevirtual 224, 3) := by decide +kernel
theorem dL_law_1716 : decode cL_law 1716 = .ok (.fstore 7, 2) := by decide +kernel
theorem dL_law_1718 : decode cL_law 1718 = .ok (.aload_n 2, 1) := by decide +kernel
theorem dL_law_1719 : decode cL_law 1719 = .ok (.invokevirtual 150, 3) := by decide +kernel
theorem dL_law_1722 : decode cL_law 1722 = .ok (.iload 6, 2) := by decide +kernel
theorem dL_law_1724 : decode cL_law 1724 = .ok (.if_icmp .eq 5, 3) := by decide +kernel
theorem dL_law_1727 : decode cL_law 1727 = .ok (.iconst 0, 1) := by decide +kernel
theorem dL_law_1728 : decode cL_law 1728 = .ok (.ireturn, 1) := by decide +kernel
theorem dL_law_1729 : decode cL_law 1729 = .ok (.iload 6, 2) := by decide +kernel
theorem dL_law_1731 : decode cL_law 1731 = .ok (.ifCond .ne 36, 3) := by decide +kernel
theorem dL_law_1734 : decode cL_law 1734 = .ok (.aload 4, 2) := by decide +kernel
theorem dL_law_1736 : decode cL_law 1736 = .ok (.iconst 0, 1) := by decide +kernel
theorem dL_law_1737 : decode cL_law 1737 = .ok (.daload, 1) := by decide +kernel
theorem dL_law_1738 : decode cL_law 1738 = .ok (.fload 7, 2) := by decide +kernel
theorem dL_law_1740 : decode cL_law 1740 = .ok (.f2d, 1) := by decide +kernel
theorem dL_law_1741 : decode cL_law 1741 = .ok (.dcmp .l, 1) := by decide +kernel
theorem dL_law_1742 : decode cL_law 1742 = .ok (.ifCond .eq 25, 3) := by decide +kernel
theorem dL_law_1745 : decode cL_law 1745 = .ok (.aload 4, 2) := by decide +kernel
theorem dL_law_1747 : decode cL_law 1747 = .ok (.iconst 0, 1) := by decide +kernel
theorem dL_law_1748 : decode cL_law 1748 = .ok (.daload, 1) := by decide +kernel
theorem dL_law_1749 : decode cL_law 1749 = .ok (.aload 4, 2) := by decide +kernel
theorem dL_law_1751 : decode cL_law 1751 = .ok (.iconst 0, 1) := by decide +kernel
theorem dL_law_1752 : decode cL_law 1752 = .ok (.daload, 1) := by decide +kernel
theorem dL_law_1753 : decode cL_law 1753 = .ok (.dcmp .l, 1) := by decide +kernel
theorem dL_law_1754 : decode cL_law 1754 = .ok (.ifCond .eq 11, 3) := by decide +kernel
theorem dL_law_1757 : decode cL_law 1757 = .ok (.fload 7, 2) := by decide +kernel
theorem dL_law_1759 : decode cL_law 1759 = .ok (.fload 7, 2) := by decide +kernel
theorem dL_law_1761 : decode cL_law 1761 = .ok (.fcmp .l, 1) := by decide +kernel
theorem dL_law_1762 : decode cL_law 1762 = .ok (.ifCond .ne 5, 3) := by decide +kernel
theorem dL_law_1765 : decode cL_law 1765 = .ok (.iconst 0, 1) := by decide +kernel
theorem dL_law_1766 : decode cL_law 1766 = .ok (.ireturn, 1) := by decide +kernel
theorem dL_law_1767 : decode cL_law 1767 = .ok (.goto 940, 3) := by decide +kernel
theorem dL_law_1770 : decode cL_law 1770 = .ok (.aload_n 1, 1) := by decide +kernel
theorem dL_law_1771 : decode cL_law 1771 = .ok (.aload_n 0, 1) := by decide +kernel
theorem dL_law_1772 : decode cL_law 1772 = .ok (.iload 5, 2) := by decide +kernel
theorem dL_law_1774 : decode cL_law 1774 = .ok (.iconst 1, 1) := by decide +kernel
theorem dL_law_1775 : decode cL_law 1775 = .ok (.iadd, 1) := by decide +kernel
theorem dL_law_1776 : decode cL_law 1776 = .ok (.iaload, 1) := by decide +kernel
theorem dL_law_1777 : decode cL_law 1777 = .ok (.aload 4, 2) := by decide +kernel
theorem dL_law_1779 : decode cL_law 1779 = .ok (.invokestatic 225, 3) := by decide +kernel
theorem dL_law_1782 : decode cL_law 1782 = .ok (.istore 6, 2) := by decide +kernel
theorem dL_law_1784 : decode cL_law 1784 = .ok (.aload_n 2, 1) := by decide +kernel
theorem dL_law_1785 : decode cL_law 1785 = .ok (.aload_n 0, 1) := by decide +kernel
theorem dL_law_1786 : decode cL_law 1786 = .ok (.iload 5, 2) := by decide +kernel
theorem dL_law_1788 : decode cL_law 1788 = .ok (.iconst 1, 1) := by decide +kernel
theorem dL_law_1789 : decode cL_law 1789 = .ok (.iadd, 1) := by decide +kernel
theorem dL_law_1790 : decode cL_law 1790 = .ok (.iaload, 1) := by decide +kernel
theorem dL_law_1791 : decode cL_law 1791 = .ok (.invokevirtual 228, 3) := by decide +kernel
theorem dL_law_1794 : decode cL_law 1794 = .ok (.dstore 7, 2) := by decide +kernel
theorem dL_law_1796 : decode cL_law 1796 = .ok (.aload_n 2, 1) := by decide +kernel
theorem dL_law_1797 : decode cL_law 1797 = .ok (.invokevirtual 150, 3) := by decide +kernel
theorem dL_law_1800 : decode cL_law 1800 = .ok (.iload 6, 2) := by decide +kernel
theorem dL_law_1802 : decode cL_law 1802 = .ok (.if_icmp .eq 5, 3) := by decide +kernel
theorem dL_law_1805 : decode cL_law 1805 = .ok (.iconst 0, 1) := by decide +kernel
theorem dL_law_1806 : decode cL_law 1806 = .ok (.ireturn, 1) := by decide +kernel
theorem dL_law_1807 : decode cL_law 1807 = .ok (.iload 6, 2) := by decide +kernel
theorem dL_law_1809 : decode cL_law 1809 = .ok (.ifCond .ne 35, 3) := by decide +kernel
theorem dL_law_1812 : decode cL_law 1812 = .ok (.aload 4, 2) := by decide +kernel
theorem dL_law_1814 : decode cL_law 1814 = .ok (.iconst 0, 1) := by decide +kernel
theorem dL_law_1815 : decode cL_law 1815 = .ok (.daload, 1) := by decide +kernel
theorem dL_law_1816 : decode cL_law 1816 = .ok (.dload 7, 2) := by decide +kernel
theorem dL_law_1818 : decode cL_law 1818 = .ok (.dcmp .l, 1) := by decide +kernel
theorem dL_law_1819 : decode cL_law 1819 = .ok (.ifCond .eq 25, 3) := by decide +kernel
theorem dL_law_1822 : decode cL_law 1822 = .ok (.aload 4, 2) := by decide +kernel
theorem dL_law_1824 : decode cL_law 1824 = .ok (.iconst 0, 1) := by decide +kernel
theorem dL_law_1825 : decode cL_law 1825 = .ok (.daload, 1) := by decide +kernel
theorem dL_law_1826 : decode cL_law 1826 = .ok (.aload 4, 2) := by decide +kernel
theorem dL_law_1828 : decode cL_law 1828 = .ok (.iconst 0, 1) := by decide +kernel
theorem dL_law_1829 : decode cL_law 1829 = .ok (.daload, 1) := by decide +kernel
theorem dL_law_1830 : decode cL_law 1830 = .ok (.dcmp .l, 1) := by decide +kernel
theorem dL_law_1831 : decode cL_law 1831 = .ok (.ifCond .eq 11, 3) := by decide +kernel
theorem dL_law_1834 : decode cL_law 1834 = .ok (.dload 7, 2) := by decide +kernel
theorem dL_law_1836 : decode cL_law 1836 = .ok (.dload 7, 2) := by decide +kernel
theorem dL_law_1838 : decode cL_law 1838 = .ok (.dcmp .l, 1) := by decide +kernel
theorem dL_law_1839 : decode cL_law 1839 = .ok (.ifCond .ne 5, 3) := by decide +kernel
theorem dL_law_1842 : decode cL_law 1842 = .ok (.iconst 0, 1) := by decide +kernel
theorem dL_law_1843 : decode cL_law 1843 = .ok (.ireturn, 1) := by decide +kernel
theorem dL_law_1844 : decode cL_law 1844 = .ok (.goto 863, 3) := by decide +kernel
theorem dL_law_1847 : decode cL_law 1847 = .ok (.aload_n 1, 1) := by decide +kernel
theorem dL_law_1848 : decode cL_law 1848 = .ok (.invokevirtual 229, 3) := by decide +kernel
theorem dL_law_1851 : decode cL_law 1851 = .ok (.aload_n 2, 1) := by decide +kernel
theorem dL_law_1852 : decode cL_law 1852 = .ok (.invokevirtual 232, 3) := by decide +kernel
theorem dL_law_1855 : decode cL_law 1855 = .ok (.if_icmp .eq 852, 3) := by decide +kernel
theorem dL_law_1858 : decode cL_law 1858 = .ok (.iconst 0, 1) := by decide +kernel
theorem dL_law_1859 : decode cL_law 1859 = .ok (.ireturn, 1) := by decide +kernel
theorem dL_law_1860 : decode cL_law 1860 = .ok (.aload_n 1, 1) := by decide +kernel
theorem dL_law_1861 : decode cL_law 1861 = .ok (.invokevirtual 233, 3) := by decide +kernel
theorem dL_law_1864 : decode cL_law 1864 = .ok (.aload_n 2, 1) := by decide +kernel
theorem dL_law_1865 : decode cL_law 1865 = .ok (.invokevirtual 236, 3) := by decide +kernel
theorem dL_law_1868 : decode cL_law 1868 = .ok (.if_icmp .eq 839, 3) := by decide +kernel
theorem dL_law_1871 : decode cL_law 1871 = .ok (.iconst 0, 1) := by decide +kernel
theorem dL_law_1872 : decode cL_law 1872 = .ok (.ireturn, 1) := by decide +kernel
theorem dL_law_1873 : decode cL_law 1873 = .ok (.aload_n 1, 1) := by decide +kernel
theorem dL_law_1874 : decode cL_law 1874 = .ok (.invokevirtual 237, 3) := by decide +kernel
theorem dL_law_1877 : decode cL_law 1877 = .ok (.aload_n 2, 1) := by decide +kernel
theorem dL_law_1878 : decode cL_law 1878 = .ok (.invokevirtual 240, 3) := by decide +kernel
theorem dL_law_1881 : decode cL_law 1881 = .ok (.if_icmp .eq 826, 3) := by decide +kernel
theorem dL_law_1884 : decode cL_law 1884 = .ok (.iconst 0, 1) := by decide +kernel
theorem dL_law_1885 : decode cL_law 1885 = .ok (.ireturn, 1) := by decide +kernel
theorem dL_law_1886 : decode cL_law 1886 = .ok (.aload_n 1, 1) := by decide +kernel
theorem dL_law_1887 : decode cL_law 1887 = .ok (.aload_n 0, 1) := by decide +kernel
theorem dL_law_1888 : decode cL_law 1888 = .ok (.iload 5, 2) := by decide +kernel
theorem dL_law_1890 : decode cL_law 1890 = .ok (.iconst 1, 1) := by decide +kernel
theorem dL_law_1891 : decode cL_law 1891 = .ok (.iadd, 1) := by decide +kernel
theorem dL_law_1892 : decode cL_law 1892 = .ok (.iaload, 1) := by decide +kernel
theorem dL_law_1893 : decode cL_law 1893 = .ok (.aload_n 3, 1) := by decide +kernel
theorem dL_law_1894 : decode cL_law 1894 = .ok (.invokestatic 241, 3) := by decide +kernel
theorem dL_law_1897 : decode cL_law 1897 = .ok (.istore 6, 2) := by decide +kernel
theorem dL_law_1899 : decode cL_law 1899 = .ok (.aload_n 2, 1) := by decide +kernel
theorem dL_law_1900 : decode cL_law 1900 = .ok (.aload_n 0, 1) := by decide +kernel
theorem dL_law_1901 : decode cL_law 1901 = .ok (.iload 5, 2) := by decide +kernel
theorem dL_law_1903 : decode cL_law 1903 = .ok (.iconst 1, 1) := by decide +kernel
theorem dL_law_1904 : decode cL_law 1904 = .ok (.iadd, 1) := by decide +kernel
theorem dL_law_1905 : decode cL_law 1905 = .ok (.iaload, 1) := by decide +kernel
theorem dL_law_1906 : decode cL_law 1906 = .ok (.invokevirtual 243, 3) := by decide +kernel
theorem dL_law_1909 : decode cL_law 1909 = .ok (.istore 7, 2) := by decide +kernel
theorem dL_law_1911 : decode cL_law 1911 = .ok (.aload_n 2, 1) := by decide +kernel
theorem dL_law_1912 : decode cL_law 1912 = .ok (.invokevirtual 150, 3) := by decide +kernel
theorem dL_law_1915 : decode cL_law 1915 = .ok (.iload 6, 2) := by decide +kernel
theorem dL_law_1917 : decode cL_law 1917 = .ok (.if_icmp .eq 5, 3) := by decide +kernel
theorem dL_law_1920 : decode cL_law 1920 = .ok (.iconst 0, 1) := by decide +kernel
theorem dL_law_1921 : decode cL_law 1921 = .ok (.ireturn, 1) := by decide +kernel
theorem dL_law_1922 : decode cL_law 1922 = .ok (.iload 6, 2) := by decide +kernel
theorem dL_law_1924 : decode cL_law 1924 = .ok (.ifCond .ne 15, 3) := by decide +kernel
theorem dL_law_1927 : decode cL_law 1927 = .ok (.aload_n 3, 1) := by decide +kernel
theorem dL_law_1928 : decode cL_law 1928 = .ok (.iconst 0, 1) := by decide +kernel
theorem dL_law_1929 : decode cL_law 1929 = .ok (.laload, 1) := by decide +kernel
theorem dL_law_1930 : decode cL_law 1930 = .ok (.iload 7, 2) := by decide +kernel
theorem dL_law_1932 : decode cL_law 1932 = .ok (.i2l, 1) := by decide +kernel
theorem dL_law_1933 : decode cL_law 1933 = .ok (.lcmp, 1) := by decide +kernel
theorem dL_law_1934 : decode cL_law 1934 = .ok (.ifCond .eq 5, 3) := by decide +kernel
theorem dL_law_1937 : decode cL_law 1937 = .ok (.iconst 0, 1) := by decide +kernel
theorem dL_law_1938 : decode cL_law 1938 = .ok (.ireturn, 1) := by decide +kernel
theorem dL_law_1939 : decode cL_law 1939 = .ok (.goto 768, 3) := by decide +kernel
theorem dL_law_1942 : decode cL_law 1942 = .ok (.aload_n 1, 1) := by decide +kernel
theorem dL_law_1943 : decode cL_law 1943 = .ok (.aload_n 0, 1) := by decide +kernel
theorem dL_law_1944 : decode cL_law 1944 = .ok (.iload 5, 2) := by decide +kernel
theorem dL_law_1946 : decode cL_law 1946 = .ok (.iconst 1, 1) := by decide +kernel
theorem dL_law_1947 : decode cL_law 1947 = .ok (.iadd, 1) := by decide +kernel
theorem dL_law_1948 : decode cL_law 1948 = .ok (.iaload, 1) := by decide +kernel
theorem dL_law_1949 : decode cL_law 1949 = .ok (.aload_n 0, 1) := by decide +kernel
theorem dL_law_1950 : decode cL_law 1950 = .ok (.iload 5, 2) := by decide +kernel
theorem dL_law_1952 : decode cL_law 1952 = .ok (.iconst 2, 1) := by decide +kernel
theorem dL_law_1953 : decode cL_law 1953 = .ok (.iadd, 1) := by decide +kernel
theorem dL_law_1954 : decode cL_law 1954 = .ok (.iaload, 1) := by decide +kernel
theorem dL_law_1955 : decode cL_law 1955 = .ok (.aload_n 0, 1) := by decide +kernel
theorem dL_law_1956 : decode cL_law 1956 = .ok (.iload 5, 2) := by decide +kernel
theorem dL_law_1958 : decode cL_law 1958 = .ok (.iconst 3, 1) := by decide +kernel
theorem dL_law_1959 : decode cL_law 1959 = .ok (.iadd, 1) := by decide +kernel
theorem dL_law_1960 : decode cL_law 1960 = .ok (.iaload, 1) := by decide +kernel
theorem dL_law_1961 : decode cL_law 1961 = .ok (.aload_n 3, 1) := by decide +kernel
theorem dL_law_1962 : decode cL_law 1962 = .ok (.invokestatic 244, 3) := by decide +kernel
theorem dL_law_1965 : decode cL_law 1965 = .ok (.istore 6, 2) := by decide +kernel
theorem dL_law_1967 : decode cL_law 1967 = .ok (.aload_n 2, 1) := by decide +kernel
theorem dL_law_1968 : decode cL_law 1968 = .ok (.aload_n 0, 1) := by decide +kernel
theorem dL_law_1969 : decode cL_law 1969 = .ok (.iload 5, 2) := by decide +kernel
theorem dL_law_1971 : decode cL_law 1971 = .ok (.iconst 1, 1) := by decide +kernel
theorem dL_law_1972 : decode cL_law 1972 = .ok (.iadd, 1) := by decide +kernel
theorem dL_law_1973 : decode cL_law 1973 = .ok (.iaload, 1) := by decide +kernel
theorem dL_law_1974 : decode cL_law 1974 = .ok (.aload_n 0, 1) := by decide +kernel
theorem dL_law_1975 : decode cL_law 1975 = .ok (.iload 5, 2) := by decide +kernel
theorem dL_law_1977 : decode cL_law 1977 = .ok (.iconst 2, 1) := by decide +kernel
theorem dL_law_1978 : decode cL_law 1978 = .ok (.iadd, 1) := by decide +kernel
theorem dL_law_1979 : decode cL_law 1979 = .ok (.iaload, 1) := by decide +kernel
theorem dL_law_1980 : decode cL_law 1980 = .ok (.aload_n 0, 1) := by decide +kernel
theorem dL_law_1981 : decode cL_law 1981 = .ok (.iload 5, 2) := by decide +kernel
theorem dL_law_1983 : decode cL_law 1983 = .ok (.iconst 3, 1) := by decide +kernel
theorem dL_law_1984 : decode cL_law 1984 = .ok (.iadd, 1) := by decide +kernel
theorem dL_law_1985 : decode cL_law 1985 = .ok (.iaload, 1) := by decide +kernel
theorem dL_law_1986 : decode cL_law 1986 = .ok (.invokevirtual 246, 3) := by decide +kernel
theorem dL_law_1989 : decode cL_law 1989 = .ok (.istore 7, 2) := by decide +kernel
theorem dL_law_1991 : decode cL_law 1991 = .ok (.aload_n 2, 1) := by decide +kernel
theorem dL_law_1992 : decode cL_law 1992 = .ok (.invokevirtual 150, 3) := by decide +kernel
theorem dL_law_1995 : decode cL_law 1995 = .ok (.iload 6, 2) := by decide +kernel
theorem dL_law_1997 : decode cL_law 1997 = .ok (.if_icmp .eq 5, 3) := by decide +kernel
theorem dL_law_2000 : decode cL_law 2000 = .ok (.iconst 0, 1) := by decide +kernel
theorem dL_law_2001 : decode cL_law 2001 = .ok (.ireturn, 1) := by decide +kernel
theorem dL_law_2002 : decode cL_law 2002 = .ok (.iload 6, 2) := by decide +kernel
theorem dL_law_2004 : decode cL_law 2004 = .ok (.ifCond .ne 15, 3) := by decide +kernel
theorem dL_law_2007 : decode cL_law 2007 = .ok (.aload_n 3, 1) := by decide +kernel
theorem dL_law_2008 : decode cL_law 2008 = .ok (.iconst 0, 1) := by decide +kernel
theorem dL_law_2009 : decode cL_law 2009 = .ok (.laload, 1) := by decide +kernel
theorem dL_law_2010 : decode cL_law 2010 = .ok (.iload 7, 2) := by decide +kernel
theorem dL_law_2012 : decode cL_law 2012 = .ok (.i2l, 1) := by decide +kernel
theorem dL_law_2013 : decode cL_law 2013 = .ok (.lcmp, 1) := by decide +kernel
theorem dL_law_2014 : decode cL_law 2014 = .ok (.ifCond .eq 5, 3) := by decide +kernel
theorem dL_law_2017 : decode cL_law 2017 = .ok (.iconst 0, 1) := by decide +kernel
theorem dL_law_2018 : decode cL_law 2018 = .ok (.ireturn, 1) := by decide +kernel
theorem dL_law_2019 : decode cL_law 2019 = .ok (.goto 688, 3) := by decide +kernel
theorem dL_law_2022 : decode cL_law 2022 = .ok (.aload_n 1, 1) := by decide +kernel
theorem dL_law_2023 : decode cL_law 2023 = .ok (.aload_n 0, 1) := by decide +kernel
theorem dL_law_2024 : decode cL_law 2024 = .ok (.iload 5, 2) := by decide +kernel
theorem dL_law_2026 : decode cL_law 2026 = .ok (.iconst 1, 1) := by decide +kernel
theorem dL_law_2027 : decode cL_law 2027 = .ok (.iadd, 1) := by decide +kernel
theorem dL_law_2028 : decode cL_law 2028 = .ok (.iaload, 1) := by decide +kernel
theorem dL_law_2029 : decode cL_law 2029 = .ok (.aload_n 3, 1) := by decide +kernel
theorem dL_law_2030 : decode cL_law 2030 = .ok (.invokestatic 247, 3) := by decide +kernel
theorem dL_law_2033 : decode cL_law 2033 = .ok (.istore 6, 2) := by decide +kernel
theorem dL_law_2035 : decode cL_law 2035 = .ok (.aload_n 2, 1) := by decide +kernel
theorem dL_law_2036 : decode cL_law 2036 = .ok (.aload_n 0, 1) := by decide +kernel
theorem dL_law_2037 : decode cL_law 2037 = .ok (.iload 5, 2) := by decide +kernel
theorem dL_law_2039 : decode cL_law 2039 = .ok (.iconst 1, 1) := by decide +kernel
theorem dL_law_2040 : decode cL_law 2040 = .ok (.iadd, 1) := by decide +kernel
theorem dL_law_2041 : decode cL_law 2041 = .ok (.iaload, 1) := by decide +kernel
theorem dL_law_2042 : decode cL_law 2042 = .ok (.invokevirtual 249, 3) := by decide +kernel
theorem dL_law_2045 : decode cL_law 2045 = .ok (.istore 7, 2) := by decide +kernel
theorem dL_law_2047 : decode cL_law 2047 = .ok (.aload_n 2, 1) := by decide +kernel
theorem dL_law_2048 : decode cL_law 2048 = .ok (.invokevirtual 150, 3) := by decide +kernel
theorem dL_law_2051 : decode cL_law 2051 = .ok (.iload 6, 2) := by decide +kernel
theorem dL_law_2053 : decode cL_law 2053 = .ok (.if_icmp .eq 5, 3) := by decide +kernel
theorem dL_law_2056 : decode cL_law 2056 = .ok (.iconst 0, 1) := by decide +kernel
theorem dL_law_2057 : decode cL_law 2057 = .ok (.ireturn, 1) := by decide +kernel
theorem dL_law_2058 : decode cL_law 2058 = .ok (.iload 6, 2) := by decide +kernel
theorem dL_law_2060 : decode cL_law 2060 = .ok (.ifCond .ne 15, 3) := by decide +kernel
theorem dL_law_2063 : decode cL_law 2063 = .ok (.aload_n 3, 1) := by decide +kernel
theorem dL_law_2064 : decode cL_law 2064 = .ok (.iconst 0, 1) := by decide +kernel
theorem dL_law_2065 : decode cL_law 2065 = .ok (.laload, 1) := by decide +kernel
theorem dL_law_2066 : decode cL_law 2066 = .ok (.iload 7, 2) := by decide +kernel
theorem dL_law_2068 : decode cL_law 2068 = .ok (.i2l, 1) := by decide +kernel
theorem dL_law_2069 : decode cL_law 2069 = .ok (.lcmp, 1) := by decide +kernel
theorem dL_law_2070 : decode cL_law 2070 = .ok (.ifCond .eq 5, 3) := by decide +kernel
theorem dL_law_2073 : decode cL_law 2073 = .ok (.iconst 0, 1) := by decide +kernel
theorem dL_law_2074 : decode cL_law 2074 = .ok (.ireturn, 1) := by decide +kernel
theorem dL_law_2075 : decode cL_law 2075 = .ok (.goto 632, 3) := by decide +kernel
theorem dL_law_2078 : decode cL_law 2078 = .ok (.aload_n 1, 1) := by decide +kernel
theorem dL_law_2079 : decode cL_law 2079 = .ok (.aload_n 0, 1) := by decide +kernel
theorem dL_law_2080 : decode cL_law 2080 = .ok (.iload 5, 2) := by decide +kernel
theorem dL_law_2082 : decode cL_law 2082 = .ok (.iconst 1, 1) := by decide +kernel
theorem dL_law_2083 : decode cL_law 2083 = .ok (.iadd, 1) := by decide +kernel
theorem dL_law_2084 : decode cL_law 2084 = .ok (.iaload, 1) := by decide +kernel
theorem dL_law_2085 : decode cL_law 2085 = .ok (.invokevirtual 250, 3) := by decide +kernel
theorem dL_law_2088 : decode cL_law 2088 = .ok (.aload_n 2, 1) := by decide +kernel
theorem dL_law_2089 : decode cL_law 2089 = .ok (.aload_n 0, 1) := by decide +kernel
theorem dL_law_2090 : decode cL_law 2090 = .ok (.iload 5, 2) := by decide +kernel
theorem dL_law_2092 : decode cL_law 2092 = .ok (.iconst 1, 1) := by decide +kernel
theorem dL_law_2093 : decode cL_law 2093 = .ok (.iadd, 1) := by decide +kernel
theorem dL_law_2094 : decode cL_law 2094 = .ok (.iaload, 1) := by decide +kernel
theorem dL_law_2095 : decode cL_law 2095 = .ok (.invokevirtual 253, 3) := by decide +kernel
theorem dL_law_2098 : decode cL_law 2098 = .ok (.if_icmp .eq 609, 3) := by decide +kernel
theorem dL_law_2101 : decode cL_law 2101 = .ok (.iconst 0, 1) := by decide +kernel
theorem dL_law_2102 : decode cL_law 2102 = .ok (.ireturn, 1) := by decide +kernel
theorem dL_law_2103 : decode cL_law 2103 = .ok (.aload_n 1, 1) := by decide +kernel
theorem dL_law_2104 : decode cL_law 2104 = .ok (.aload_n 0, 1) := by decide +kernel
theorem dL_law_2105 : decode cL_law 2105 = .ok (.iload 5, 2) := by decide +kernel
theorem dL_law_2107 : decode cL_law 2107 = .ok (.iconst 1, 1) := by decide +kernel
theorem dL_law_2108 : decode cL_law 2108 = .ok (.iadd, 1) := by decide +kernel
theorem dL_law_2109 : decode cL_law 2109 = .ok (.iaload, 1) := by decide +kernel
theorem dL_law_2110 : decode cL_law 2110 = .ok (.aload_n 3, 1) := by decide +kernel
theorem dL_law_2111 : decode cL_law 2111 = .ok (.invokestatic 254, 3) := by decide +kernel
theorem dL_law_2114 : decode cL_law 2114 = .ok (.istore 6, 2) := by decide +kernel
theorem dL_law_2116 : decode cL_law 2116 = .ok (.aload_n 2, 1) := by decide +kernel
theorem dL_law_2117 : decode cL_law 2117 = .ok (.aload_n 0, 1) := by decide +kernel
theorem dL_law_2118 : decode cL_law 2118 = .ok (.iload 5, 2) := by decide +kernel
theorem dL_law_2120 : decode cL_law 2120 = .ok (.iconst 1, 1) := by decide +kernel
theorem dL_law_2121 : decode cL_law 2121 = .ok (.iadd, 1) := by decide +kernel
theorem dL_law_2122 : decode cL_law 2122 = .ok (.iaload, 1) := by decide +kernel
theorem dL_law_2123 : decode cL_law 2123 = .ok (.invokevirtual 256, 3) := by decide +kernel
theorem dL_law_2126 : decode cL_law 2126 = .ok (.istore 7, 2) := by decide +kernel
theorem dL_law_2128 : decode cL_law 2128 = .ok (.aload_n 2, 1) := by decide +kernel
theorem dL_law_2129 : decode cL_law 2129 = .ok (.invokevirtual 150, 3) := by decide +kernel
theorem dL_law_2132 : decode cL_law 2132 = .ok (.iload 6, 2) := by decide +kernel
theorem dL_law_2134 : decode cL_law 2134 = .ok (.if_icmp .eq 5, 3) := by decide +kernel
theorem dL_law_2137 : decode cL_law 2137 = .ok (.iconst 0, 1) := by decide +kernel
theorem dL_law_2138 : decode cL_law 2138 = .ok (.ireturn, 1) := by decide +kernel
theorem dL_law_2139 : decode cL_law 2139 = .ok (.iload 6, 2) := by decide +kernel
theorem dL_law_2141 : decode cL_law 2141 = .ok (.ifCond .ne 15, 3) := by decide +kernel
theorem dL_law_2144 : decode cL_law 2144 = .ok (.aload_n 3, 1) := by decide +kernel
theorem dL_law_2145 : decode cL_law 2145 = .ok (.iconst 0, 1) := by decide +kernel
theorem dL_law_2146 : decode cL_law 2146 = .ok (.laload, 1) := by decide +kernel
theorem dL_law_2147 : decode cL_law 2147 = .ok (.iload 7, 2) := by decide +kernel
theorem dL_law_2149 : decode cL_law 2149 = .ok (.i2l, 1) := by decide +kernel
theorem dL_law_2150 : decode cL_law 2150 = .ok (.lcmp, 1) := by decide +kernel
theorem dL_law_2151 : decode cL_law 2151 = .ok (.ifCond .eq 5, 3) := by decide +kernel
theorem dL_law_2154 : decode cL_law 2154 = .ok (.iconst 0, 1) := by decide +kernel
theorem dL_law_2155 : decode cL_law 2155 = .ok (.ireturn, 1) := by decide +kernel
theorem dL_law_2156 : decode cL_law 2156 = .ok (.goto 551, 3) := by decide +kernel
theorem dL_law_2159 : decode cL_law 2159 = .ok (.aload_n 1, 1) := by decide +kernel
theorem dL_law_2160 : decode cL_law 2160 = .ok (.invokevirtual 257, 3) := by decide +kernel
theorem dL_law_2163 : decode cL_law 2163 = .ok (.aload_n 2, 1) := by decide +kernel
theorem dL_law_2164 : decode cL_law 2164 = .ok (.invokevirtual 260, 3) := by decide +kernel
theorem dL_law_2167 : decode cL_law 2167 = .ok (.if_icmp .eq 540, 3) := by decide +kernel
theorem dL_law_2170 : decode cL_law 2170 = .ok (.iconst 0, 1) := by decide +kernel
theorem dL_law_2171 : decode cL_law 2171 = .ok (.ireturn, 1) := by decide +kernel
theorem dL_law_2172 : decode cL_law 2172 = .ok (.aload_n 1, 1) := by decide +kernel
theorem dL_law_2173 : decode cL_law 2173 = .ok (.invokevirtual 261, 3) := by decide +kernel
theorem dL_law_2176 : decode cL_law 2176 = .ok (.aload_n 2, 1) := by decide +kernel
theorem dL_law_2177 : decode cL_law 2177 = .ok (.invokevirtual 264, 3) := by decide +kernel
theorem dL_law_2180 : decode cL_law 2180 = .ok (.if_icmp .eq 527, 3) := by decide +kernel
theorem dL_law_2183 : decode cL_law 2183 = .ok (.iconst 0, 1) := by decide +kernel
theorem dL_law_2184 : decode cL_law 2184 = .ok (.ireturn, 1) := by decide +kernel
theorem dL_law_2185 : decode cL_law 2185 = .ok (.aload_n 1, 1) := by decide +kernel
theorem dL_law_2186 : decode cL_law 2186 = .ok (.aload_n 0, 1) := by decide +kernel
theorem dL_law_2187 : decode cL_law 2187 = .ok (.iload 5, 2) := by decide +kernel
theorem dL_law_2189 : decode cL_law 2189 = .ok (.iconst 1, 1) := by decide +kernel
theorem dL_law_2190 : decode cL_law 2190 = .ok (.iadd, 1) := by decide +kernel
theorem dL_law_2191 : decode cL_law 2191 = .ok (.iaload, 1) := by decide +kernel
theorem dL_law_2192 : decode cL_law 2192 = .ok (.aload_n 0, 1) := by decide +kernel
theorem dL_law_2193 : decode cL_law 2193 = .ok (.iload 5, 2) := by decide +kernel
theorem dL_law_2195 : decode cL_law 2195 = .ok (.iconst 2, 1) := by decide +kernel
theorem dL_law_2196 : decode cL_law 2196 = .ok (.iadd, 1) := by decide +kernel
theorem dL_law_2197 : decode cL_law 2197 = .ok (.iaload, 1) := by decide +kernel
theorem dL_law_2198 : decode cL_law 2198 = .ok (.aload_n 3, 1) := by decide +kernel
theorem dL_law_2199 : decode cL_law 2199 = .ok (.invokestatic 265, 3) := by decide +kernel
theorem dL_law_2202 : decode cL_law 2202 = .ok (.istore 6, 2) := by decide +kernel
theorem dL_law_2204 : decode cL_law 2204 = .ok (.aload_n 2, 1) := by decide +kernel
theorem dL_law_2205 : decode cL_law 2205 = .ok (.aload_n 0, 1) := by decide +kernel
theorem dL_law_2206 : decode cL_law 2206 = .ok (.iload 5, 2) := by decide +kernel
theorem dL_law_2208 : decode cL_law 2208 = .ok (.iconst 1, 1) := by decide +kernel
theorem dL_law_2209 : decode cL_law 2209 = .ok (.iadd, 1) := by decide +kernel
theorem dL_law_2210 : decode cL_law 2210 = .ok (.iaload, 1) := by decide +kernel
theorem dL_law_2211 : decode cL_law 2211 = .ok (.aload_n 0, 1) := by decide +kernel
theorem dL_law_2212 : decode cL_law 2212 = .ok (.iload 5, 2) := by decide +kernel
theorem dL_law_2214 : decode cL_law 2214 = .ok (.iconst 2, 1) := by decide +kernel
theorem dL_law_2215 : decode cL_law 2215 = .ok (.iadd, 1) := by decide +kernel
theorem dL_law_2216 : decode cL_law 2216 = .ok (.iaload, 1) := by decide +kernel
theorem dL_law_2217 : decode cL_law 2217 = .ok (.invokevirtual 267, 3) := by decide +kernel
theorem dL_law_2220 : decode cL_law 2220 = .ok (.istore 7, 2) := by decide +kernel
theorem dL_law_2222 : decode cL_law 2222 = .ok (.aload_n 2, 1) := by decide +kernel
theorem dL_law_2223 : decode cL_law 2223 = .ok (.invokevirtual 150, 3) := by decide +kernel
theorem dL_law_2226 : decode cL_law 2226 = .ok (.iload 6, 2) := by decide +kernel
theorem dL_law_2228 : decode cL_law 2228 = .ok (.if_icmp .eq 5, 3) := by decide +kernel
theorem dL_law_2231 : decode cL_law 2231 = .ok (.iconst 0, 1) := by decide +kernel
theorem dL_law_2232 : decode cL_law 2232 = .ok (.ireturn, 1) := by decide +kernel
theorem dL_law_2233 : decode cL_law 2233 = .ok (.iload 6, 2) := by decide +kernel
theorem dL_law_2235 : decode cL_law 2235 = .ok (.ifCond .ne 15, 3) := by decide +kernel
theorem dL_law_2238 : decode cL_law 2238 = .ok (.aload_n 3, 1) := by decide +kernel
theorem dL_law_2239 : decode cL_law 2239 = .ok (.iconst 0, 1) := by decide +kernel
theorem dL_law_2240 : decode cL_law 2240 = .ok (.laload, 1) := by decide +kernel
theorem dL_law_2241 : decode cL_law 2241 = .ok (.iload 7, 2) := by decide +kernel
theorem dL_law_2243 : decode cL_law 2243 = .ok (.i2l, 1) := by decide +kernel
theorem dL_law_2244 : decode cL_law 2244 = .ok (.lcmp, 1) := by decide +kernel
theorem dL_law_2245 : decode cL_law 2245 = .ok (.ifCond .eq 5, 3) := by decide +kernel
theorem dL_law_2248 : decode cL_law 2248 = .ok (.iconst 0, 1) := by decide +kernel
theorem dL_law_2249 : decode cL_law 2249 = .ok (.ireturn, 1) := by decide +kernel
theorem dL_law_2250 : decode cL_law 2250 = .ok (.goto 457, 3) := by decide +kernel
theorem dL_law_2253 : decode cL_law 2253 = .ok (.aload_n 1, 1) := by decide +kernel
theorem dL_law_2254 : decode cL_law 2254 = .ok (.aload_n 0, 1) := by decide +kernel
theorem dL_law_2255 : decode cL_law 2255 = .ok (.iload 5, 2) := by decide +kernel
theorem dL_law_2257 : decode cL_law 2257 = .ok (.iconst 1, 1) := by decide +kernel
theorem dL_law_2258 : decode cL_law 2258 = .ok (.iadd, 1) := by decide +kernel
theorem dL_law_2259 : decode cL_law 2259 = .ok (.iaload, 1) := by decide +kernel
theorem dL_law_2260 : decode cL_law 2260 = .ok (.aload_n 3, 1) := by decide +kernel
theorem dL_law_2261 : decode cL_law 2261 = .ok (.invokestatic 268, 3) := by decide +kernel
theorem dL_law_2264 : decode cL_law 2264 = .ok (.istore 6, 2) := by decide +kernel
theorem dL_law_2266 : decode cL_law 2266 = .ok (.aload_n 2, 1) := by decide +kernel
theorem dL_law_2267 : decode cL_law 2267 = .ok (.aload_n 0, 1) := by decide +kernel
theorem dL_law_2268 : decode cL_law 2268 = .ok (.iload 5, 2) := by decide +kernel
theorem dL_law_2270 : decode cL_law 2270 = .ok (.iconst 1, 1) := by decide +kernel
theorem dL_law_2271 : decode cL_law 2271 = .ok (.iadd, 1) := by decide +kernel
theorem dL_law_2272 : decode cL_law 2272 = .ok (.iaload, 1) := by decide +kernel
theorem dL_law_2273 : decode cL_law 2273 = .ok (.invokevirtual 270, 3) := by decide +kernel
theorem dL_law_2276 : decode cL_law 2276 = .ok (.istore 7, 2) := by decide +kernel
theorem dL_law_2278 : decode cL_law 2278 = .ok (.aload_n 2, 1) := by decide +kernel
theorem dL_law_2279 : decode cL_law 2279 = .ok (.invokevirtual 150, 3) := by decide +kernel
theorem dL_law_2282 : decode cL_law 2282 = .ok (.iload 6, 2) := by decide +kernel
theorem dL_law_2284 : decode cL_law 2284 = .ok (.if_icmp .eq 5, 3) := by decide +kernel
theorem dL_law_2287 : decode cL_law 2287 = .ok (.iconst 0, 1) := by decide +kernel
theorem dL_law_2288 : decode cL_law 2288 = .ok (.ireturn, 1) := by decide +kernel
theorem dL_law_2289 : decode cL_law 2289 = .ok (.iload 6, 2) := by decide +kernel
theorem dL_law_2291 : decode cL_law 2291 = .ok (.ifCond .ne 15, 3) := by decide +kernel
theorem dL_law_2294 : decode cL_law 2294 = .ok (.aload_n 3, 1) := by decide +kernel
theorem dL_law_2295 : decode cL_law 2295 = .ok (.iconst 0, 1) := by decide +kernel
theorem dL_law_2296 : decode cL_law 2296 = .ok (.laload, 1) := by decide +kernel
theorem dL_law_2297 : decode cL_law 2297 = .ok (.iload 7, 2) := by decide +kernel
theorem dL_law_2299 : decode cL_law 2299 = .ok (.i2l, 1) := by decide +kernel
theorem dL_law_2300 : decode cL_law 2300 = .ok (.lcmp, 1) := by decide +kernel
theorem dL_law_2301 : decode cL_law 2301 = .ok (.ifCond .eq 5, 3) := by decide +kernel
theorem dL_law_2304 : decode cL_law 2304 = .ok (.iconst 0, 1) := by decide +kernel
theorem dL_law_2305 : decode cL_law 2305 = .ok (.ireturn, 1) := by decide +kernel
theorem dL_law_2306 : decode cL_law 2306 = .ok (.goto 401, 3) := by decide +kernel
theorem dL_law_2309 : decode cL_law 2309 = .ok (.aload_n 1, 1) := by decide +kernel
theorem dL_law_2310 : decode cL_law 2310 = .ok (.invokevirtual 271, 3) := by decide +kernel
theorem dL_law_2313 : decode cL_law 2313 = .ok (.aload_n 2, 1) := by decide +kernel
theorem dL_law_2314 : decode cL_law 2314 = .ok (.invokevirtual 274, 3) := by decide +kernel
theorem dL_law_2317 : decode cL_law 2317 = .ok (.if_icmp .eq 390, 3) := by decide +kernel
theorem dL_law_2320 : decode cL_law 2320 = .ok (.iconst 0, 1) := by decide +kernel
theorem dL_law_2321 : decode cL_law 2321 = .ok (.ireturn, 1) := by decide +kernel
theorem dL_law_2322 : decode cL_law 2322 = .ok (.aload_n 1, 1) := by decide +kernel
theorem dL_law_2323 : decode cL_law 2323 = .ok (.aload_n 0, 1) := by decide +kernel
theorem dL_law_2324 : decode cL_law 2324 = .ok (.iload 5, 2) := by decide +kernel
theorem dL_law_2326 : decode cL_law 2326 = .ok (.iconst 1, 1) := by decide +kernel
theorem dL_law_2327 : decode cL_law 2327 = .ok (.iadd, 1) := by decide +kernel
theorem dL_law_2328 : decode cL_law 2328 = .ok (.iaload, 1) := by decide +kernel
theorem dL_law_2329 : decode cL_law 2329 = .ok (.aload_n 3, 1) := by decide +kernel
theorem dL_law_2330 : decode cL_law 2330 = .ok (.invokestatic 275, 3) := by decide +kernel
theorem dL_law_2333 : decode cL_law 2333 = .ok (.istore 6, 2) := by decide +kernel
theorem dL_law_2335 : decode cL_law 2335 = .ok (.aload_n 2, 1) := by decide +kernel
theorem dL_law_2336 : decode cL_law 2336 = .ok (.aload_n 0, 1) := by decide +kernel
theorem dL_law_2337 : decode cL_law 2337 = .ok (.iload 5, 2) := by decide +kernel
theorem dL_law_2339 : decode cL_law 2339 = .ok (.iconst 1, 1) := by decide +kernel
theorem dL_law_2340 : decode cL_law 2340 = .ok (.iadd, 1) := by decide +kernel
theorem dL_law_2341 : decode cL_law 2341 = .ok (.iaload, 1) := by decide +kernel
theorem dL_law_2342 : decode cL_law 2342 = .ok (.invokevirtual 277, 3) := by decide +kernel
theorem dL_law_2345 : decode cL_law 2345 = .ok (.istore 7, 2) := by decide +kernel
theorem dL_law_2347 : decode cL_law 2347 = .ok (.aload_n 2, 1) := by decide +kernel
theorem dL_law_2348 : decode cL_law 2348 = .ok (.invokevirtual 150, 3) := by decide +kernel
theorem dL_law_2351 : decode cL_law 2351 = .ok (.iload 6, 2) := by decide +kernel
theorem dL_law_2353 : decode cL_law 2353 = .ok (.if_icmp .eq 5, 3) := by decide +kernel
theorem dL_law_2356 : decode cL_law 2356 = .ok (.iconst 0, 1) := by decide +kernel
theorem dL_law_2357 : decode cL_law 2357 = .ok (.ireturn, 1) := by decide +kernel
theorem dL_law_2358 : decode cL_law 2358 = .ok (.iload 6, 2) := by decide +kernel
theorem dL_law_2360 : decode cL_law 2360 = .ok (.ifCond .ne 15, 3) := by decide +kernel
theorem dL_law_2363 : decode cL_law 2363 = .ok (.aload_n 3, 1) := by decide +kernel
theorem dL_law_2364 : decode cL_law 2364 = .ok (.iconst 0, 1) := by decide +kernel
theorem dL_law_2365 : decode cL_law 2365 = .ok (.laload, 1) := by decide +kernel
theorem dL_law_2366 : decode cL_law 2366 = .ok (.iload 7, 2) := by decide +kernel
theorem dL_law_2368 : decode cL_law 2368 = .ok (.i2l, 1) := by decide +kernel
theorem dL_law_2369 : decode cL_law 2369 = .ok (.lcmp, 1) := by decide +kernel
theorem dL_law_2370 : decode cL_law 2370 = .ok (.ifCond .eq 5, 3) := by decide +kernel
theorem dL_law_2373 : decode cL_law 2373 = .ok (.iconst 0, 1) := by decide +kernel
theorem dL_law_2374 : decode cL_law 2374 = .ok (.ireturn, 1) := by decide +kernel
theorem dL_law_2375 : decode cL_law 2375 = .ok (.goto 332, 3) := by decide +kernel
theorem dL_law_2378 : decode cL_law 2378 = .ok (.aload_n 1, 1) := by decide +kernel
theorem dL_law_2379 : decode cL_law 2379 = .ok (.invokevirtual 278, 3) := by decide +kernel
theorem dL_law_2382 : decode cL_law 2382 = .ok (.aload_n 2, 1) := by decide +kernel
theorem dL_law_2383 : decode cL_law 2383 = .ok (.invokevirtual 281, 3) := by decide +kernel
theorem dL_law_2386 : decode cL_law 2386 = .ok (.if_icmp .eq 321, 3) := by decide +kernel
theorem dL_law_2389 : decode cL_law 2389 = .ok (.iconst 0, 1) := by decide +kernel
theorem dL_law_2390 : decode cL_law 2390 = .ok (.ireturn, 1) := by decide +kernel
theorem dL_law_2391 : decode cL_law 2391 = .ok (.aload_n 1, 1) := by decide +kernel
theorem dL_law_2392 : decode cL_law 2392 = .ok (.invokevirtual 282, 3) := by decide +kernel
theorem dL_law_2395 : decode cL_law 2395 = .ok (.aload_n 2, 1) := by decide +kernel
theorem dL_law_2396 : decode cL_law 2396 = .ok (.invokevirtual 285, 3) := by decide +kernel
theorem dL_law_2399 : decode cL_law 2399 = .ok (.if_icmp .eq 308, 3) := by decide +kernel
theorem dL_law_2402 : decode cL_law 2402 = .ok (.iconst 0, 1) := by decide +kernel
theorem dL_law_2403 : decode cL_law 2403 = .ok (.ireturn, 1) := by decide +kernel
theorem dL_law_2404 : decode cL_law 2404 = .ok (.aload_n 1, 1) := by decide +kernel
theorem dL_law_2405 : decode cL_law 2405 = .ok (.invokevirtual 286, 3) := by decide +kernel
theorem dL_law_2408 : decode cL_law 2408 = .ok (.dstore 6, 2) := by decide +kernel
theorem dL_law_2410 : decode cL_law 2410 = .ok (.aload_n 2, 1) := by decide +kernel
theorem dL_law_2411 : decode cL_law 2411 = .ok (.invokevirtual 290, 3) := by decide +kernel
theorem dL_law_2414 : decode cL_law 2414 = .ok (.dstore 8, 2) := by decide +kernel
theorem dL_law_2416 : decode cL_law 2416 = .ok (.dload 6, 2) := by decide +kernel
theorem dL_law_2418 : decode cL_law 2418 = .ok (.dload 8, 2) := by decide +kernel
theorem dL_law_2420 : decode cL_law 2420 = .ok (.dcmp .l, 1) := by decide +kernel
theorem dL_law_2421 : decode cL_law 2421 = .ok (.ifCond .eq 21, 3) := by decide +kernel
theorem dL_law_2424 : decode cL_law 2424 = .ok (.dload 6, 2) := by decide +kernel
theorem dL_law_2426 : decode cL_law 2426 = .ok (.dload 6, 2) := by decide +kernel
theorem dL_law_2428 : decode cL_law 2428 = .ok (.dcmp .l, 1) := by decide +kernel
theorem dL_law_2429 : decode cL_law 2429 = .ok (.ifCond .eq 11, 3) := by decide +kernel
theorem dL_law_2432 : decode cL_law 2432 = .ok (.dload 8, 2) := by decide +kernel
theorem dL_law_2434 : decode cL_law 2434 = .ok (.dload 8, 2) := by decide +kernel
theorem dL_law_2436 : decode cL_law 2436 = .ok (.dcmp .l, 1) := by decide +kernel
theorem dL_law_2437 : decode cL_law 2437 = .ok (.ifCond .ne 5, 3) := by decide +kernel
theorem dL_law_2440 : decode cL_law 2440 = .ok (.iconst 0, 1) := by decide +kernel
theorem dL_law_2441 : decode cL_law 2441 = .ok (.ireturn, 1) := by decide +kernel
theorem dL_law_2442 : decode cL_law 2442 = .ok (.goto 265, 3) := by decide +kernel
theorem dL_law_2445 : decode cL_law 2445 = .ok (.aload_n 1, 1) := by decide +kernel
theorem dL_law_2446 : decode cL_law 2446 = .ok (.aload_n 0, 1) := by decide +kernel
theorem dL_law_2447 : decode cL_law 2447 = .ok (.iload 5, 2) := by decide +kernel
theorem dL_law_2449 : decode cL_law 2449 = .ok (.iconst 1, 1) := by decide +kernel
theorem dL_law_2450 : decode cL_law 2450 = .ok (.iadd, 1) := by decide +kernel
theorem dL_law_2451 : decode cL_law 2451 = .ok (.iaload, 1) := by decide +kernel
theorem dL_law_2452 : decode cL_law 2452 = .ok (.aload_n 3, 1) := by decide +kernel
theorem dL_law_2453 : decode cL_law 2453 = .ok (.invokestatic 291, 3) := by decide +kernel
theorem dL_law_2456 : decode cL_law 2456 = .ok (.istore 6, 2) := by decide +kernel
theorem dL_law_2458 : decode cL_law 2458 = .ok (.aload_n 2, 1) := by decide +kernel
theorem dL_law_2459 : decode cL_law 2459 = .ok (.aload_n 0, 1) := by decide +kernel
theorem dL_law_2460 : decode cL_law 2460 = .ok (.iload 5, 2) := by decide +kernel
theorem dL_law_2462 : decode cL_law 2462 = .ok (.iconst 1, 1) := by decide +kernel
theorem dL_law_2463 : decode cL_law 2463 = .ok (.iadd, 1) := by decide +kernel
theorem dL_law_2464 : decode cL_law 2464 = .ok (.iaload, 1) := by decide +kernel
theorem dL_law_2465 : decode cL_law 2465 = .ok (.invokevirtual 293, 3) := by decide +kernel
theorem dL_law_2468 : decode cL_law 2468 = .ok (.istore 7, 2) := by decide +kernel
theorem dL_law_2470 : decode cL_law 2470 = .ok (.aload_n 2, 1) := by decide +kernel
theorem dL_law_2471 : decode cL_law 2471 = .ok (.invokevirtual 150, 3) := by decide +kernel
theorem dL_law_2474 : decode cL_law 2474 = .ok (.iload 6, 2) := by decide +kernel
theorem dL_law_2476 : decode cL_law 2476 = .ok (.if_icmp .eq 5, 3) := by decide +kernel
theorem dL_law_2479 : decode cL_law 2479 = .ok (.iconst 0, 1) := by decide +kernel
theorem dL_law_2480 : decode cL_law 2480 = .ok (.ireturn, 1) := by decide +kernel
theorem dL_law_2481 : decode cL_law 2481 = .ok (.iload 6, 2) := by decide +kernel
theorem dL_law_2483 : decode cL_law 2483 = .ok (.ifCond .ne 15, 3) := by decide +kernel
theorem dL_law_2486 : decode cL_law 2486 = .ok (.aload_n 3, 1) := by decide +kernel
theorem dL_law_2487 : decode cL_law 2487 = .ok (.iconst 0, 1) := by decide +kernel
theorem dL_law_2488 : decode cL_law 2488 = .ok (.laload, 1) := by decide +kernel
theorem dL_law_2489 : decode cL_law 2489 = .ok (.iload 7, 2) := by decide +kernel
theorem dL_law_2491 : decode cL_law 2491 = .ok (.i2l, 1) := by decide +kernel
theorem dL_law_2492 : decode cL_law 2492 = .ok (.lcmp, 1) := by decide +kernel
theorem dL_law_2493 : decode cL_law 2493 = .ok (.ifCond .eq 5, 3) := by decide +kernel
theorem dL_law_2496 : decode cL_law 2496 = .ok (.iconst 0, 1) := by decide +kernel
theorem dL_law_2497 : decode cL_law 2497 = .ok (.ireturn, 1) := by decide +kernel
theorem dL_law_2498 : decode cL_law 2498 = .ok (.goto 209, 3) := by decide +kernel
theorem dL_law_2501 : decode cL_law 2501 = .ok (.aload_n 1, 1) := by decide +kernel
theorem dL_law_2502 : decode cL_law 2502 = .ok (.aload_n 0, 1) := by decide +kernel
theorem dL_law_2503 : decode cL_law 2503 = .ok (.iload 5, 2) := by decide +kernel
theorem dL_law_2505 : decode cL_law 2505 = .ok (.iconst 1, 1) := by decide +kernel
theorem dL_law_2506 : decode cL_law 2506 = .ok (.iadd, 1) := by decide +kernel
theorem dL_law_2507 : decode cL_law 2507 = .ok (.iaload, 1) := by decide +kernel
theorem dL_law_2508 : decode cL_law 2508 = .ok (.aload_n 3, 1) := by decide +kernel
theorem dL_law_2509 : decode cL_law 2509 = .ok (.invokestatic 294, 3) := by decide +kernel
theorem dL_law_2512 : decode cL_law 2512 = .ok (.istore 6, 2) := by decide +kernel
theorem dL_law_2514 : decode cL_law 2514 = .ok (.aload_n 2, 1) := by decide +kernel
theorem dL_law_2515 : decode cL_law 2515 = .ok (.aload_n 0, 1) := by decide +kernel
theorem dL_law_2516 : decode cL_law 2516 = .ok (.iload 5, 2) := by decide +kernel
theorem dL_law_2518 : decode cL_law 2518 = .ok (.iconst 1, 1) := by decide +kernel
theorem dL_law_2519 : decode cL_law 2519 = .ok (.iadd, 1) := by decide +kernel
theorem dL_law_2520 : decode cL_law 2520 = .ok (.iaload, 1) := by decide +kernel
theorem dL_law_2521 : decode cL_law 2521 = .ok (.invokevirtual 296, 3) := by decide +kernel
theorem dL_law_2524 : decode cL_law 2524 = .ok (.istore 7, 2) := by decide +kernel
theorem dL_law_2526 : decode cL_law 2526 = .ok (.aload_n 2, 1) := by decide +kernel
theorem dL_law_2527 : decode cL_law 2527 = .ok (.invokevirtual 150, 3) := by decide +kernel
theorem dL_law_2530 : decode cL_law 2530 = .ok (.iload 6, 2) := by decide +kernel
theorem dL_law_2532 : decode cL_law 2532 = .ok (.if_icmp .eq 5, 3) := by decide +kernel
theorem dL_law_2535 : decode cL_law 2535 = .ok (.iconst 0, 1) := by decide +kernel
theorem dL_law_2536 : decode cL_law 2536 = .ok (.ireturn, 1) := by decide +kernel
theorem dL_law_2537 : decode cL_law 2537 = .ok (.iload 6, 2) := by decide +kernel
theorem dL_law_2539 : decode cL_law 2539 = .ok (.ifCond .ne 15, 3) := by decide +kernel
theorem dL_law_2542 : decode cL_law 2542 = .ok (.aload_n 3, 1) := by decide +kernel
theorem dL_law_2543 : decode cL_law 2543 = .ok (.iconst 0, 1) := by decide +kernel
theorem dL_law_2544 : decode cL_law 2544 = .ok (.laload, 1) := by decide +kernel
theorem dL_law_2545 : decode cL_law 2545 = .ok (.iload 7, 2) := by decide +kernel
theorem dL_law_2547 : decode cL_law 2547 = .ok (.i2l, 1) := by decide +kernel
theorem dL_law_2548 : decode cL_law 2548 = .ok (.lcmp, 1) := by decide +kernel
theorem dL_law_2549 : decode cL_law 2549 = .ok (.ifCond .eq 5, 3) := by decide +kernel
theorem dL_law_2552 : decode cL_law 2552 = .ok (.iconst 0, 1) := by decide +kernel
theorem dL_law_2553 : decode cL_law 2553 = .ok (.ireturn, 1) := by decide +kernel
theorem dL_law_2554 : decode cL_law 2554 = .ok (.goto 153, 3) := by decide +kernel
theorem dL_law_2557 : decode cL_law 2557 = .ok (.aload_n 1, 1) := by decide +kernel
theorem dL_law_2558 : decode cL_law 2558 = .ok (.aload_n 0, 1) := by decide +kernel
theorem dL_law_2559 : decode cL_law 2559 = .ok (.iload 5, 2) := by decide +kernel
theorem dL_law_2561 : decode cL_law 2561 = .ok (.iconst 1, 1) := by decide +kernel
theorem dL_law_2562 : decode cL_law 2562 = .ok (.iadd, 1) := by decide +kernel
theorem dL_law_2563 : decode cL_law 2563 = .ok (.iaload, 1) := by decide +kernel
theorem dL_law_2564 : decode cL_law 2564 = .ok (.invokevirtual 297, 3) := by decide +kernel
theorem dL_law_2567 : decode cL_law 2567 = .ok (.aload_n 2, 1) := by decide +kernel
theorem dL_law_2568 : decode cL_law 2568 = .ok (.aload_n 0, 1) := by decide +kernel
theorem dL_law_2569 : decode cL_law 2569 = .ok (.iload 5, 2) := by decide +kernel
theorem dL_law_2571 : decode cL_law 2571 = .ok (.iconst 1, 1) := by decide +kernel
theorem dL_law_2572 : decode cL_law 2572 = .ok (.iadd, 1) := by decide +kernel
theorem dL_law_2573 : decode cL_law 2573 = .ok (.iaload, 1) := by decide +kernel
theorem dL_law_2574 : decode cL_law 2574 = .ok (.invokevirtual 300, 3) := by decide +kernel
theorem dL_law_2577 : decode cL_law 2577 = .ok (.if_icmp .eq 130, 3) := by decide +kernel
theorem dL_law_2580 : decode cL_law 2580 = .ok (.iconst 0, 1) := by decide +kernel
theorem dL_law_2581 : decode cL_law 2581 = .ok (.ireturn, 1) := by decide +kernel
theorem dL_law_2582 : decode cL_law 2582 = .ok (.aload_n 1, 1) := by decide +kernel
theorem dL_law_2583 : decode cL_law 2583 = .ok (.invokevirtual 301, 3) := by decide +kernel
theorem dL_law_2586 : decode cL_law 2586 = .ok (.aload_n 2, 1) := by decide +kernel
theorem dL_law_2587 : decode cL_law 2587 = .ok (.invokevirtual 304, 3) := by decide +kernel
theorem dL_law_2590 : decode cL_law 2590 = .ok (.if_icmp .eq 117, 3) := by decide +kernel
theorem dL_law_2593 : decode cL_law 2593 = .ok (.iconst 0, 1) := by decide +kernel
theorem dL_law_2594 : decode cL_law 2594 = .ok (.ireturn, 1) := by decide +kernel
theorem dL_law_2595 : decode cL_law 2595 = .ok (.aload_n 1, 1) := by decide +kernel
theorem dL_law_2596 : decode cL_law 2596 = .ok (.aload_n 0, 1) := by decide +kernel
theorem dL_law_2597 : decode cL_law 2597 = .ok (.iload 5, 2) := by decide +kernel
theorem dL_law_2599 : decode cL_law 2599 = .ok (.iconst 1, 1) := by decide +kernel
theorem dL_law_2600 : decode cL_law 2600 = .ok (.iadd, 1) := by decide +kernel
theorem dL_law_2601 : decode cL_law 2601 = .ok (.iaload, 1) := by decide +kernel
theorem dL_law_2602 : decode cL_law 2602 = .ok (.aload_n 3, 1) := by decide +kernel
theorem dL_law_2603 : decode cL_law 2603 = .ok (.invokestatic 305, 3) := by decide +kernel
theorem dL_law_2606 : decode cL_law 2606 = .ok (.istore 6, 2) := by decide +kernel
theorem dL_law_2608 : decode cL_law 2608 = .ok (.aload_n 2, 1) := by decide +kernel
theorem dL_law_2609 : decode cL_law 2609 = .ok (.aload_n 0, 1) := by decide +kernel
theorem dL_law_2610 : decode cL_law 2610 = .ok (.iload 5, 2) := by decide +kernel
theorem dL_law_2612 : decode cL_law 2612 = .ok (.iconst 1, 1) := by decide +kernel
theorem dL_law_2613 : decode cL_law 2613 = .ok (.iadd, 1) := by decide +kernel
theorem dL_law_2614 : decode cL_law 2614 = .ok (.iaload, 1) := by decide +kernel
theorem dL_law_2615 : decode cL_law 2615 = .ok (.invokevirtual 307, 3) := by decide +kernel
theorem dL_law_2618 : decode cL_law 2618 = .ok (.istore 7, 2) := by decide +kernel
theorem dL_law_2620 : decode cL_law 2620 = .ok (.aload_n 2, 1) := by decide +kernel
theorem dL_law_2621 : decode cL_law 2621 = .ok (.invokevirtual 150, 3) := by decide +kernel
theorem dL_law_2624 : decode cL_law 2624 = .ok (.iload 6, 2) := by decide +kernel
theorem dL_law_2626 : decode cL_law 2626 = .ok (.if_icmp .eq 5, 3) := by decide +kernel
theorem dL_law_2629 : decode cL_law 2629 = .ok (.iconst 0, 1) := by decide +kernel
theorem dL_law_2630 : decode cL_law 2630 = .ok (.ireturn, 1) := by decide +kernel
theorem dL_law_2631 : decode cL_law 2631 = .ok (.iload 6, 2) := by decide +kernel
theorem dL_law_2633 : decode cL_law 2633 = .ok (.ifCond .ne 15, 3) := by decide +kernel
theorem dL_law_2636 : decode cL_law 2636 = .ok (.aload_n 3, 1) := by decide +kernel
theorem dL_law_2637 : decode cL_law 2637 = .ok (.iconst 0, 1) := by decide +kernel
theorem dL_law_2638 : decode cL_law 2638 = .ok (.laload, 1) := by decide +kernel
theorem dL_law_2639 : decode cL_law 2639 = .ok (.iload 7, 2) := by decide +kernel
theorem dL_law_2641 : decode cL_law 2641 = .ok (.i2l, 1) := by decide +kernel
theorem dL_law_2642 : decode cL_law 2642 = .ok (.lcmp, 1) := by decide +kernel
theorem dL_law_2643 : decode cL_law 2643 = .ok (.ifCond .eq 5, 3) := by decide +kernel
theorem dL_law_2646 : decode cL_law 2646 = .ok (.iconst 0, 1) := by decide +kernel
theorem dL_law_2647 : decode cL_law 2647 = .ok (.ireturn, 1) := by decide +kernel
theorem dL_law_2648 : decode cL_law 2648 = .ok (.goto 59, 3) := by decide +kernel
theorem dL_law_2651 : decode cL_law 2651 = .ok (.aload_n 1, 1) := by decide +kernel
theorem dL_law_2652 : decode cL_law 2652 = .ok (.aload_n 0, 1) := by decide +kernel
theorem dL_law_2653 : decode cL_law 2653 = .ok (.iload 5, 2) := by decide +kernel
theorem dL_law_2655 : decode cL_law 2655 = .ok (.iconst 1, 1) := by decide +kernel
theorem dL_law_2656 : decode cL_law 2656 = .ok (.iadd, 1) := by decide +kernel
theorem dL_law_2657 : decode cL_law 2657 = .ok (.iaload, 1) := by decide +kernel
theorem dL_law_2658 : decode cL_law 2658 = .ok (.aload_n 3, 1) := by decide +kernel
theorem dL_law_2659 : decode cL_law 2659 = .ok (.invokestatic 308, 3) := by decide +kernel
theorem dL_law_2662 : decode cL_law 2662 = .ok (.istore 6, 2) := by decide +kernel
theorem dL_law_2664 : decode cL_law 2664 = .ok (.aload_n 2, 1) := by decide +kernel
theorem dL_law_2665 : decode cL_law 2665 = .ok (.aload_n 0, 1) := by decide +kernel
theorem dL_law_2666 : decode cL_law 2666 = .ok (.iload 5, 2) := by decide +kernel
theorem dL_law_2668 : decode cL_law 2668 = .ok (.iconst 1, 1) := by decide +kernel
theorem dL_law_2669 : decode cL_law 2669 = .ok (.iadd, 1) := by decide +kernel
theorem dL_law_2670 : decode cL_law 2670 = .ok (.iaload, 1) := by decide +kernel
theorem dL_law_2671 : decode cL_law 2671 = .ok (.invokevirtual 310, 3) := by decide +kernel
theorem dL_law_2674 : decode cL_law 2674 = .ok (.istore 7, 2) := by decide +kernel
theorem dL_law_2676 : decode cL_law 2676 = .ok (.aload_n 2, 1) := by decide +kernel
theorem dL_law_2677 : decode cL_law 2677 = .ok (.invokevirtual 150, 3) := by decide +kernel
theorem dL_law_2680 : decode cL_law 2680 = .ok (.iload 6, 2) := by decide +kernel
theorem dL_law_2682 : decode cL_law 2682 = .ok (.if_icmp .eq 5, 3) := by decide +kernel
theorem dL_law_2685 : decode cL_law 2685 = .ok (.iconst 0, 1) := by decide +kernel
theorem dL_law_2686 : decode cL_law 2686 = .ok (.ireturn, 1) := by decide +kernel
theorem dL_law_2687 : decode cL_law 2687 = .ok (.iload 6, 2) := by decide +kernel
theorem dL_law_2689 : decode cL_law 2689 = .ok (.ifCond .ne 15, 3) := by decide +kernel
theorem dL_law_2692 : decode cL_law 2692 = .ok (.aload_n 3, 1) := by decide +kernel
theorem dL_law_2693 : decode cL_law 2693 = .ok (.iconst 0, 1) := by decide +kernel
theorem dL_law_2694 : decode cL_law 2694 = .ok (.laload, 1) := by decide +kernel
theorem dL_law_2695 : decode cL_law 2695 = .ok (.iload 7, 2) := by decide +kernel
theorem dL_law_2697 : decode cL_law 2697 = .ok (.i2l, 1) := by decide +kernel
theorem dL_law_2698 : decode cL_law 2698 = .ok (.lcmp, 1) := by decide +kernel
theorem dL_law_2699 : decode cL_law 2699 = .ok (.ifCond .eq 5, 3) := by decide +kernel
theorem dL_law_2702 : decode cL_law 2702 = .ok (.iconst 0, 1) := by decide +kernel
theorem dL_law_2703 : decode cL_law 2703 = .ok (.ireturn, 1) := by decide +kernel
theorem dL_law_2704 : decode cL_law 2704 = .ok (.goto 3, 3) := by decide +kernel
theorem dL_law_2707 : decode cL_law 2707 = .ok (.iinc 5 4, 3) := by decide +kernel
theorem dL_law_2710 : decode cL_law 2710 = .ok (.goto (-2682), 3) := by decide +kernel
theorem dL_law_2713 : decode cL_law 2713 = .ok (.iconst 1, 1) := by decide +kernel
theorem dL_law_2714 : decode cL_law 2714 = .ok (.ireturn, 1) := by decide +kernel
