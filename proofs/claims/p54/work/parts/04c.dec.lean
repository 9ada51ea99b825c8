theorem dX0_init_0 : decode cX0_init 0 = .ok (.aload_n 0, 1) := by decide +kernel
theorem dX0_init_1 : decode cX0_init 1 = .ok (.invokespecial 3, 3) := by decide +kernel
theorem dX0_init_4 : decode cX0_init 4 = .ok (.aload_n 0, 1) := by decide +kernel
theorem dX0_init_5 : decode cX0_init 5 = .ok (.aload_n 1, 1) := by decide +kernel
theorem dX0_init_6 : decode cX0_init 6 = .ok (.putfield 9, 3) := by decide +kernel
theorem dX0_init_9 : decode cX0_init 9 = .ok (.aload_n 0, 1) := by decide +kernel
theorem dX0_init_10 : decode cX0_init 10 = .ok (.sipush 405, 3) := by decide +kernel
theorem dX0_init_13 : decode cX0_init 13 = .ok (.newarray .int, 2) := by decide +kernel
theorem dX0_init_15 : decode cX0_init 15 = .ok (.putfield 15, 3) := by decide +kernel
theorem dX0_init_18 : decode cX0_init 18 = .ok (.aload_n 0, 1) := by decide +kernel
theorem dX0_init_19 : decode cX0_init 19 = .ok (.sipush 405, 3) := by decide +kernel
theorem dX0_init_22 : decode cX0_init 22 = .ok (.newarray .int, 2) := by decide +kernel
theorem dX0_init_24 : decode cX0_init 24 = .ok (.putfield 19, 3) := by decide +kernel
theorem dX0_init_27 : decode cX0_init 27 = .ok (.aload_n 0, 1) := by decide +kernel
theorem dX0_init_28 : decode cX0_init 28 = .ok (.sipush 405, 3) := by decide +kernel
theorem dX0_init_31 : decode cX0_init 31 = .ok (.newarray .int, 2) := by decide +kernel
theorem dX0_init_33 : decode cX0_init 33 = .ok (.putfield 22, 3) := by decide +kernel
theorem dX0_init_36 : decode cX0_init 36 = .ok (.aload_n 0, 1) := by decide +kernel
theorem dX0_init_37 : decode cX0_init 37 = .ok (.sipush 405, 3) := by decide +kernel
theorem dX0_init_40 : decode cX0_init 40 = .ok (.newarray .int, 2) := by decide +kernel
theorem dX0_init_42 : decode cX0_init 42 = .ok (.putfield 25, 3) := by decide +kernel
theorem dX0_init_45 : decode cX0_init 45 = .ok (.aload_n 0, 1) := by decide +kernel
theorem dX0_init_46 : decode cX0_init 46 = .ok (.sipush 405, 3) := by decide +kernel
theorem dX0_init_49 : decode cX0_init 49 = .ok (.newarray .int, 2) := by decide +kernel
theorem dX0_init_51 : decode cX0_init 51 = .ok (.putfield 28, 3) := by decide +kernel
theorem dX0_init_54 : decode cX0_init 54 = .ok (.aload_n 0, 1) := by decide +kernel
theorem dX0_init_55 : decode cX0_init 55 = .ok (.bipush 81, 2) := by decide +kernel
theorem dX0_init_57 : decode cX0_init 57 = .ok (.newarray .int, 2) := by decide +kernel
theorem dX0_init_59 : decode cX0_init 59 = .ok (.putfield 31, 3) := by decide +kernel
theorem dX0_init_62 : decode cX0_init 62 = .ok (.return_, 1) := by decide +kernel
theorem dX0_find_0 : decode cX0_find 0 = .ok (.aload_n 0, 1) := by decide +kernel
theorem dX0_find_1 : decode cX0_find 1 = .ok (.iconst 0, 1) := by decide +kernel
theorem dX0_find_2 : decode cX0_find 2 = .ok (.putfield 34, 3) := by decide +kernel
theorem dX0_find_5 : decode cX0_find 5 = .ok (.iconst 0, 1) := by decide +kernel
theorem dX0_find_6 : decode cX0_find 6 = .ok (.istore_n 3, 1) := by decide +kernel
theorem dX0_find_7 : decode cX0_find 7 = .ok (.iload_n 3, 1) := by decide +kernel
theorem dX0_find_8 : decode cX0_find 8 = .ok (.bipush 81, 2) := by decide +kernel
theorem dX0_find_10 : decode cX0_find 10 = .ok (.if_icmp .ge 18, 3) := by decide +kernel
theorem dX0_find_13 : decode cX0_find 13 = .ok (.aload_n 0, 1) := by decide +kernel
theorem dX0_find_14 : decode cX0_find 14 = .ok (.getfield 31, 3) := by decide +kernel
theorem dX0_find_17 : decode cX0_find 17 = .ok (.iload_n 3, 1) := by decide +kernel
theorem dX0_find_18 : decode cX0_find 18 = .ok (.iconst 0, 1) := by decide +kernel
theorem dX0_find_19 : decode cX0_find 19 = .ok (.invokestatic 38, 3) := by decide +kernel
theorem dX0_find_22 : decode cX0_find 22 = .ok (.iinc 3 1, 3) := by decide +kernel
theorem dX0_find_25 : decode cX0_find 25 = .ok (.goto (-18), 3) := by decide +kernel
theorem dX0_find_28 : decode cX0_find 28 = .ok (.iconst 0, 1) := by decide +kernel
theorem dX0_find_29 : decode cX0_find 29 = .ok (.istore_n 3, 1) := by decide +kernel
theorem dX0_find_30 : decode cX0_find 30 = .ok (.iload_n 3, 1) := by decide +kernel
theorem dX0_find_31 : decode cX0_find 31 = .ok (.aload_n 0, 1) := by decide +kernel
theorem dX0_find_32 : decode cX0_find 32 = .ok (.getfield 9, 3) := by decide +kernel
theorem dX0_find_35 : decode cX0_find 35 = .ok (.getfield 42, 3) := by decide +kernel
theorem dX0_find_38 : decode cX0_find 38 = .ok (.if_icmp .ge 58, 3) := by decide +kernel
theorem dX0_find_41 : decode cX0_find 41 = .ok (.aload_n 1, 1) := by decide +kernel
theorem dX0_find_42 : decode cX0_find 42 = .ok (.iload_n 3, 1) := by decide +kernel
theorem dX0_find_43 : decode cX0_find 43 = .ok (.invokestatic 47, 3) := by decide +kernel
theorem dX0_find_46 : decode cX0_find 46 = .ok (.iload_n 2, 1) := by decide +kernel
theorem dX0_find_47 : decode cX0_find 47 = .ok (.if_icmp .ne 43, 3) := by decide +kernel
theorem dX0_find_50 : decode cX0_find 50 = .ok (.iconst 0, 1) := by decide +kernel
theorem dX0_find_51 : decode cX0_find 51 = .ok (.istore 4, 2) := by decide +kernel
theorem dX0_find_53 : decode cX0_find 53 = .ok (.iload 4, 2) := by decide +kernel
theorem dX0_find_55 : decode cX0_find 55 = .ok (.getstatic 51, 3) := by decide +kernel
theorem dX0_find_58 : decode cX0_find 58 = .ok (.arraylength, 1) := by decide +kernel
theorem dX0_find_59 : decode cX0_find 59 = .ok (.if_icmp .ge 17, 3) := by decide +kernel
theorem dX0_find_62 : decode cX0_find 62 = .ok (.aload_n 0, 1) := by decide +kernel
theorem dX0_find_63 : decode cX0_find 63 = .ok (.aload_n 1, 1) := by decide +kernel
theorem dX0_find_64 : decode cX0_find 64 = .ok (.iload_n 3, 1) := by decide +kernel
theorem dX0_find_65 : decode cX0_find 65 = .ok (.iload 4, 2) := by decide +kernel
theorem dX0_find_67 : decode cX0_find 67 = .ok (.invokevirtual 54, 3) := by decide +kernel
theorem dX0_find_70 : decode cX0_find 70 = .ok (.iinc 4 1, 3) := by decide +kernel
theorem dX0_find_73 : decode cX0_find 73 = .ok (.goto (-20), 3) := by decide +kernel
theorem dX0_find_76 : decode cX0_find 76 = .ok (.aload_n 0, 1) := by decide +kernel
theorem dX0_find_77 : decode cX0_find 77 = .ok (.aload_n 1, 1) := by decide +kernel
theorem dX0_find_78 : decode cX0_find 78 = .ok (.iload_n 3, 1) := by decide +kernel
theorem dX0_find_79 : decode cX0_find 79 = .ok (.iconst 0, 1) := by decide +kernel
theorem dX0_find_80 : decode cX0_find 80 = .ok (.invokevirtual 57, 3) := by decide +kernel
theorem dX0_find_83 : decode cX0_find 83 = .ok (.aload_n 0, 1) := by decide +kernel
theorem dX0_find_84 : decode cX0_find 84 = .ok (.aload_n 1, 1) := by decide +kernel
theorem dX0_find_85 : decode cX0_find 85 = .ok (.iload_n 3, 1) := by decide +kernel
theorem dX0_find_86 : decode cX0_find 86 = .ok (.iconst 1, 1) := by decide +kernel
theorem dX0_find_87 : decode cX0_find 87 = .ok (.invokevirtual 57, 3) := by decide +kernel
theorem dX0_find_90 : decode cX0_find 90 = .ok (.iinc 3 1, 3) := by decide +kernel
theorem dX0_find_93 : decode cX0_find 93 = .ok (.goto (-63), 3) := by decide +kernel
theorem dX0_find_96 : decode cX0_find 96 = .ok (.return_, 1) := by decide +kernel
theorem dX0_addToCell_0 : decode cX0_addToCell 0 = .ok (.aload_n 0, 1) := by decide +kernel
theorem dX0_addToCell_1 : decode cX0_addToCell 1 = .ok (.getfield 9, 3) := by decide +kernel
theorem dX0_addToCell_4 : decode cX0_addToCell 4 = .ok (.iload_n 2, 1) := by decide +kernel
theorem dX0_addToCell_5 : decode cX0_addToCell 5 = .ok (.invokevirtual 60, 3) := by decide +kernel
theorem dX0_addToCell_8 : decode cX0_addToCell 8 = .ok (.istore 4, 2) := by decide +kernel
theorem dX0_addToCell_10 : decode cX0_addToCell 10 = .ok (.aload_n 0, 1) := by decide +kernel
theorem dX0_addToCell_11 : decode cX0_addToCell 11 = .ok (.getfield 9, 3) := by decide +kernel
theorem dX0_addToCell_14 : decode cX0_addToCell 14 = .ok (.iload_n 2, 1) := by decide +kernel
theorem dX0_addToCell_15 : decode cX0_addToCell 15 = .ok (.invokevirtual 64, 3) := by decide +kernel
theorem dX0_addToCell_18 : decode cX0_addToCell 18 = .ok (.istore 5, 2) := by decide +kernel
theorem dX0_addToCell_20 : decode cX0_addToCell 20 = .ok (.aload_n 0, 1) := by decide +kernel
theorem dX0_addToCell_21 : decode cX0_addToCell 21 = .ok (.getfield 9, 3) := by decide +kernel
theorem dX0_addToCell_24 : decode cX0_addToCell 24 = .ok (.iload 4, 2) := by decide +kernel
theorem dX0_addToCell_26 : decode cX0_addToCell 26 = .ok (.getstatic 51, 3) := by decide +kernel
theorem dX0_addToCell_29 : decode cX0_addToCell 29 = .ok (.iload_n 3, 1) := by decide +kernel
theorem dX0_addToCell_30 : decode cX0_addToCell 30 = .ok (.invokestatic 47, 3) := by decide +kernel
theorem dX0_addToCell_33 : decode cX0_addToCell 33 = .ok (.iadd, 1) := by decide +kernel
theorem dX0_addToCell_34 : decode cX0_addToCell 34 = .ok (.iload 5, 2) := by decide +kernel
theorem dX0_addToCell_36 : decode cX0_addToCell 36 = .ok (.getstatic 67, 3) := by decide +kernel
theorem dX0_addToCell_39 : decode cX0_addToCell 39 = .ok (.iload_n 3, 1) := by decide +kernel
theorem dX0_addToCell_40 : decode cX0_addToCell 40 = .ok (.invokestatic 47, 3) := by decide +kernel
theorem dX0_addToCell_43 : decode cX0_addToCell 43 = .ok (.iadd, 1) := by decide +kernel
theorem dX0_addToCell_44 : decode cX0_addToCell 44 = .ok (.invokevirtual 70, 3) := by decide +kernel
theorem dX0_addToCell_47 : decode cX0_addToCell 47 = .ok (.istore 6, 2) := by decide +kernel
theorem dX0_addToCell_49 : decode cX0_addToCell 49 = .ok (.iload 6, 2) := by decide +kernel
theorem dX0_addToCell_51 : decode cX0_addToCell 51 = .ok (.iconst (-1), 1) := by decide +kernel
theorem dX0_addToCell_52 : decode cX0_addToCell 52 = .ok (.if_icmp .eq 17, 3) := by decide +kernel
theorem dX0_addToCell_55 : decode cX0_addToCell 55 = .ok (.aload_n 1, 1) := by decide +kernel
theorem dX0_addToCell_56 : decode cX0_addToCell 56 = .ok (.iload 6, 2) := by decide +kernel
theorem dX0_addToCell_58 : decode cX0_addToCell 58 = .ok (.invokestatic 47, 3) := by decide +kernel
theorem dX0_addToCell_61 : decode cX0_addToCell 61 = .ok (.aload_n 1, 1) := by decide +kernel
theorem dX0_addToCell_62 : decode cX0_addToCell 62 = .ok (.iload_n 2, 1) := by decide +kernel
theorem dX0_addToCell_63 : decode cX0_addToCell 63 = .ok (.invokestatic 47, 3) := by decide +kernel
theorem dX0_addToCell_66 : decode cX0_addToCell 66 = .ok (.if_icmp .eq 4, 3) := by decide +kernel
theorem dX0_addToCell_69 : decode cX0_addToCell 69 = .ok (.return_, 1) := by decide +kernel
theorem dX0_addToCell_70 : decode cX0_addToCell 70 = .ok (.aload_n 0, 1) := by decide +kernel
theorem dX0_addToCell_71 : decode cX0_addToCell 71 = .ok (.getfield 9, 3) := by decide +kernel
theorem dX0_addToCell_74 : decode cX0_addToCell 74 = .ok (.iload 4, 2) := by decide +kernel
theorem dX0_addToCell_76 : decode cX0_addToCell 76 = .ok (.getstatic 74, 3) := by decide +kernel
theorem dX0_addToCell_79 : decode cX0_addToCell 79 = .ok (.iload_n 3, 1) := by decide +kernel
theorem dX0_addToCell_80 : decode cX0_addToCell 80 = .ok (.invokestatic 47, 3) := by decide +kernel
theorem dX0_addToCell_83 : decode cX0_addToCell 83 = .ok (.iadd, 1) := by decide +kernel
theorem dX0_addToCell_84 : decode cX0_addToCell 84 = .ok (.iload 5, 2) := by decide +kernel
theorem dX0_addToCell_86 : decode cX0_addToCell 86 = .ok (.getstatic 77, 3) := by decide +kernel
theorem dX0_addToCell_89 : decode cX0_addToCell 89 = .ok (.iload_n 3, 1) := by decide +kernel
theorem dX0_addToCell_90 : decode cX0_addToCell 90 = .ok (.invokestatic 47, 3) := by decide +kernel
theorem dX0_addToCell_93 : decode cX0_addToCell 93 = .ok (.iadd, 1) := by decide +kernel
theorem dX0_addToCell_94 : decode cX0_addToCell 94 = .ok (.invokevirtual 70, 3) := by decide +kernel
theorem dX0_addToCell_97 : decode cX0_addToCell 97 = .ok (.istore 7, 2) := by decide +kernel
theorem dX0_addToCell_99 : decode cX0_addToCell 99 = .ok (.aload_n 0, 1) := by decide +kernel
theorem dX0_addToCell_100 : decode cX0_addToCell 100 = .ok (.getfield 9, 3) := by decide +kernel
theorem dX0_addToCell_103 : decode cX0_addToCell 103 = .ok (.iload 4, 2) := by decide +kernel
theorem dX0_addToCell_105 : decode cX0_addToCell 105 = .ok (.getstatic 80, 3) := by decide +kernel
theorem dX0_addToCell_108 : decode cX0_addToCell 108 = .ok (.iload_n 3, 1) := by decide +kernel
theorem dX0_addToCell_109 : decode cX0_addToCell 109 = .ok (.invokestatic 47, 3) := by decide +kernel
theorem dX0_addToCell_112 : decode cX0_addToCell 112 = .ok (.iadd, 1) := by decide +kernel
theorem dX0_addToCell_113 : decode cX0_addToCell 113 = .ok (.iload 5, 2) := by decide +kernel
theorem dX0_addToCell_115 : decode cX0_addToCell 115 = .ok (.getstatic 83, 3) := by decide +kernel
theorem dX0_addToCell_118 : decode cX0_addToCell 118 = .ok (.iload_n 3, 1) := by decide +kernel
theorem dX0_addToCell_119 : decode cX0_addToCell 119 = .ok (.invokestatic 47, 3) := by decide +kernel
theorem dX0_addToCell_122 : decode cX0_addToCell 122 = .ok (.iadd, 1) := by decide +kernel
theorem dX0_addToCell_123 : decode cX0_addToCell 123 = .ok (.invokevirtual 70, 3) := by decide +kernel
theorem dX0_addToCell_126 : decode cX0_addToCell 126 = .ok (.istore 8, 2) := by decide +kernel
theorem dX0_addToCell_128 : decode cX0_addToCell 128 = .ok (.aload_n 0, 1) := by decide +kernel
theorem dX0_addToCell_129 : decode cX0_addToCell 129 = .ok (.aload_n 1, 1) := by decide +kernel
theorem dX0_addToCell_130 : decode cX0_addToCell 130 = .ok (.iload_n 2, 1) := by decide +kernel
theorem dX0_addToCell_131 : decode cX0_addToCell 131 = .ok (.iload 6, 2) := by decide +kernel
theorem dX0_addToCell_133 : decode cX0_addToCell 133 = .ok (.iload 7, 2) := by decide +kernel
theorem dX0_addToCell_135 : decode cX0_addToCell 135 = .ok (.iload 8, 2) := by decide +kernel
theorem dX0_addToCell_137 : decode cX0_addToCell 137 = .ok (.invokevirtual 86, 3) := by decide +kernel
theorem dX0_addToCell_140 : decode cX0_addToCell 140 = .ok (.return_, 1) := by decide +kernel
theorem dX0_addToEdge_0 : decode cX0_addToEdge 0 = .ok (.aload_n 1, 1) := by decide +kernel
theorem dX0_addToEdge_1 : decode cX0_addToEdge 1 = .ok (.iload_n 2, 1) := by decide +kernel
theorem dX0_addToEdge_2 : decode cX0_addToEdge 2 = .ok (.invokestatic 47, 3) := by decide +kernel
theorem dX0_addToEdge_5 : decode cX0_addToEdge 5 = .ok (.istore 4, 2) := by decide +kernel
theorem dX0_addToEdge_7 : decode cX0_addToEdge 7 = .ok (.iconst 1, 1) := by decide +kernel
theorem dX0_addToEdge_8 : decode cX0_addToEdge 8 = .ok (.iload_n 3, 1) := by decide +kernel
theorem dX0_addToEdge_9 : decode cX0_addToEdge 9 = .ok (.ishl, 1) := by decide +kernel
theorem dX0_addToEdge_10 : decode cX0_addToEdge 10 = .ok (.istore 5, 2) := by decide +kernel
theorem dX0_addToEdge_12 : decode cX0_addToEdge 12 = .ok (.aload_n 0, 1) := by decide +kernel
theorem dX0_addToEdge_13 : decode cX0_addToEdge 13 = .ok (.getfield 9, 3) := by decide +kernel
theorem dX0_addToEdge_16 : decode cX0_addToEdge 16 = .ok (.iload_n 2, 1) := by decide +kernel
theorem dX0_addToEdge_17 : decode cX0_addToEdge 17 = .ok (.iload 4, 2) := by decide +kernel
theorem dX0_addToEdge_19 : decode cX0_addToEdge 19 = .ok (.invokevirtual 90, 3) := by decide +kernel
theorem dX0_addToEdge_22 : decode cX0_addToEdge 22 = .ok (.iload 5, 2) := by decide +kernel
theorem dX0_addToEdge_24 : decode cX0_addToEdge 24 = .ok (.iand, 1) := by decide +kernel
theorem dX0_addToEdge_25 : decode cX0_addToEdge 25 = .ok (.ifCond .eq 4, 3) := by decide +kernel
theorem dX0_addToEdge_28 : decode cX0_addToEdge 28 = .ok (.return_, 1) := by decide +kernel
theorem dX0_addToEdge_29 : decode cX0_addToEdge 29 = .ok (.iconst (-1), 1) := by decide +kernel
theorem dX0_addToEdge_30 : decode cX0_addToEdge 30 = .ok (.istore 6, 2) := by decide +kernel
theorem dX0_addToEdge_32 : decode cX0_addToEdge 32 = .ok (.iconst (-1), 1) := by decide +kernel
theorem dX0_addToEdge_33 : decode cX0_addToEdge 33 = .ok (.istore 7, 2) := by decide +kernel
theorem dX0_addToEdge_35 : decode cX0_addToEdge 35 = .ok (.iconst 0, 1) := by decide +kernel
theorem dX0_addToEdge_36 : decode cX0_addToEdge 36 = .ok (.istore 8, 2) := by decide +kernel
theorem dX0_addToEdge_38 : decode cX0_addToEdge 38 = .ok (.iload 8, 2) := by decide +kernel
theorem dX0_addToEdge_40 : decode cX0_addToEdge 40 = .ok (.bipush 6, 2) := by decide +kernel
theorem dX0_addToEdge_42 : decode cX0_addToEdge 42 = .ok (.if_icmp .ge 63, 3) := by decide +kernel
theorem dX0_addToEdge_45 : decode cX0_addToEdge 45 = .ok (.aload_n 0, 1) := by decide +kernel
theorem dX0_addToEdge_46 : decode cX0_addToEdge 46 = .ok (.getfield 9, 3) := by decide +kernel
theorem dX0_addToEdge_49 : decode cX0_addToEdge 49 = .ok (.iload_n 2, 1) := by decide +kernel
theorem dX0_addToEdge_50 : decode cX0_addToEdge 50 = .ok (.iload 8, 2) := by decide +kernel
theorem dX0_addToEdge_52 : decode cX0_addToEdge 52 = .ok (.invokevirtual 93, 3) := by decide +kernel
theorem dX0_addToEdge_55 : decode cX0_addToEdge 55 = .ok (.istore 9, 2) := by decide +kernel
theorem dX0_addToEdge_57 : decode cX0_addToEdge 57 = .ok (.iload 9, 2) := by decide +kernel
theorem dX0_addToEdge_59 : decode cX0_addToEdge 59 = .ok (.iconst (-1), 1) := by decide +kernel
theorem dX0_addToEdge_60 : decode cX0_addToEdge 60 = .ok (.if_icmp .eq 39, 3) := by decide +kernel
theorem dX0_addToEdge_63 : decode cX0_addToEdge 63 = .ok (.aload_n 0, 1) := by decide +kernel
theorem dX0_addToEdge_64 : decode cX0_addToEdge 64 = .ok (.getfield 9, 3) := by decide +kernel
theorem dX0_addToEdge_67 : decode cX0_addToEdge 67 = .ok (.iload 9, 2) := by decide +kernel
theorem dX0_addToEdge_69 : decode cX0_addToEdge 69 = .ok (.iload 4, 2) := by decide +kernel
theorem dX0_addToEdge_71 : decode cX0_addToEdge 71 = .ok (.invokevirtual 90, 3) := by decide +kernel
theorem dX0_addToEdge_74 : decode cX0_addToEdge 74 = .ok (.iload 5, 2) := by decide +kernel
theorem dX0_addToEdge_76 : decode cX0_addToEdge 76 = .ok (.iand, 1) := by decide +kernel
theorem dX0_addToEdge_77 : decode cX0_addToEdge 77 = .ok (.ifCond .eq 22, 3) := by decide +kernel
theorem dX0_addToEdge_80 : decode cX0_addToEdge 80 = .ok (.iload 6, 2) := by decide +kernel
theorem dX0_addToEdge_82 : decode cX0_addToEdge 82 = .ok (.iconst (-1), 1) := by decide +kernel
theorem dX0_addToEdge_83 : decode cX0_addToEdge 83 = .ok (.if_icmp .ne 8, 3) := by decide +kernel
theorem dX0_addToEdge_86 : decode cX0_addToEdge 86 = .ok (.iload 9, 2) := by decide +kernel
theorem dX0_addToEdge_88 : decode cX0_addToEdge 88 = .ok (.goto 5, 3) := by decide +kernel
theorem dX0_addToEdge_91 : decode cX0_addToEdge 91 = .ok (.iload 6, 2) := by decide +kernel
theorem dX0_addToEdge_93 : decode cX0_addToEdge 93 = .ok (.istore 6, 2) := by decide +kernel
theorem dX0_addToEdge_95 : decode cX0_addToEdge 95 = .ok (.iload 9, 2) := by decide +kernel
theorem dX0_addToEdge_97 : decode cX0_addToEdge 97 = .ok (.istore 7, 2) := by decide +kernel
theorem dX0_addToEdge_99 : decode cX0_addToEdge 99 = .ok (.iinc 8 1, 3) := by decide +kernel
theorem dX0_addToEdge_102 : decode cX0_addToEdge 102 = .ok (.goto (-64), 3) := by decide +kernel
theorem dX0_addToEdge_105 : decode cX0_addToEdge 105 = .ok (.iload 6, 2) := by decide +kernel
theorem dX0_addToEdge_107 : decode cX0_addToEdge 107 = .ok (.iload 7, 2) := by decide +kernel
theorem dX0_addToEdge_109 : decode cX0_addToEdge 109 = .ok (.if_icmp .eq 17, 3) := by decide +kernel
theorem dX0_addToEdge_112 : decode cX0_addToEdge 112 = .ok (.aload_n 0, 1) := by decide +kernel
theorem dX0_addToEdge_113 : decode cX0_addToEdge 113 = .ok (.aload_n 1, 1) := by decide +kernel
theorem dX0_addToEdge_114 : decode cX0_addToEdge 114 = .ok (.iload_n 2, 1) := by decide +kernel
theorem dX0_addToEdge_115 : decode cX0_addToEdge 115 = .ok (.bipush (-10), 2) := by decide +kernel
theorem dX0_addToEdge_117 : decode cX0_addToEdge 117 = .ok (.iload_n 3, 1) := by decide +kernel
theorem dX0_addToEdge_118 : decode cX0_addToEdge 118 = .ok (.isub, 1) := by decide +kernel
theorem dX0_addToEdge_119 : decode cX0_addToEdge 119 = .ok (.iload 6, 2) := by decide +kernel
theorem dX0_addToEdge_121 : decode cX0_addToEdge 121 = .ok (.iload 7, 2) := by decide +kernel
theorem dX0_addToEdge_123 : decode cX0_addToEdge 123 = .ok (.invokevirtual 86, 3) := by decide +kernel
theorem dX0_addToEdge_126 : decode cX0_addToEdge 126 = .ok (.return_, 1) := by decide +kernel
theorem dX0_addIfFree_0 : decode cX0_addIfFree 0 = .ok (.iload 4, 2) := by decide +kernel
theorem dX0_addIfFree_2 : decode cX0_addIfFree 2 = .ok (.iconst (-1), 1) := by decide +kernel
theorem dX0_addIfFree_3 : decode cX0_addIfFree 3 = .ok (.if_icmp .eq 33, 3) := by decide +kernel
theorem dX0_addIfFree_6 : decode cX0_addIfFree 6 = .ok (.iload 5, 2) := by decide +kernel
theorem dX0_addIfFree_8 : decode cX0_addIfFree 8 = .ok (.iconst (-1), 1) := by decide +kernel
theorem dX0_addIfFree_9 : decode cX0_addIfFree 9 = .ok (.if_icmp .eq 27, 3) := by decide +kernel
theorem dX0_addIfFree_12 : decode cX0_addIfFree 12 = .ok (.aload_n 1, 1) := by decide +kernel
theorem dX0_addIfFree_13 : decode cX0_addIfFree 13 = .ok (.iload 4, 2) := by decide +kernel
theorem dX0_addIfFree_15 : decode cX0_addIfFree 15 = .ok (.invokestatic 47, 3) := by decide +kernel
theorem dX0_addIfFree_18 : decode cX0_addIfFree 18 = .ok (.iconst (-1), 1) := by decide +kernel
theorem dX0_addIfFree_19 : decode cX0_addIfFree 19 = .ok (.if_icmp .ne 17, 3) := by decide +kernel
theorem dX0_addIfFree_22 : decode cX0_addIfFree 22 = .ok (.aload_n 1, 1) := by decide +kernel
theorem dX0_addIfFree_23 : decode cX0_addIfFree 23 = .ok (.iload 5, 2) := by decide +kernel
theorem dX0_addIfFree_25 : decode cX0_addIfFree 25 = .ok (.invokestatic 47, 3) := by decide +kernel
theorem dX0_addIfFree_28 : decode cX0_addIfFree 28 = .ok (.iconst (-1), 1) := by decide +kernel
theorem dX0_addIfFree_29 : decode cX0_addIfFree 29 = .ok (.if_icmp .ne 7, 3) := by decide +kernel
theorem dX0_addIfFree_32 : decode cX0_addIfFree 32 = .ok (.iconst 1, 1) := by decide +kernel
theorem dX0_addIfFree_33 : decode cX0_addIfFree 33 = .ok (.goto 4, 3) := by decide +kernel
theorem dX0_addIfFree_36 : decode cX0_addIfFree 36 = .ok (.iconst 0, 1) := by decide +kernel
theorem dX0_addIfFree_37 : decode cX0_addIfFree 37 = .ok (.istore 6, 2) := by decide +kernel
theorem dX0_addIfFree_39 : decode cX0_addIfFree 39 = .ok (.iload 6, 2) := by decide +kernel
theorem dX0_addIfFree_41 : decode cX0_addIfFree 41 = .ok (.ifCond .eq 13, 3) := by decide +kernel
theorem dX0_addIfFree_44 : decode cX0_addIfFree 44 = .ok (.aload_n 0, 1) := by decide +kernel
theorem dX0_addIfFree_45 : decode cX0_addIfFree 45 = .ok (.getfield 34, 3) := by decide +kernel
theorem dX0_addIfFree_48 : decode cX0_addIfFree 48 = .ok (.sipush 405, 3) := by decide +kernel
theorem dX0_addIfFree_51 : decode cX0_addIfFree 51 = .ok (.if_icmp .lt 4, 3) := by decide +kernel
theorem dX0_addIfFree_54 : decode cX0_addIfFree 54 = .ok (.return_, 1) := by decide +kernel
theorem dX0_addIfFree_55 : decode cX0_addIfFree 55 = .ok (.aload_n 0, 1) := by decide +kernel
theorem dX0_addIfFree_56 : decode cX0_addIfFree 56 = .ok (.getfield 31, 3) := by decide +kernel
theorem dX0_addIfFree_59 : decode cX0_addIfFree 59 = .ok (.iload 4, 2) := by decide +kernel
theorem dX0_addIfFree_61 : decode cX0_addIfFree 61 = .ok (.invokestatic 47, 3) := by decide +kernel
theorem dX0_addIfFree_64 : decode cX0_addIfFree 64 = .ok (.ifCond .ne 19, 3) := by decide +kernel
theorem dX0_addIfFree_67 : decode cX0_addIfFree 67 = .ok (.aload_n 0, 1) := by decide +kernel
theorem dX0_addIfFree_68 : decode cX0_addIfFree 68 = .ok (.getfield 31, 3) := by decide +kernel
theorem dX0_addIfFree_71 : decode cX0_addIfFree 71 = .ok (.iload 5, 2) := by decide +kernel
theorem dX0_addIfFree_73 : decode cX0_addIfFree 73 = .ok (.invokestatic 47, 3) := by decide +kernel
theorem dX0_addIfFree_76 : decode cX0_addIfFree 76 = .ok (.ifCond .ne 7, 3) := by decide +kernel
theorem dX0_addIfFree_79 : decode cX0_addIfFree 79 = .ok (.iconst 1, 1) := by decide +kernel
theorem dX0_addIfFree_80 : decode cX0_addIfFree 80 = .ok (.goto 4, 3) := by decide +kernel
theorem dX0_addIfFree_83 : decode cX0_addIfFree 83 = .ok (.iconst 0, 1) := by decide +kernel
theorem dX0_addIfFree_84 : decode cX0_addIfFree 84 = .ok (.istore 7, 2) := by decide +kernel
theorem dX0_addIfFree_86 : decode cX0_addIfFree 86 = .ok (.aload_n 0, 1) := by decide +kernel
theorem dX0_addIfFree_87 : decode cX0_addIfFree 87 = .ok (.getfield 15, 3) := by decide +kernel
theorem dX0_addIfFree_90 : decode cX0_addIfFree 90 = .ok (.aload_n 0, 1) := by decide +kernel
theorem dX0_addIfFree_91 : decode cX0_addIfFree 91 = .ok (.getfield 34, 3) := by decide +kernel
theorem dX0_addIfFree_94 : decode cX0_addIfFree 94 = .ok (.iload_n 2, 1) := by decide +kernel
theorem dX0_addIfFree_95 : decode cX0_addIfFree 95 = .ok (.invokestatic 38, 3) := by decide +kernel
theorem dX0_addIfFree_98 : decode cX0_addIfFree 98 = .ok (.aload_n 0, 1) := by decide +kernel
theorem dX0_addIfFree_99 : decode cX0_addIfFree 99 = .ok (.getfield 19, 3) := by decide +kernel
theorem dX0_addIfFree_102 : decode cX0_addIfFree 102 = .ok (.aload_n 0, 1) := by decide +kernel
theorem dX0_addIfFree_103 : decode cX0_addIfFree 103 = .ok (.getfield 34, 3) := by decide +kernel
theorem dX0_addIfFree_106 : decode cX0_addIfFree 106 = .ok (.iload_n 3, 1) := by decide +kernel
theorem dX0_addIfFree_107 : decode cX0_addIfFree 107 = .ok (.invokestatic 38, 3) := by decide +kernel
theorem dX0_addIfFree_110 : decode cX0_addIfFree 110 = .ok (.aload_n 0, 1) := by decide +kernel
theorem dX0_addIfFree_111 : decode cX0_addIfFree 111 = .ok (.getfield 22, 3) := by decide +kernel
theorem dX0_addIfFree_114 : decode cX0_addIfFree 114 = .ok (.aload_n 0, 1) := by decide +kernel
theorem dX0_addIfFree_115 : decode cX0_addIfFree 115 = .ok (.getfield 34, 3) := by decide +kernel
theorem dX0_addIfFree_118 : decode cX0_addIfFree 118 = .ok (.iload 4, 2) := by decide +kernel
theorem dX0_addIfFree_120 : decode cX0_addIfFree 120 = .ok (.invokestatic 38, 3) := by decide +kernel
theorem dX0_addIfFree_123 : decode cX0_addIfFree 123 = .ok (.aload_n 0, 1) := by decide +kernel
theorem dX0_addIfFree_124 : decode cX0_addIfFree 124 = .ok (.getfield 25, 3) := by decide +kernel
theorem dX0_addIfFree_127 : decode cX0_addIfFree 127 = .ok (.aload_n 0, 1) := by decide +kernel
theorem dX0_addIfFree_128 : decode cX0_addIfFree 128 = .ok (.getfield 34, 3) := by decide +kernel
theorem dX0_addIfFree_131 : decode cX0_addIfFree 131 = .ok (.iload 5, 2) := by decide +kernel
theorem dX0_addIfFree_133 : decode cX0_addIfFree 133 = .ok (.invokestatic 38, 3) := by decide +kernel
theorem dX0_addIfFree_136 : decode cX0_addIfFree 136 = .ok (.aload_n 0, 1) := by decide +kernel
theorem dX0_addIfFree_137 : decode cX0_addIfFree 137 = .ok (.getfield 28, 3) := by decide +kernel
theorem dX0_addIfFree_140 : decode cX0_addIfFree 140 = .ok (.aload_n 0, 1) := by decide +kernel
theorem dX0_addIfFree_141 : decode cX0_addIfFree 141 = .ok (.getfield 34, 3) := by decide +kernel
theorem dX0_addIfFree_144 : decode cX0_addIfFree 144 = .ok (.iload 7, 2) := by decide +kernel
theorem dX0_addIfFree_146 : decode cX0_addIfFree 146 = .ok (.ifCond .eq 7, 3) := by decide +kernel
theorem dX0_addIfFree_149 : decode cX0_addIfFree 149 = .ok (.iconst 1, 1) := by decide +kernel
theorem dX0_addIfFree_150 : decode cX0_addIfFree 150 = .ok (.goto 4, 3) := by decide +kernel
theorem dX0_addIfFree_153 : decode cX0_addIfFree 153 = .ok (.iconst 0, 1) := by decide +kernel
theorem dX0_addIfFree_154 : decode cX0_addIfFree 154 = .ok (.invokestatic 38, 3) := by decide +kernel
theorem dX0_addIfFree_157 : decode cX0_addIfFree 157 = .ok (.aload_n 0, 1) := by decide +kernel
theorem dX0_addIfFree_158 : decode cX0_addIfFree 158 = .ok (.dup, 1) := by decide +kernel
theorem dX0_addIfFree_159 : decode cX0_addIfFree 159 = .ok (.getfield 34, 3) := by decide +kernel
theorem dX0_addIfFree_162 : decode cX0_addIfFree 162 = .ok (.iconst 1, 1) := by decide +kernel
theorem dX0_addIfFree_163 : decode cX0_addIfFree 163 = .ok (.iadd, 1) := by decide +kernel
theorem dX0_addIfFree_164 : decode cX0_addIfFree 164 = .ok (.putfield 34, 3) := by decide +kernel
theorem dX0_addIfFree_167 : decode cX0_addIfFree 167 = .ok (.iload 7, 2) := by decide +kernel
theorem dX0_addIfFree_169 : decode cX0_addIfFree 169 = .ok (.ifCond .eq 23, 3) := by decide +kernel
theorem dX0_addIfFree_172 : decode cX0_addIfFree 172 = .ok (.aload_n 0, 1) := by decide +kernel
theorem dX0_addIfFree_173 : decode cX0_addIfFree 173 = .ok (.getfield 31, 3) := by decide +kernel
theorem dX0_addIfFree_176 : decode cX0_addIfFree 176 = .ok (.iload 4, 2) := by decide +kernel
theorem dX0_addIfFree_178 : decode cX0_addIfFree 178 = .ok (.iconst 1, 1) := by decide +kernel
theorem dX0_addIfFree_179 : decode cX0_addIfFree 179 = .ok (.invokestatic 38, 3) := by decide +kernel
theorem dX0_addIfFree_182 : decode cX0_addIfFree 182 = .ok (.aload_n 0, 1) := by decide +kernel
theorem dX0_addIfFree_183 : decode cX0_addIfFree 183 = .ok (.getfield 31, 3) := by decide +kernel
theorem dX0_addIfFree_186 : decode cX0_addIfFree 186 = .ok (.iload 5, 2) := by decide +kernel
theorem dX0_addIfFree_188 : decode cX0_addIfFree 188 = .ok (.iconst 1, 1) := by decide +kernel
theorem dX0_addIfFree_189 : decode cX0_addIfFree 189 = .ok (.invokestatic 38, 3) := by decide +kernel
theorem dX0_addIfFree_192 : decode cX0_addIfFree 192 = .ok (.return_, 1) := by decide +kernel
theorem dX0_has_0 : decode cX0_has 0 = .ok (.iconst 0, 1) := by decide +kernel
theorem dX0_has_1 : decode cX0_has 1 = .ok (.istore_n 3, 1) := by decide +kernel
theorem dX0_has_2 : decode cX0_has 2 = .ok (.iload_n 3, 1) := by decide +kernel
theorem dX0_has_3 : decode cX0_has 3 = .ok (.aload_n 0, 1) := by decide +kernel
theorem dX0_has_4 : decode cX0_has 4 = .ok (.getfield 34, 3) := by decide +kernel
theorem dX0_has_7 : decode cX0_has 7 = .ok (.if_icmp .ge 35, 3) := by decide +kernel
theorem dX0_has_10 : decode cX0_has 10 = .ok (.aload_n 0, 1) := by decide +kernel
theorem dX0_has_11 : decode cX0_has 11 = .ok (.getfield 15, 3) := by decide +kernel
theorem dX0_has_14 : decode cX0_has 14 = .ok (.iload_n 3, 1) := by decide +kernel
theorem dX0_has_15 : decode cX0_has 15 = .ok (.invokestatic 47, 3) := by decide +kernel
theorem dX0_has_18 : decode cX0_has 18 = .ok (.iload_n 1, 1) := by decide +kernel
theorem dX0_has_19 : decode cX0_has 19 = .ok (.if_icmp .ne 17, 3) := by decide +kernel
theorem dX0_has_22 : decode cX0_has 22 = .ok (.aload_n 0, 1) := by decide +kernel
theorem dX0_has_23 : decode cX0_has 23 = .ok (.getfield 19, 3) := by decide +kernel
theorem dX0_has_26 : decode cX0_has 26 = .ok (.iload_n 3, 1) := by decide +kernel
theorem dX0_has_27 : decode cX0_has 27 = .ok (.invokestatic 47, 3) := by decide +kernel
theorem dX0_has_30 : decode cX0_has 30 = .ok (.iload_n 2, 1) := by decide +kernel
theorem dX0_has_31 : decode cX0_has 31 = .ok (.if_icmp .ne 5, 3) := by decide +kernel
theorem dX0_has_34 : decode cX0_has 34 = .ok (.iconst 1, 1) := by decide +kernel
theorem dX0_has_35 : decode cX0_has 35 = .ok (.ireturn, 1) := by decide +kernel
theorem dX0_has_36 : decode cX0_has 36 = .ok (.iinc 3 1, 3) := by decide +kernel
theorem dX0_has_39 : decode cX0_has 39 = .ok (.goto (-37), 3) := by decide +kernel
theorem dX0_has_42 : decode cX0_has 42 = .ok (.iconst 0, 1) := by decide +kernel
theorem dX0_has_43 : decode cX0_has 43 = .ok (.ireturn, 1) := by decide +kernel
theorem dX0_counting_0 : decode cX0_counting 0 = .ok (.iconst 0, 1) := by decide +kernel
theorem dX0_counting_1 : decode cX0_counting 1 = .ok (.istore_n 1, 1) := by decide +kernel
theorem dX0_counting_2 : decode cX0_counting 2 = .ok (.iconst 0, 1) := by decide +kernel
theorem dX0_counting_3 : decode cX0_counting 3 = .ok (.istore_n 2, 1) := by decide +kernel
theorem dX0_counting_4 : decode cX0_counting 4 = .ok (.iload_n 2, 1) := by decide +kernel
theorem dX0_counting_5 : decode cX0_counting 5 = .ok (.aload_n 0, 1) := by decide +kernel
theorem dX0_counting_6 : decode cX0_counting 6 = .ok (.getfield 34, 3) := by decide +kernel
theorem dX0_counting_9 : decode cX0_counting 9 = .ok (.if_icmp .ge 20, 3) := by decide +kernel
theorem dX0_counting_12 : decode cX0_counting 12 = .ok (.iload_n 1, 1) := by decide +kernel
theorem dX0_counting_13 : decode cX0_counting 13 = .ok (.aload_n 0, 1) := by decide +kernel
theorem dX0_counting_14 : decode cX0_counting 14 = .ok (.getfield 28, 3) := by decide +kernel
theorem dX0_counting_17 : decode cX0_counting 17 = .ok (.iload_n 2, 1) := by decide +kernel
theorem dX0_counting_18 : decode cX0_counting 18 = .ok (.invokestatic 47, 3) := by decide +kernel
theorem dX0_counting_21 : decode cX0_counting 21 = .ok (.iadd, 1) := by decide +kernel
theorem dX0_counting_22 : decode cX0_counting 22 = .ok (.istore_n 1, 1) := by decide +kernel
theorem dX0_counting_23 : decode cX0_counting 23 = .ok (.iinc 2 1, 3) := by decide +kernel
theorem dX0_counting_26 : decode cX0_counting 26 = .ok (.goto (-22), 3) := by decide +kernel
theorem dX0_counting_29 : decode cX0_counting 29 = .ok (.iload_n 1, 1) := by decide +kernel
theorem dX0_counting_30 : decode cX0_counting 30 = .ok (.ireturn, 1) := by decide +kernel
theorem dX0_number_0 : decode cX0_number 0 = .ok (.iload_n 1, 1) := by decide +kernel
theorem dX0_number_1 : decode cX0_number 1 = .ok (.ifCond .lt 11, 3) := by decide +kernel
theorem dX0_number_4 : decode cX0_number 4 = .ok (.iload_n 1, 1) := by decide +kernel
theorem dX0_number_5 : decode cX0_number 5 = .ok (.aload_n 0, 1) := by decide +kernel
theorem dX0_number_6 : decode cX0_number 6 = .ok (.getfield 34, 3) := by decide +kernel
theorem dX0_number_9 : decode cX0_number 9 = .ok (.if_icmp .lt 5, 3) := by decide +kernel
theorem dX0_number_12 : decode cX0_number 12 = .ok (.iconst (-1), 1) := by decide +kernel
theorem dX0_number_13 : decode cX0_number 13 = .ok (.ireturn, 1) := by decide +kernel
theorem dX0_number_14 : decode cX0_number 14 = .ok (.iload_n 2, 1) := by decide +kernel
theorem dX0_number_15 : decode cX0_number 15 = .ok (.tableswitch 65 0 3 #[29, 38, 47, 56], 29) := by decide +kernel
theorem dX0_number_44 : decode cX0_number 44 = .ok (.aload_n 0, 1) := by decide +kernel
theorem dX0_number_45 : decode cX0_number 45 = .ok (.getfield 15, 3) := by decide +kernel
theorem dX0_number_48 : decode cX0_number 48 = .ok (.iload_n 1, 1) := by decide +kernel
theorem dX0_number_49 : decode cX0_number 49 = .ok (.invokestatic 47, 3) := by decide +kernel
theorem dX0_number_52 : decode cX0_number 52 = .ok (.ireturn, 1) := by decide +kernel
theorem dX0_number_53 : decode cX0_number 53 = .ok (.aload_n 0, 1) := by decide +kernel
theorem dX0_number_54 : decode cX0_number 54 = .ok (.getfield 19, 3) := by decide +kernel
theorem dX0_number_57 : decode cX0_number 57 = .ok (.iload_n 1, 1) := by decide +kernel
theorem dX0_number_58 : decode cX0_number 58 = .ok (.invokestatic 47, 3) := by decide +kernel
theorem dX0_number_61 : decode cX0_number 61 = .ok (.ireturn, 1) := by decide +kernel
theorem dX0_number_62 : decode cX0_number 62 = .ok (.aload_n 0, 1) := by decide +kernel
theorem dX0_number_63 : decode cX0_number 63 = .ok (.getfield 22, 3) := by decide +kernel
theorem dX0_number_66 : decode cX0_number 66 = .ok (.iload_n 1, 1) := by decide +kernel
theorem dX0_number_67 : decode cX0_number 67 = .ok (.invokestatic 47, 3) := by decide +kernel
theorem dX0_number_70 : decode cX0_number 70 = .ok (.ireturn, 1) := by decide +kernel
theorem dX0_number_71 : decode cX0_number 71 = .ok (.aload_n 0, 1) := by decide +kernel
theorem dX0_number_72 : decode cX0_number 72 = .ok (.getfield 25, 3) := by decide +kernel
theorem dX0_number_75 : decode cX0_number 75 = .ok (.iload_n 1, 1) := by decide +kernel
theorem dX0_number_76 : decode cX0_number 76 = .ok (.invokestatic 47, 3) := by decide +kernel
theorem dX0_number_79 : decode cX0_number 79 = .ok (.ireturn, 1) := by decide +kernel
theorem dX0_number_80 : decode cX0_number 80 = .ok (.aload_n 0, 1) := by decide +kernel
theorem dX0_number_81 : decode cX0_number 81 = .ok (.getfield 28, 3) := by decide +kernel
theorem dX0_number_84 : decode cX0_number 84 = .ok (.iload_n 1, 1) := by decide +kernel
theorem dX0_number_85 : decode cX0_number 85 = .ok (.invokestatic 47, 3) := by decide +kernel
theorem dX0_number_88 : decode cX0_number 88 = .ok (.ireturn, 1) := by decide +kernel
theorem dX0_otherCarrier_0 : decode cX0_otherCarrier 0 = .ok (.iconst 0, 1) := by decide +kernel
theorem dX0_otherCarrier_1 : decode cX0_otherCarrier 1 = .ok (.istore_n 2, 1) := by decide +kernel
theorem dX0_otherCarrier_2 : decode cX0_otherCarrier 2 = .ok (.iload_n 2, 1) := by decide +kernel
theorem dX0_otherCarrier_3 : decode cX0_otherCarrier 3 = .ok (.aload_n 0, 1) := by decide +kernel
theorem dX0_otherCarrier_4 : decode cX0_otherCarrier 4 = .ok (.getfield 34, 3) := by decide +kernel
theorem dX0_otherCarrier_7 : decode cX0_otherCarrier 7 = .ok (.if_icmp .ge 63, 3) := by decide +kernel
theorem dX0_otherCarrier_10 : decode cX0_otherCarrier 10 = .ok (.aload_n 0, 1) := by decide +kernel
theorem dX0_otherCarrier_11 : decode cX0_otherCarrier 11 = .ok (.getfield 28, 3) := by decide +kernel
theorem dX0_otherCarrier_14 : decode cX0_otherCarrier 14 = .ok (.iload_n 2, 1) := by decide +kernel
theorem dX0_otherCarrier_15 : decode cX0_otherCarrier 15 = .ok (.invokestatic 47, 3) := by decide +kernel
theorem dX0_otherCarrier_18 : decode cX0_otherCarrier 18 = .ok (.iconst 1, 1) := by decide +kernel
theorem dX0_otherCarrier_19 : decode cX0_otherCarrier 19 = .ok (.if_icmp .ne 45, 3) := by decide +kernel
theorem dX0_otherCarrier_22 : decode cX0_otherCarrier 22 = .ok (.aload_n 0, 1) := by decide +kernel
theorem dX0_otherCarrier_23 : decode cX0_otherCarrier 23 = .ok (.getfield 22, 3) := by decide +kernel
theorem dX0_otherCarrier_26 : decode cX0_otherCarrier 26 = .ok (.iload_n 2, 1) := by decide +kernel
theorem dX0_otherCarrier_27 : decode cX0_otherCarrier 27 = .ok (.invokestatic 47, 3) := by decide +kernel
theorem dX0_otherCarrier_30 : decode cX0_otherCarrier 30 = .ok (.istore_n 3, 1) := by decide +kernel
theorem dX0_otherCarrier_31 : decode cX0_otherCarrier 31 = .ok (.aload_n 0, 1) := by decide +kernel
theorem dX0_otherCarrier_32 : decode cX0_otherCarrier 32 = .ok (.getfield 25, 3) := by decide +kernel
theorem dX0_otherCarrier_35 : decode cX0_otherCarrier 35 = .ok (.iload_n 2, 1) := by decide +kernel
theorem dX0_otherCarrier_36 : decode cX0_otherCarrier 36 = .ok (.invokestatic 47, 3) := by decide +kernel
theorem dX0_otherCarrier_39 : decode cX0_otherCarrier 39 = .ok (.istore 4, 2) := by decide +kernel
theorem dX0_otherCarrier_41 : decode cX0_otherCarrier 41 = .ok (.iload_n 3, 1) := by decide +kernel
theorem dX0_otherCarrier_42 : decode cX0_otherCarrier 42 = .ok (.iload_n 1, 1) := by decide +kernel
theorem dX0_otherCarrier_43 : decode cX0_otherCarrier 43 = .ok (.if_icmp .eq 9, 3) := by decide +kernel
theorem dX0_otherCarrier_46 : decode cX0_otherCarrier 46 = .ok (.iload 4, 2) := by decide +kernel
theorem dX0_otherCarrier_48 : decode cX0_otherCarrier 48 = .ok (.iload_n 1, 1) := by decide +kernel
theorem dX0_otherCarrier_49 : decode cX0_otherCarrier 49 = .ok (.if_icmp .ne 15, 3) := by decide +kernel
theorem dX0_otherCarrier_52 : decode cX0_otherCarrier 52 = .ok (.iload_n 3, 1) := by decide +kernel
theorem dX0_otherCarrier_53 : decode cX0_otherCarrier 53 = .ok (.iload_n 1, 1) := by decide +kernel
theorem dX0_otherCarrier_54 : decode cX0_otherCarrier 54 = .ok (.if_icmp .ne 8, 3) := by decide +kernel
theorem dX0_otherCarrier_57 : decode cX0_otherCarrier 57 = .ok (.iload 4, 2) := by decide +kernel
theorem dX0_otherCarrier_59 : decode cX0_otherCarrier 59 = .ok (.goto 4, 3) := by decide +kernel
theorem dX0_otherCarrier_62 : decode cX0_otherCarrier 62 = .ok (.iload_n 3, 1) := by decide +kernel
theorem dX0_otherCarrier_63 : decode cX0_otherCarrier 63 = .ok (.ireturn, 1) := by decide +kernel
theorem dX0_otherCarrier_64 : decode cX0_otherCarrier 64 = .ok (.iinc 2 1, 3) := by decide +kernel
theorem dX0_otherCarrier_67 : decode cX0_otherCarrier 67 = .ok (.goto (-65), 3) := by decide +kernel
theorem dX0_otherCarrier_70 : decode cX0_otherCarrier 70 = .ok (.iconst (-1), 1) := by decide +kernel
theorem dX0_otherCarrier_71 : decode cX0_otherCarrier 71 = .ok (.ireturn, 1) := by decide +kernel
theorem dX0_linkCounting_0 : decode cX0_linkCounting 0 = .ok (.iconst 0, 1) := by decide +kernel
theorem dX0_linkCounting_1 : decode cX0_linkCounting 1 = .ok (.istore_n 2, 1) := by decide +kernel
theorem dX0_linkCounting_2 : decode cX0_linkCounting 2 = .ok (.iload_n 2, 1) := by decide +kernel
theorem dX0_linkCounting_3 : decode cX0_linkCounting 3 = .ok (.aload_n 0, 1) := by decide +kernel
theorem dX0_linkCounting_4 : decode cX0_linkCounting 4 = .ok (.getfield 34, 3) := by decide +kernel
theorem dX0_linkCounting_7 : decode cX0_linkCounting 7 = .ok (.if_icmp .ge 67, 3) := by decide +kernel
theorem dX0_linkCounting_10 : decode cX0_linkCounting 10 = .ok (.aload_n 0, 1) := by decide +kernel
theorem dX0_linkCounting_11 : decode cX0_linkCounting 11 = .ok (.getfield 28, 3) := by decide +kernel
theorem dX0_linkCounting_14 : decode cX0_linkCounting 14 = .ok (.iload_n 2, 1) := by decide +kernel
theorem dX0_linkCounting_15 : decode cX0_linkCounting 15 = .ok (.invokestatic 47, 3) := by decide +kernel
theorem dX0_linkCounting_18 : decode cX0_linkCounting 18 = .ok (.iconst 1, 1) := by decide +kernel
theorem dX0_linkCounting_19 : decode cX0_linkCounting 19 = .ok (.if_icmp .ne 49, 3) := by decide +kernel
theorem dX0_linkCounting_22 : decode cX0_linkCounting 22 = .ok (.aload_n 0, 1) := by decide +kernel
theorem dX0_linkCounting_23 : decode cX0_linkCounting 23 = .ok (.getfield 15, 3) := by decide +kernel
theorem dX0_linkCounting_26 : decode cX0_linkCounting 26 = .ok (.iload_n 2, 1) := by decide +kernel
theorem dX0_linkCounting_27 : decode cX0_linkCounting 27 = .ok (.invokestatic 47, 3) := by decide +kernel
theorem dX0_linkCounting_30 : decode cX0_linkCounting 30 = .ok (.istore_n 3, 1) := by decide +kernel
theorem dX0_linkCounting_31 : decode cX0_linkCounting 31 = .ok (.aload_n 0, 1) := by decide +kernel
theorem dX0_linkCounting_32 : decode cX0_linkCounting 32 = .ok (.getfield 19, 3) := by decide +kernel
theorem dX0_linkCounting_35 : decode cX0_linkCounting 35 = .ok (.iload_n 2, 1) := by decide +kernel
theorem dX0_linkCounting_36 : decode cX0_linkCounting 36 = .ok (.invokestatic 47, 3) := by decide +kernel
theorem dX0_linkCounting_39 : decode cX0_linkCounting 39 = .ok (.istore 4, 2) := by decide +kernel
theorem dX0_linkCounting_41 : decode cX0_linkCounting 41 = .ok (.iload 4, 2) := by decide +kernel
theorem dX0_linkCounting_43 : decode cX0_linkCounting 43 = .ok (.ifCond .lt 13, 3) := by decide +kernel
theorem dX0_linkCounting_46 : decode cX0_linkCounting 46 = .ok (.aload_n 1, 1) := by decide +kernel
theorem dX0_linkCounting_47 : decode cX0_linkCounting 47 = .ok (.iload_n 3, 1) := by decide +kernel
theorem dX0_linkCounting_48 : decode cX0_linkCounting 48 = .ok (.iload 4, 2) := by decide +kernel
theorem dX0_linkCounting_50 : decode cX0_linkCounting 50 = .ok (.invokevirtual 96, 3) := by decide +kernel
theorem dX0_linkCounting_53 : decode cX0_linkCounting 53 = .ok (.goto 15, 3) := by decide +kernel
theorem dX0_linkCounting_56 : decode cX0_linkCounting 56 = .ok (.aload_n 1, 1) := by decide +kernel
theorem dX0_linkCounting_57 : decode cX0_linkCounting 57 = .ok (.iload_n 3, 1) := by decide +kernel
theorem dX0_linkCounting_58 : decode cX0_linkCounting 58 = .ok (.iconst 1, 1) := by decide +kernel
theorem dX0_linkCounting_59 : decode cX0_linkCounting 59 = .ok (.bipush (-10), 2) := by decide +kernel
theorem dX0_linkCounting_61 : decode cX0_linkCounting 61 = .ok (.iload 4, 2) := by decide +kernel
theorem dX0_linkCounting_63 : decode cX0_linkCounting 63 = .ok (.isub, 1) := by decide +kernel
theorem dX0_linkCounting_64 : decode cX0_linkCounting 64 = .ok (.ishl, 1) := by decide +kernel
theorem dX0_linkCounting_65 : decode cX0_linkCounting 65 = .ok (.invokevirtual 102, 3) := by decide +kernel
theorem dX0_linkCounting_68 : decode cX0_linkCounting 68 = .ok (.iinc 2 1, 3) := by decide +kernel
theorem dX0_linkCounting_71 : decode cX0_linkCounting 71 = .ok (.goto (-69), 3) := by decide +kernel
theorem dX0_linkCounting_74 : decode cX0_linkCounting 74 = .ok (.return_, 1) := by decide +kernel
theorem dX0_countingIn_0 : decode cX0_countingIn 0 = .ok (.iconst 0, 1) := by decide +kernel
theorem dX0_countingIn_1 : decode cX0_countingIn 1 = .ok (.istore_n 3, 1) := by decide +kernel
theorem dX0_countingIn_2 : decode cX0_countingIn 2 = .ok (.iconst 0, 1) := by decide +kernel
theorem dX0_countingIn_3 : decode cX0_countingIn 3 = .ok (.istore 4, 2) := by decide +kernel
theorem dX0_countingIn_5 : decode cX0_countingIn 5 = .ok (.iload 4, 2) := by decide +kernel
theorem dX0_countingIn_7 : decode cX0_countingIn 7 = .ok (.aload_n 0, 1) := by decide +kernel
theorem dX0_countingIn_8 : decode cX0_countingIn 8 = .ok (.getfield 34, 3) := by decide +kernel
theorem dX0_countingIn_11 : decode cX0_countingIn 11 = .ok (.if_icmp .ge 42, 3) := by decide +kernel
theorem dX0_countingIn_14 : decode cX0_countingIn 14 = .ok (.aload_n 0, 1) := by decide +kernel
theorem dX0_countingIn_15 : decode cX0_countingIn 15 = .ok (.getfield 28, 3) := by decide +kernel
theorem dX0_countingIn_18 : decode cX0_countingIn 18 = .ok (.iload 4, 2) := by decide +kernel
theorem dX0_countingIn_20 : decode cX0_countingIn 20 = .ok (.invokestatic 47, 3) := by decide +kernel
theorem dX0_countingIn_23 : decode cX0_countingIn 23 = .ok (.iconst 1, 1) := by decide +kernel
theorem dX0_countingIn_24 : decode cX0_countingIn 24 = .ok (.if_icmp .ne 23, 3) := by decide +kernel
theorem dX0_countingIn_27 : decode cX0_countingIn 27 = .ok (.aload_n 1, 1) := by decide +kernel
theorem dX0_countingIn_28 : decode cX0_countingIn 28 = .ok (.aload_n 0, 1) := by decide +kernel
theorem dX0_countingIn_29 : decode cX0_countingIn 29 = .ok (.getfield 15, 3) := by decide +kernel
theorem dX0_countingIn_32 : decode cX0_countingIn 32 = .ok (.iload 4, 2) := by decide +kernel
theorem dX0_countingIn_34 : decode cX0_countingIn 34 = .ok (.invokestatic 47, 3) := by decide +kernel
theorem dX0_countingIn_37 : decode cX0_countingIn 37 = .ok (.invokevirtual 105, 3) := by decide +kernel
theorem dX0_countingIn_40 : decode cX0_countingIn 40 = .ok (.iload_n 2, 1) := by decide +kernel
theorem dX0_countingIn_41 : decode cX0_countingIn 41 = .ok (.if_icmp .ne 6, 3) := by decide +kernel
theorem dX0_countingIn_44 : decode cX0_countingIn 44 = .ok (.iinc 3 1, 3) := by decide +kernel
theorem dX0_countingIn_47 : decode cX0_countingIn 47 = .ok (.iinc 4 1, 3) := by decide +kernel
theorem dX0_countingIn_50 : decode cX0_countingIn 50 = .ok (.goto (-45), 3) := by decide +kernel
theorem dX0_countingIn_53 : decode cX0_countingIn 53 = .ok (.iload_n 3, 1) := by decide +kernel
theorem dX0_countingIn_54 : decode cX0_countingIn 54 = .ok (.ireturn, 1) := by decide +kernel
theorem dX1_init_0 : decode cX1_init 0 = .ok (.aload_n 0, 1) := by decide +kernel
theorem dX1_init_1 : decode cX1_init 1 = .ok (.invokespecial 3, 3) := by decide +kernel
theorem dX1_init_4 : decode cX1_init 4 = .ok (.aload_n 0, 1) := by decide +kernel
theorem dX1_init_5 : decode cX1_init 5 = .ok (.iconst 0, 1) := by decide +kernel
theorem dX1_init_6 : decode cX1_init 6 = .ok (.iload_n 1, 1) := by decide +kernel
theorem dX1_init_7 : decode cX1_init 7 = .ok (.invokestatic 9, 3) := by decide +kernel
theorem dX1_init_10 : decode cX1_init 10 = .ok (.newarray .int, 2) := by decide +kernel
theorem dX1_init_12 : decode cX1_init 12 = .ok (.putfield 15, 3) := by decide +kernel
theorem dX1_init_15 : decode cX1_init 15 = .ok (.return_, 1) := by decide +kernel
theorem dX1_clear_0 : decode cX1_clear 0 = .ok (.aload_n 0, 1) := by decide +kernel
theorem dX1_clear_1 : decode cX1_clear 1 = .ok (.iconst 0, 1) := by decide +kernel
theorem dX1_clear_2 : decode cX1_clear 2 = .ok (.putfield 21, 3) := by decide +kernel
theorem dX1_clear_5 : decode cX1_clear 5 = .ok (.return_, 1) := by decide +kernel
theorem dX1_add_0 : decode cX1_add 0 = .ok (.aload_n 0, 1) := by decide +kernel
theorem dX1_add_1 : decode cX1_add 1 = .ok (.getfield 21, 3) := by decide +kernel
theorem dX1_add_4 : decode cX1_add 4 = .ok (.ifCond .lt 35, 3) := by decide +kernel
theorem dX1_add_7 : decode cX1_add 7 = .ok (.aload_n 0, 1) := by decide +kernel
theorem dX1_add_8 : decode cX1_add 8 = .ok (.getfield 21, 3) := by decide +kernel
theorem dX1_add_11 : decode cX1_add 11 = .ok (.aload_n 0, 1) := by decide +kernel
theorem dX1_add_12 : decode cX1_add 12 = .ok (.getfield 15, 3) := by decide +kernel
theorem dX1_add_15 : decode cX1_add 15 = .ok (.arraylength, 1) := by decide +kernel
theorem dX1_add_16 : decode cX1_add 16 = .ok (.if_icmp .ge 23, 3) := by decide +kernel
theorem dX1_add_19 : decode cX1_add 19 = .ok (.aload_n 0, 1) := by decide +kernel
theorem dX1_add_20 : decode cX1_add 20 = .ok (.getfield 15, 3) := by decide +kernel
theorem dX1_add_23 : decode cX1_add 23 = .ok (.aload_n 0, 1) := by decide +kernel
theorem dX1_add_24 : decode cX1_add 24 = .ok (.getfield 21, 3) := by decide +kernel
theorem dX1_add_27 : decode cX1_add 27 = .ok (.iload_n 1, 1) := by decide +kernel
theorem dX1_add_28 : decode cX1_add 28 = .ok (.iastore, 1) := by decide +kernel
theorem dX1_add_29 : decode cX1_add 29 = .ok (.aload_n 0, 1) := by decide +kernel
theorem dX1_add_30 : decode cX1_add 30 = .ok (.dup, 1) := by decide +kernel
theorem dX1_add_31 : decode cX1_add 31 = .ok (.getfield 21, 3) := by decide +kernel
theorem dX1_add_34 : decode cX1_add 34 = .ok (.iconst 1, 1) := by decide +kernel
theorem dX1_add_35 : decode cX1_add 35 = .ok (.iadd, 1) := by decide +kernel
theorem dX1_add_36 : decode cX1_add 36 = .ok (.putfield 21, 3) := by decide +kernel
theorem dX1_add_39 : decode cX1_add 39 = .ok (.return_, 1) := by decide +kernel
theorem dX1_get_0 : decode cX1_get 0 = .ok (.iload_n 1, 1) := by decide +kernel
theorem dX1_get_1 : decode cX1_get 1 = .ok (.ifCond .lt 20, 3) := by decide +kernel
theorem dX1_get_4 : decode cX1_get 4 = .ok (.iload_n 1, 1) := by decide +kernel
theorem dX1_get_5 : decode cX1_get 5 = .ok (.aload_n 0, 1) := by decide +kernel
theorem dX1_get_6 : decode cX1_get 6 = .ok (.getfield 21, 3) := by decide +kernel
theorem dX1_get_9 : decode cX1_get 9 = .ok (.if_icmp .ge 12, 3) := by decide +kernel
theorem dX1_get_12 : decode cX1_get 12 = .ok (.iload_n 1, 1) := by decide +kernel
theorem dX1_get_13 : decode cX1_get 13 = .ok (.aload_n 0, 1) := by decide +kernel
theorem dX1_get_14 : decode cX1_get 14 = .ok (.getfield 15, 3) := by decide +kernel
theorem dX1_get_17 : decode cX1_get 17 = .ok (.arraylength, 1) := by decide +kernel
theorem dX1_get_18 : decode cX1_get 18 = .ok (.if_icmp .lt 7, 3) := by decide +kernel
theorem dX1_get_21 : decode cX1_get 21 = .ok (.iconst 1, 1) := by decide +kernel
theorem dX1_get_22 : decode cX1_get 22 = .ok (.goto 4, 3) := by decide +kernel
theorem dX1_get_25 : decode cX1_get 25 = .ok (.iconst 0, 1) := by decide +kernel
theorem dX1_get_26 : decode cX1_get 26 = .ok (.istore_n 2, 1) := by decide +kernel
theorem dX1_get_27 : decode cX1_get 27 = .ok (.iload_n 2, 1) := by decide +kernel
theorem dX1_get_28 : decode cX1_get 28 = .ok (.ifCond .eq 7, 3) := by decide +kernel
theorem dX1_get_31 : decode cX1_get 31 = .ok (.iconst (-1), 1) := by decide +kernel
theorem dX1_get_32 : decode cX1_get 32 = .ok (.goto 9, 3) := by decide +kernel
theorem dX1_get_35 : decode cX1_get 35 = .ok (.aload_n 0, 1) := by decide +kernel
theorem dX1_get_36 : decode cX1_get 36 = .ok (.getfield 15, 3) := by decide +kernel
theorem dX1_get_39 : decode cX1_get 39 = .ok (.iload_n 1, 1) := by decide +kernel
theorem dX1_get_40 : decode cX1_get 40 = .ok (.iaload, 1) := by decide +kernel
theorem dX1_get_41 : decode cX1_get 41 = .ok (.ireturn, 1) := by decide +kernel
theorem dX2_init_0 : decode cX2_init 0 = .ok (.aload_n 0, 1) := by decide +kernel
theorem dX2_init_1 : decode cX2_init 1 = .ok (.invokespecial 3, 3) := by decide +kernel
theorem dX2_init_4 : decode cX2_init 4 = .ok (.aload_n 0, 1) := by decide +kernel
theorem dX2_init_5 : decode cX2_init 5 = .ok (.aload_n 1, 1) := by decide +kernel
theorem dX2_init_6 : decode cX2_init 6 = .ok (.putfield 9, 3) := by decide +kernel
theorem dX2_init_9 : decode cX2_init 9 = .ok (.aload_n 0, 1) := by decide +kernel
theorem dX2_init_10 : decode cX2_init 10 = .ok (.aload_n 2, 1) := by decide +kernel
theorem dX2_init_11 : decode cX2_init 11 = .ok (.putfield 15, 3) := by decide +kernel
theorem dX2_init_14 : decode cX2_init 14 = .ok (.aload_n 0, 1) := by decide +kernel
theorem dX2_init_15 : decode cX2_init 15 = .ok (.bipush 81, 2) := by decide +kernel
theorem dX2_init_17 : decode cX2_init 17 = .ok (.newarray .int, 2) := by decide +kernel
theorem dX2_init_19 : decode cX2_init 19 = .ok (.putfield 19, 3) := by decide +kernel
theorem dX2_init_22 : decode cX2_init 22 = .ok (.aload_n 0, 1) := by decide +kernel
theorem dX2_init_23 : decode cX2_init 23 = .ok (.bipush 6, 2) := by decide +kernel
theorem dX2_init_25 : decode cX2_init 25 = .ok (.newarray .int, 2) := by decide +kernel
theorem dX2_init_27 : decode cX2_init 27 = .ok (.putfield 23, 3) := by decide +kernel
theorem dX2_init_30 : decode cX2_init 30 = .ok (.aload_n 0, 1) := by decide +kernel
theorem dX2_init_31 : decode cX2_init 31 = .ok (.bipush 64, 2) := by decide +kernel
theorem dX2_init_33 : decode cX2_init 33 = .ok (.newarray .int, 2) := by decide +kernel
theorem dX2_init_35 : decode cX2_init 35 = .ok (.putfield 26, 3) := by decide +kernel
theorem dX2_init_38 : decode cX2_init 38 = .ok (.return_, 1) := by decide +kernel
theorem dX2_begin_0 : decode cX2_begin 0 = .ok (.aload_n 0, 1) := by decide +kernel
theorem dX2_begin_1 : decode cX2_begin 1 = .ok (.iconst 0, 1) := by decide +kernel
theorem dX2_begin_2 : decode cX2_begin 2 = .ok (.putfield 29, 3) := by decide +kernel
theorem dX2_begin_5 : decode cX2_begin 5 = .ok (.iconst 0, 1) := by decide +kernel
theorem dX2_begin_6 : decode cX2_begin 6 = .ok (.istore_n 2, 1) := by decide +kernel
theorem dX2_begin_7 : decode cX2_begin 7 = .ok (.iload_n 2, 1) := by decide +kernel
theorem dX2_begin_8 : decode cX2_begin 8 = .ok (.aload_n 0, 1) := by decide +kernel
theorem dX2_begin_9 : decode cX2_begin 9 = .ok (.getfield 9, 3) := by decide +kernel
theorem dX2_begin_12 : decode cX2_begin 12 = .ok (.getfield 33, 3) := by decide +kernel
theorem dX2_begin_15 : decode cX2_begin 15 = .ok (.if_icmp .ge 62, 3) := by decide +kernel
theorem dX2_begin_18 : decode cX2_begin 18 = .ok (.aload_n 0, 1) := by decide +kernel
theorem dX2_begin_19 : decode cX2_begin 19 = .ok (.getfield 19, 3) := by decide +kernel
theorem dX2_begin_22 : decode cX2_begin 22 = .ok (.iload_n 2, 1) := by decide +kernel
theorem dX2_begin_23 : decode cX2_begin 23 = .ok (.aload_n 1, 1) := by decide +kernel
theorem dX2_begin_24 : decode cX2_begin 24 = .ok (.iload_n 2, 1) := by decide +kernel
theorem dX2_begin_25 : decode cX2_begin 25 = .ok (.invokestatic 38, 3) := by decide +kernel
theorem dX2_begin_28 : decode cX2_begin 28 = .ok (.invokestatic 42, 3) := by decide +kernel
theorem dX2_begin_31 : decode cX2_begin 31 = .ok (.aload_n 1, 1) := by decide +kernel
theorem dX2_begin_32 : decode cX2_begin 32 = .ok (.iload_n 2, 1) := by decide +kernel
theorem dX2_begin_33 : decode cX2_begin 33 = .ok (.invokestatic 38, 3) := by decide +kernel
theorem dX2_begin_36 : decode cX2_begin 36 = .ok (.iconst (-1), 1) := by decide +kernel
theorem dX2_begin_37 : decode cX2_begin 37 = .ok (.if_icmp .ne 34, 3) := by decide +kernel
theorem dX2_begin_40 : decode cX2_begin 40 = .ok (.aload_n 0, 1) := by decide +kernel
theorem dX2_begin_41 : decode cX2_begin 41 = .ok (.getfield 29, 3) := by decide +kernel
theorem dX2_begin_44 : decode cX2_begin 44 = .ok (.bipush 6, 2) := by decide +kernel
theorem dX2_begin_46 : decode cX2_begin 46 = .ok (.if_icmp .ge 25, 3) := by decide +kernel
theorem dX2_begin_49 : decode cX2_begin 49 = .ok (.aload_n 0, 1) := by decide +kernel
theorem dX2_begin_50 : decode cX2_begin 50 = .ok (.getfield 23, 3) := by decide +kernel
theorem dX2_begin_53 : decode cX2_begin 53 = .ok (.aload_n 0, 1) := by decide +kernel
theorem dX2_begin_54 : decode cX2_begin 54 = .ok (.getfield 29, 3) := by decide +kernel
theorem dX2_begin_57 : decode cX2_begin 57 = .ok (.iload_n 2, 1) := by decide +kernel
theorem dX2_begin_58 : decode cX2_begin 58 = .ok (.invokestatic 42, 3) := by decide +kernel
theorem dX2_begin_61 : decode cX2_begin 61 = .ok (.aload_n 0, 1) := by decide +kernel
theorem dX2_begin_62 : decode cX2_begin 62 = .ok (.dup, 1) := by decide +kernel
theorem dX2_begin_63 : decode cX2_begin 63 = .ok (.getfield 29, 3) := by decide +kernel
theorem dX2_begin_66 : decode cX2_begin 66 = .ok (.iconst 1, 1) := by decide +kernel
theorem dX2_begin_67 : decode cX2_begin 67 = .ok (.iadd, 1) := by decide +kernel
theorem dX2_begin_68 : decode cX2_begin 68 = .ok (.putfield 29, 3) := by decide +kernel
theorem dX2_begin_71 : decode cX2_begin 71 = .ok (.iinc 2 1, 3) := by decide +kernel
theorem dX2_begin_74 : decode cX2_begin 74 = .ok (.goto (-67), 3) := by decide +kernel
theorem dX2_begin_77 : decode cX2_begin 77 = .ok (.iconst 0, 1) := by decide +kernel
theorem dX2_begin_78 : decode cX2_begin 78 = .ok (.istore_n 2, 1) := by decide +kernel
theorem dX2_begin_79 : decode cX2_begin 79 = .ok (.iload_n 2, 1) := by decide +kernel
theorem dX2_begin_80 : decode cX2_begin 80 = .ok (.aload_n 0, 1) := by decide +kernel
theorem dX2_begin_81 : decode cX2_begin 81 = .ok (.getfield 26, 3) := by decide +kernel
theorem dX2_begin_84 : decode cX2_begin 84 = .ok (.arraylength, 1) := by decide +kernel
theorem dX2_begin_85 : decode cX2_begin 85 = .ok (.if_icmp .ge 16, 3) := by decide +kernel
theorem dX2_begin_88 : decode cX2_begin 88 = .ok (.aload_n 0, 1) := by decide +kernel
theorem dX2_begin_89 : decode cX2_begin 89 = .ok (.getfield 26, 3) := by decide +kernel
theorem dX2_begin_92 : decode cX2_begin 92 = .ok (.iload_n 2, 1) := by decide +kernel
theorem dX2_begin_93 : decode cX2_begin 93 = .ok (.iconst (-1), 1) := by decide +kernel
theorem dX2_begin_94 : decode cX2_begin 94 = .ok (.iastore, 1) := by decide +kernel
theorem dX2_begin_95 : decode cX2_begin 95 = .ok (.iinc 2 1, 3) := by decide +kernel
theorem dX2_begin_98 : decode cX2_begin 98 = .ok (.goto (-19), 3) := by decide +kernel
theorem dX2_begin_101 : decode cX2_begin 101 = .ok (.return_, 1) := by decide +kernel
theorem dX2_winner_0 : decode cX2_winner 0 = .ok (.aload_n 0, 1) := by decide +kernel
theorem dX2_winner_1 : decode cX2_winner 1 = .ok (.aload_n 0, 1) := by decide +kernel
theorem dX2_winner_2 : decode cX2_winner 2 = .ok (.invokevirtual 46, 3) := by decide +kernel
theorem dX2_winner_5 : decode cX2_winner 5 = .ok (.iconst 0, 1) := by decide +kernel
theorem dX2_winner_6 : decode cX2_winner 6 = .ok (.iload_n 1, 1) := by decide +kernel
theorem dX2_winner_7 : decode cX2_winner 7 = .ok (.iconst 0, 1) := by decide +kernel
theorem dX2_winner_8 : decode cX2_winner 8 = .ok (.invokevirtual 50, 3) := by decide +kernel
theorem dX2_winner_11 : decode cX2_winner 11 = .ok (.ireturn, 1) := by decide +kernel
theorem dX2_countGood_0 : decode cX2_countGood 0 = .ok (.iconst 0, 1) := by decide +kernel
theorem dX2_countGood_1 : decode cX2_countGood 1 = .ok (.istore_n 2, 1) := by decide +kernel
theorem dX2_countGood_2 : decode cX2_countGood 2 = .ok (.iconst 0, 1) := by decide +kernel
theorem dX2_countGood_3 : decode cX2_countGood 3 = .ok (.istore_n 3, 1) := by decide +kernel
theorem dX2_countGood_4 : decode cX2_countGood 4 = .ok (.iload_n 3, 1) := by decide +kernel
theorem dX2_countGood_5 : decode cX2_countGood 5 = .ok (.aload_n 0, 1) := by decide +kernel
theorem dX2_countGood_6 : decode cX2_countGood 6 = .ok (.getfield 29, 3) := by decide +kernel
theorem dX2_countGood_9 : decode cX2_countGood 9 = .ok (.if_icmp .ge 21, 3) := by decide +kernel
theorem dX2_countGood_12 : decode cX2_countGood 12 = .ok (.aload_n 0, 1) := by decide +kernel
theorem dX2_countGood_13 : decode cX2_countGood 13 = .ok (.iload_n 3, 1) := by decide +kernel
theorem dX2_countGood_14 : decode cX2_countGood 14 = .ok (.iload_n 1, 1) := by decide +kernel
theorem dX2_countGood_15 : decode cX2_countGood 15 = .ok (.invokevirtual 54, 3) := by decide +kernel
theorem dX2_countGood_18 : decode cX2_countGood 18 = .ok (.ifCond .eq 6, 3) := by decide +kernel
theorem dX2_countGood_21 : decode cX2_countGood 21 = .ok (.iinc 2 1, 3) := by decide +kernel
theorem dX2_countGood_24 : decode cX2_countGood 24 = .ok (.iinc 3 1, 3) := by decide +kernel
theorem dX2_countGood_27 : decode cX2_countGood 27 = .ok (.goto (-23), 3) := by decide +kernel
theorem dX2_countGood_30 : decode cX2_countGood 30 = .ok (.iload_n 2, 1) := by decide +kernel
theorem dX2_countGood_31 : decode cX2_countGood 31 = .ok (.ireturn, 1) := by decide +kernel
theorem dX2_lowestGood_0 : decode cX2_lowestGood 0 = .ok (.iconst 0, 1) := by decide +kernel
theorem dX2_lowestGood_1 : decode cX2_lowestGood 1 = .ok (.istore_n 2, 1) := by decide +kernel
theorem dX2_lowestGood_2 : decode cX2_lowestGood 2 = .ok (.iload_n 2, 1) := by decide +kernel
theorem dX2_lowestGood_3 : decode cX2_lowestGood 3 = .ok (.aload_n 0, 1) := by decide +kernel
theorem dX2_lowestGood_4 : decode cX2_lowestGood 4 = .ok (.getfield 29, 3) := by decide +kernel
theorem dX2_lowestGood_7 : decode cX2_lowestGood 7 = .ok (.if_icmp .ge 27, 3) := by decide +kernel
theorem dX2_lowestGood_10 : decode cX2_lowestGood 10 = .ok (.aload_n 0, 1) := by decide +kernel
theorem dX2_lowestGood_11 : decode cX2_lowestGood 11 = .ok (.iload_n 2, 1) := by decide +kernel
theorem dX2_lowestGood_12 : decode cX2_lowestGood 12 = .ok (.iload_n 1, 1) := by decide +kernel
theorem dX2_lowestGood_13 : decode cX2_lowestGood 13 = .ok (.invokevirtual 54, 3) := by decide +kernel
theorem dX2_lowestGood_16 : decode cX2_lowestGood 16 = .ok (.ifCond .eq 12, 3) := by decide +kernel
theorem dX2_lowestGood_19 : decode cX2_lowestGood 19 = .ok (.aload_n 0, 1) := by decide +kernel
theorem dX2_lowestGood_20 : decode cX2_lowestGood 20 = .ok (.getfield 23, 3) := by decide +kernel
theorem dX2_lowestGood_23 : decode cX2_lowestGood 23 = .ok (.iload_n 2, 1) := by decide +kernel
theorem dX2_lowestGood_24 : decode cX2_lowestGood 24 = .ok (.invokestatic 38, 3) := by decide +kernel
theorem dX2_lowestGood_27 : decode cX2_lowestGood 27 = .ok (.ireturn, 1) := by decide +kernel
theorem dX2_lowestGood_28 : decode cX2_lowestGood 28 = .ok (.iinc 2 1, 3) := by decide +kernel
theorem dX2_lowestGood_31 : decode cX2_lowestGood 31 = .ok (.goto (-29), 3) := by decide +kernel
theorem dX2_lowestGood_34 : decode cX2_lowestGood 34 = .ok (.iconst (-1), 1) := by decide +kernel
theorem dX2_lowestGood_35 : decode cX2_lowestGood 35 = .ok (.ireturn, 1) := by decide +kernel
theorem dX2_isGood_0 : decode cX2_isGood 0 = .ok (.iconst 1, 1) := by decide +kernel
theorem dX2_isGood_1 : decode cX2_isGood 1 = .ok (.iload_n 1, 1) := by decide +kernel
theorem dX2_isGood_2 : decode cX2_isGood 2 = .ok (.ishl, 1) := by decide +kernel
theorem dX2_isGood_3 : decode cX2_isGood 3 = .ok (.istore_n 3, 1) := by decide +kernel
theorem dX2_isGood_4 : decode cX2_isGood 4 = .ok (.aload_n 0, 1) := by decide +kernel
theorem dX2_isGood_5 : decode cX2_isGood 5 = .ok (.aload_n 0, 1) := by decide +kernel
theorem dX2_isGood_6 : decode cX2_isGood 6 = .ok (.invokevirtual 46, 3) := by decide +kernel
theorem dX2_isGood_9 : decode cX2_isGood 9 = .ok (.iload_n 3, 1) := by decide +kernel
theorem dX2_isGood_10 : decode cX2_isGood 10 = .ok (.ixor, 1) := by decide +kernel
theorem dX2_isGood_11 : decode cX2_isGood 11 = .ok (.iload_n 2, 1) := by decide +kernel
theorem dX2_isGood_12 : decode cX2_isGood 12 = .ok (.ifCond .ne 7, 3) := by decide +kernel
theorem dX2_isGood_15 : decode cX2_isGood 15 = .ok (.iload_n 3, 1) := by decide +kernel
theorem dX2_isGood_16 : decode cX2_isGood 16 = .ok (.goto 4, 3) := by decide +kernel
theorem dX2_isGood_19 : decode cX2_isGood 19 = .ok (.iconst 0, 1) := by decide +kernel
theorem dX2_isGood_20 : decode cX2_isGood 20 = .ok (.iload_n 2, 1) := by decide +kernel
theorem dX2_isGood_21 : decode cX2_isGood 21 = .ok (.invokestatic 58, 3) := by decide +kernel
theorem dX2_isGood_24 : decode cX2_isGood 24 = .ok (.iconst 1, 1) := by decide +kernel
theorem dX2_isGood_25 : decode cX2_isGood 25 = .ok (.invokevirtual 50, 3) := by decide +kernel
theorem dX2_isGood_28 : decode cX2_isGood 28 = .ok (.iload_n 2, 1) := by decide +kernel
theorem dX2_isGood_29 : decode cX2_isGood 29 = .ok (.if_icmp .ne 7, 3) := by decide +kernel
theorem dX2_isGood_32 : decode cX2_isGood 32 = .ok (.iconst 1, 1) := by decide +kernel
theorem dX2_isGood_33 : decode cX2_isGood 33 = .ok (.goto 4, 3) := by decide +kernel
theorem dX2_isGood_36 : decode cX2_isGood 36 = .ok (.iconst 0, 1) := by decide +kernel
theorem dX2_isGood_37 : decode cX2_isGood 37 = .ok (.ireturn, 1) := by decide +kernel
theorem dX2_all_0 : decode cX2_all 0 = .ok (.iconst 1, 1) := by decide +kernel
theorem dX2_all_1 : decode cX2_all 1 = .ok (.aload_n 0, 1) := by decide +kernel
theorem dX2_all_2 : decode cX2_all 2 = .ok (.getfield 29, 3) := by decide +kernel
theorem dX2_all_5 : decode cX2_all 5 = .ok (.ishl, 1) := by decide +kernel
theorem dX2_all_6 : decode cX2_all 6 = .ok (.iconst 1, 1) := by decide +kernel
theorem dX2_all_7 : decode cX2_all 7 = .ok (.isub, 1) := by decide +kernel
theorem dX2_all_8 : decode cX2_all 8 = .ok (.ireturn, 1) := by decide +kernel
theorem dX2_best_0 : decode cX2_best 0 = .ok (.iload_n 1, 1) := by decide +kernel
theorem dX2_best_1 : decode cX2_best 1 = .ok (.ifCond .eq 10, 3) := by decide +kernel
theorem dX2_best_4 : decode cX2_best 4 = .ok (.iload 4, 2) := by decide +kernel
theorem dX2_best_6 : decode cX2_best 6 = .ok (.bipush 6, 2) := by decide +kernel
theorem dX2_best_8 : decode cX2_best 8 = .ok (.if_icmp .lt 9, 3) := by decide +kernel
theorem dX2_best_11 : decode cX2_best 11 = .ok (.aload_n 0, 1) := by decide +kernel
theorem dX2_best_12 : decode cX2_best 12 = .ok (.iload_n 2, 1) := by decide +kernel
theorem dX2_best_13 : decode cX2_best 13 = .ok (.invokevirtual 62, 3) := by decide +kernel
theorem dX2_best_16 : decode cX2_best 16 = .ok (.ireturn, 1) := by decide +kernel
theorem dX2_best_17 : decode cX2_best 17 = .ok (.iconst 0, 1) := by decide +kernel
theorem dX2_best_18 : decode cX2_best 18 = .ok (.istore 5, 2) := by decide +kernel
theorem dX2_best_20 : decode cX2_best 20 = .ok (.iload 5, 2) := by decide +kernel
theorem dX2_best_22 : decode cX2_best 22 = .ok (.aload_n 0, 1) := by decide +kernel
theorem dX2_best_23 : decode cX2_best 23 = .ok (.getfield 29, 3) := by decide +kernel
theorem dX2_best_26 : decode cX2_best 26 = .ok (.if_icmp .ge 60, 3) := by decide +kernel
theorem dX2_best_29 : decode cX2_best 29 = .ok (.iconst 1, 1) := by decide +kernel
theorem dX2_best_30 : decode cX2_best 30 = .ok (.iload 5, 2) := by decide +kernel
theorem dX2_best_32 : decode cX2_best 32 = .ok (.ishl, 1) := by decide +kernel
theorem dX2_best_33 : decode cX2_best 33 = .ok (.istore 6, 2) := by decide +kernel
theorem dX2_best_35 : decode cX2_best 35 = .ok (.iload_n 1, 1) := by decide +kernel
theorem dX2_best_36 : decode cX2_best 36 = .ok (.iload 6, 2) := by decide +kernel
theorem dX2_best_38 : decode cX2_best 38 = .ok (.iand, 1) := by decide +kernel
theorem dX2_best_39 : decode cX2_best 39 = .ok (.ifCond .eq 41, 3) := by decide +kernel
theorem dX2_best_42 : decode cX2_best 42 = .ok (.iload_n 3, 1) := by decide +kernel
theorem dX2_best_43 : decode cX2_best 43 = .ok (.ifCond .ne 10, 3) := by decide +kernel
theorem dX2_best_46 : decode cX2_best 46 = .ok (.iload_n 2, 1) := by decide +kernel
theorem dX2_best_47 : decode cX2_best 47 = .ok (.iload 6, 2) := by decide +kernel
theorem dX2_best_49 : decode cX2_best 49 = .ok (.ior, 1) := by decide +kernel
theorem dX2_best_50 : decode cX2_best 50 = .ok (.goto 4, 3) := by decide +kernel
theorem dX2_best_53 : decode cX2_best 53 = .ok (.iload_n 2, 1) := by decide +kernel
theorem dX2_best_54 : decode cX2_best 54 = .ok (.istore 7, 2) := by decide +kernel
theorem dX2_best_56 : decode cX2_best 56 = .ok (.aload_n 0, 1) := by decide +kernel
theorem dX2_best_57 : decode cX2_best 57 = .ok (.iload_n 1, 1) := by decide +kernel
theorem dX2_best_58 : decode cX2_best 58 = .ok (.iload 6, 2) := by decide +kernel
theorem dX2_best_60 : decode cX2_best 60 = .ok (.ixor, 1) := by decide +kernel
theorem dX2_best_61 : decode cX2_best 61 = .ok (.iload 7, 2) := by decide +kernel
theorem dX2_best_63 : decode cX2_best 63 = .ok (.iload_n 3, 1) := by decide +kernel
theorem dX2_best_64 : decode cX2_best 64 = .ok (.invokestatic 58, 3) := by decide +kernel
theorem dX2_best_67 : decode cX2_best 67 = .ok (.iload 4, 2) := by decide +kernel
theorem dX2_best_69 : decode cX2_best 69 = .ok (.iconst 1, 1) := by decide +kernel
theorem dX2_best_70 : decode cX2_best 70 = .ok (.iadd, 1) := by decide +kernel
theorem dX2_best_71 : decode cX2_best 71 = .ok (.invokevirtual 50, 3) := by decide +kernel
theorem dX2_best_74 : decode cX2_best 74 = .ok (.iload_n 3, 1) := by decide +kernel
theorem dX2_best_75 : decode cX2_best 75 = .ok (.if_icmp .ne 5, 3) := by decide +kernel
theorem dX2_best_78 : decode cX2_best 78 = .ok (.iload_n 3, 1) := by decide +kernel
theorem dX2_best_79 : decode cX2_best 79 = .ok (.ireturn, 1) := by decide +kernel
theorem dX2_best_80 : decode cX2_best 80 = .ok (.iinc 5 1, 3) := by decide +kernel
theorem dX2_best_83 : decode cX2_best 83 = .ok (.goto (-63), 3) := by decide +kernel
theorem dX2_best_86 : decode cX2_best 86 = .ok (.iload_n 3, 1) := by decide +kernel
theorem dX2_best_87 : decode cX2_best 87 = .ok (.invokestatic 58, 3) := by decide +kernel
theorem dX2_best_90 : decode cX2_best 90 = .ok (.ireturn, 1) := by decide +kernel
theorem dX2_owner_0 : decode cX2_owner 0 = .ok (.aload_n 0, 1) := by decide +kernel
theorem dX2_owner_1 : decode cX2_owner 1 = .ok (.getfield 26, 3) := by decide +kernel
theorem dX2_owner_4 : decode cX2_owner 4 = .ok (.iload_n 1, 1) := by decide +kernel
theorem dX2_owner_5 : decode cX2_owner 5 = .ok (.invokestatic 38, 3) := by decide +kernel
theorem dX2_owner_8 : decode cX2_owner 8 = .ok (.iconst (-1), 1) := by decide +kernel
theorem dX2_owner_9 : decode cX2_owner 9 = .ok (.if_icmp .ne 82, 3) := by decide +kernel
theorem dX2_owner_12 : decode cX2_owner 12 = .ok (.iconst 0, 1) := by decide +kernel
theorem dX2_owner_13 : decode cX2_owner 13 = .ok (.istore_n 2, 1) := by decide +kernel
theorem dX2_owner_14 : decode cX2_owner 14 = .ok (.iload_n 2, 1) := by decide +kernel
theorem dX2_owner_15 : decode cX2_owner 15 = .ok (.aload_n 0, 1) := by decide +kernel
theorem dX2_owner_16 : decode cX2_owner 16 = .ok (.getfield 29, 3) := by decide +kernel
theorem dX2_owner_19 : decode cX2_owner 19 = .ok (.if_icmp .ge 37, 3) := by decide +kernel
theorem dX2_owner_22 : decode cX2_owner 22 = .ok (.aload_n 0, 1) := by decide +kernel
theorem dX2_owner_23 : decode cX2_owner 23 = .ok (.getfield 19, 3) := by decide +kernel
theorem dX2_owner_26 : decode cX2_owner 26 = .ok (.aload_n 0, 1) := by decide +kernel
theorem dX2_owner_27 : decode cX2_owner 27 = .ok (.getfield 23, 3) := by decide +kernel
theorem dX2_owner_30 : decode cX2_owner 30 = .ok (.iload_n 2, 1) := by decide +kernel
theorem dX2_owner_31 : decode cX2_owner 31 = .ok (.invokestatic 38, 3) := by decide +kernel
theorem dX2_owner_34 : decode cX2_owner 34 = .ok (.iload_n 1, 1) := by decide +kernel
theorem dX2_owner_35 : decode cX2_owner 35 = .ok (.iconst 1, 1) := by decide +kernel
theorem dX2_owner_36 : decode cX2_owner 36 = .ok (.iload_n 2, 1) := by decide +kernel
theorem dX2_owner_37 : decode cX2_owner 37 = .ok (.ishl, 1) := by decide +kernel
theorem dX2_owner_38 : decode cX2_owner 38 = .ok (.iand, 1) := by decide +kernel
theorem dX2_owner_39 : decode cX2_owner 39 = .ok (.ifCond .eq 7, 3) := by decide +kernel
theorem dX2_owner_42 : decode cX2_owner 42 = .ok (.iconst 0, 1) := by decide +kernel
theorem dX2_owner_43 : decode cX2_owner 43 = .ok (.goto 4, 3) := by decide +kernel
theorem dX2_owner_46 : decode cX2_owner 46 = .ok (.iconst 1, 1) := by decide +kernel
theorem dX2_owner_47 : decode cX2_owner 47 = .ok (.invokestatic 42, 3) := by decide +kernel
theorem dX2_owner_50 : decode cX2_owner 50 = .ok (.iinc 2 1, 3) := by decide +kernel
theorem dX2_owner_53 : decode cX2_owner 53 = .ok (.goto (-39), 3) := by decide +kernel
theorem dX2_owner_56 : decode cX2_owner 56 = .ok (.aload_n 0, 1) := by decide +kernel
theorem dX2_owner_57 : decode cX2_owner 57 = .ok (.getfield 15, 3) := by decide +kernel
theorem dX2_owner_60 : decode cX2_owner 60 = .ok (.aload_n 0, 1) := by decide +kernel
theorem dX2_owner_61 : decode cX2_owner 61 = .ok (.getfield 19, 3) := by decide +kernel
theorem dX2_owner_64 : decode cX2_owner 64 = .ok (.iconst 0, 1) := by decide +kernel
theorem dX2_owner_65 : decode cX2_owner 65 = .ok (.invokevirtual 65, 3) := by decide +kernel
theorem dX2_owner_68 : decode cX2_owner 68 = .ok (.aload_n 0, 1) := by decide +kernel
theorem dX2_owner_69 : decode cX2_owner 69 = .ok (.getfield 26, 3) := by decide +kernel
theorem dX2_owner_72 : decode cX2_owner 72 = .ok (.iload_n 1, 1) := by decide +kernel
theorem dX2_owner_73 : decode cX2_owner 73 = .ok (.aload_n 0, 1) := by decide +kernel
theorem dX2_owner_74 : decode cX2_owner 74 = .ok (.getfield 15, 3) := by decide +kernel
theorem dX2_owner_77 : decode cX2_owner 77 = .ok (.invokevirtual 71, 3) := by decide +kernel
theorem dX2_owner_80 : decode cX2_owner 80 = .ok (.ifCond .eq 7, 3) := by decide +kernel
theorem dX2_owner_83 : decode cX2_owner 83 = .ok (.iconst 0, 1) := by decide +kernel
theorem dX2_owner_84 : decode cX2_owner 84 = .ok (.goto 4, 3) := by decide +kernel
theorem dX2_owner_87 : decode cX2_owner 87 = .ok (.iconst 1, 1) := by decide +kernel
theorem dX2_owner_88 : decode cX2_owner 88 = .ok (.invokestatic 42, 3) := by decide +kernel
theorem dX2_owner_91 : decode cX2_owner 91 = .ok (.aload_n 0, 1) := by decide +kernel
theorem dX2_owner_92 : decode cX2_owner 92 = .ok (.getfield 26, 3) := by decide +kernel
theorem dX2_owner_95 : decode cX2_owner 95 = .ok (.iload_n 1, 1) := by decide +kernel
theorem dX2_owner_96 : decode cX2_owner 96 = .ok (.invokestatic 38, 3) := by decide +kernel
theorem dX2_owner_99 : decode cX2_owner 99 = .ok (.ireturn, 1) := by decide +kernel
theorem dX3_init_0 : decode cX3_init 0 = .ok (.aload_n 0, 1) := by decide +kernel
theorem dX3_init_1 : decode cX3_init 1 = .ok (.invokespecial 3, 3) := by decide +kernel
theorem dX3_init_4 : decode cX3_init 4 = .ok (.aload_n 0, 1) := by decide +kernel
theorem dX3_init_5 : decode cX3_init 5 = .ok (.aload_n 1, 1) := by decide +kernel
theorem dX3_init_6 : decode cX3_init 6 = .ok (.putfield 9, 3) := by decide +kernel
theorem dX3_init_9 : decode cX3_init 9 = .ok (.aload_n 0, 1) := by decide +kernel
theorem dX3_init_10 : decode cX3_init 10 = .ok (.aload_n 2, 1) := by decide +kernel
theorem dX3_init_11 : decode cX3_init 11 = .ok (.putfield 15, 3) := by decide +kernel
theorem dX3_init_14 : decode cX3_init 14 = .ok (.aload_n 0, 1) := by decide +kernel
theorem dX3_init_15 : decode cX3_init 15 = .ok (.bipush 81, 2) := by decide +kernel
theorem dX3_init_17 : decode cX3_init 17 = .ok (.newarray .int, 2) := by decide +kernel
theorem dX3_init_19 : decode cX3_init 19 = .ok (.putfield 19, 3) := by decide +kernel
theorem dX3_init_22 : decode cX3_init 22 = .ok (.return_, 1) := by decide +kernel
theorem dX3_begin_0 : decode cX3_begin 0 = .ok (.aload_n 0, 1) := by decide +kernel
theorem dX3_begin_1 : decode cX3_begin 1 = .ok (.iload_n 1, 1) := by decide +kernel
theorem dX3_begin_2 : decode cX3_begin 2 = .ok (.putfield 23, 3) := by decide +kernel
theorem dX3_begin_5 : decode cX3_begin 5 = .ok (.return_, 1) := by decide +kernel
theorem dX3_next_0 : decode cX3_next 0 = .ok (.iconst 0, 1) := by decide +kernel
theorem dX3_next_1 : decode cX3_next 1 = .ok (.istore_n 2, 1) := by decide +kernel
theorem dX3_next_2 : decode cX3_next 2 = .ok (.iload_n 2, 1) := by decide +kernel
theorem dX3_next_3 : decode cX3_next 3 = .ok (.aload_n 0, 1) := by decide +kernel
theorem dX3_next_4 : decode cX3_next 4 = .ok (.getfield 9, 3) := by decide +kernel
theorem dX3_next_7 : decode cX3_next 7 = .ok (.getfield 27, 3) := by decide +kernel
theorem dX3_next_10 : decode cX3_next 10 = .ok (.if_icmp .ge 36, 3) := by decide +kernel
theorem dX3_next_13 : decode cX3_next 13 = .ok (.aload_n 1, 1) := by decide +kernel
theorem dX3_next_14 : decode cX3_next 14 = .ok (.iload_n 2, 1) := by decide +kernel
theorem dX3_next_15 : decode cX3_next 15 = .ok (.invokestatic 32, 3) := by decide +kernel
theorem dX3_next_18 : decode cX3_next 18 = .ok (.istore_n 3, 1) := by decide +kernel
theorem dX3_next_19 : decode cX3_next 19 = .ok (.aload_n 0, 1) := by decide +kernel
theorem dX3_next_20 : decode cX3_next 20 = .ok (.getfield 19, 3) := by decide +kernel
theorem dX3_next_23 : decode cX3_next 23 = .ok (.iload_n 2, 1) := by decide +kernel
theorem dX3_next_24 : decode cX3_next 24 = .ok (.iload_n 3, 1) := by decide +kernel
theorem dX3_next_25 : decode cX3_next 25 = .ok (.iconst (-1), 1) := by decide +kernel
theorem dX3_next_26 : decode cX3_next 26 = .ok (.if_icmp .ne 10, 3) := by decide +kernel
theorem dX3_next_29 : decode cX3_next 29 = .ok (.aload_n 0, 1) := by decide +kernel
theorem dX3_next_30 : decode cX3_next 30 = .ok (.invokevirtual 36, 3) := by decide +kernel
theorem dX3_next_33 : decode cX3_next 33 = .ok (.goto 4, 3) := by decide +kernel
theorem dX3_next_36 : decode cX3_next 36 = .ok (.iload_n 3, 1) := by decide +kernel
theorem dX3_next_37 : decode cX3_next 37 = .ok (.invokestatic 40, 3) := by decide +kernel
theorem dX3_next_40 : decode cX3_next 40 = .ok (.iinc 2 1, 3) := by decide +kernel
theorem dX3_next_43 : decode cX3_next 43 = .ok (.goto (-41), 3) := by decide +kernel
theorem dX3_next_46 : decode cX3_next 46 = .ok (.aload_n 0, 1) := by decide +kernel
theorem dX3_next_47 : decode cX3_next 47 = .ok (.getfield 15, 3) := by decide +kernel
theorem dX3_next_50 : decode cX3_next 50 = .ok (.aload_n 0, 1) := by decide +kernel
theorem dX3_next_51 : decode cX3_next 51 = .ok (.getfield 19, 3) := by decide +kernel
theorem dX3_next_54 : decode cX3_next 54 = .ok (.iconst 0, 1) := by decide +kernel
theorem dX3_next_55 : decode cX3_next 55 = .ok (.invokevirtual 44, 3) := by decide +kernel
theorem dX3_next_58 : decode cX3_next 58 = .ok (.aload_n 0, 1) := by decide +kernel
theorem dX3_next_59 : decode cX3_next 59 = .ok (.getfield 15, 3) := by decide +kernel
theorem dX3_next_62 : decode cX3_next 62 = .ok (.invokevirtual 50, 3) := by decide +kernel
theorem dX3_next_65 : decode cX3_next 65 = .ok (.ifCond .eq 7, 3) := by decide +kernel
theorem dX3_next_68 : decode cX3_next 68 = .ok (.iconst 0, 1) := by decide +kernel
theorem dX3_next_69 : decode cX3_next 69 = .ok (.goto 4, 3) := by decide +kernel
theorem dX3_next_72 : decode cX3_next 72 = .ok (.iconst 1, 1) := by decide +kernel
theorem dX3_next_73 : decode cX3_next 73 = .ok (.ireturn, 1) := by decide +kernel
theorem dX3_nextStone_0 : decode cX3_nextStone 0 = .ok (.aload_n 0, 1) := by decide +kernel
theorem dX3_nextStone_1 : decode cX3_nextStone 1 = .ok (.ldc 54, 2) := by decide +kernel
theorem dX3_nextStone_3 : decode cX3_nextStone 3 = .ok (.aload_n 0, 1) := by decide +kernel
theorem dX3_nextStone_4 : decode cX3_nextStone 4 = .ok (.getfield 23, 3) := by decide +kernel
theorem dX3_nextStone_7 : decode cX3_nextStone 7 = .ok (.imul, 1) := by decide +kernel
theorem dX3_nextStone_8 : decode cX3_nextStone 8 = .ok (.sipush 12345, 3) := by decide +kernel
theorem dX3_nextStone_11 : decode cX3_nextStone 11 = .ok (.iadd, 1) := by decide +kernel
theorem dX3_nextStone_12 : decode cX3_nextStone 12 = .ok (.ldc 55, 2) := by decide +kernel
theorem dX3_nextStone_14 : decode cX3_nextStone 14 = .ok (.iand, 1) := by decide +kernel
theorem dX3_nextStone_15 : decode cX3_nextStone 15 = .ok (.putfield 23, 3) := by decide +kernel
theorem dX3_nextStone_18 : decode cX3_nextStone 18 = .ok (.aload_n 0, 1) := by decide +kernel
theorem dX3_nextStone_19 : decode cX3_nextStone 19 = .ok (.getfield 23, 3) := by decide +kernel
theorem dX3_nextStone_22 : decode cX3_nextStone 22 = .ok (.ldc 56, 2) := by decide +kernel
theorem dX3_nextStone_24 : decode cX3_nextStone 24 = .ok (.idiv, 1) := by decide +kernel
theorem dX3_nextStone_25 : decode cX3_nextStone 25 = .ok (.iconst 2, 1) := by decide +kernel
theorem dX3_nextStone_26 : decode cX3_nextStone 26 = .ok (.irem, 1) := by decide +kernel
theorem dX3_nextStone_27 : decode cX3_nextStone 27 = .ok (.ifCond .ne 7, 3) := by decide +kernel
theorem dX3_nextStone_30 : decode cX3_nextStone 30 = .ok (.iconst 0, 1) := by decide +kernel
theorem dX3_nextStone_31 : decode cX3_nextStone 31 = .ok (.goto 4, 3) := by decide +kernel
theorem dX3_nextStone_34 : decode cX3_nextStone 34 = .ok (.iconst 1, 1) := by decide +kernel
theorem dX3_nextStone_35 : decode cX3_nextStone 35 = .ok (.ireturn, 1) := by decide +kernel
theorem dX3_countIdle_0 : decode cX3_countIdle 0 = .ok (.iload_n 2, 1) := by decide +kernel
theorem dX3_countIdle_1 : decode cX3_countIdle 1 = .ok (.invokestatic 57, 3) := by decide +kernel
theorem dX3_countIdle_4 : decode cX3_countIdle 4 = .ok (.istore_n 3, 1) := by decide +kernel
theorem dX3_countIdle_5 : decode cX3_countIdle 5 = .ok (.aload_n 0, 1) := by decide +kernel
theorem dX3_countIdle_6 : decode cX3_countIdle 6 = .ok (.getfield 15, 3) := by decide +kernel
theorem dX3_countIdle_9 : decode cX3_countIdle 9 = .ok (.aload_n 0, 1) := by decide +kernel
theorem dX3_countIdle_10 : decode cX3_countIdle 10 = .ok (.getfield 19, 3) := by decide +kernel
theorem dX3_countIdle_13 : decode cX3_countIdle 13 = .ok (.iload_n 3, 1) := by decide +kernel
theorem dX3_countIdle_14 : decode cX3_countIdle 14 = .ok (.invokevirtual 44, 3) := by decide +kernel
theorem dX3_countIdle_17 : decode cX3_countIdle 17 = .ok (.iconst 0, 1) := by decide +kernel
theorem dX3_countIdle_18 : decode cX3_countIdle 18 = .ok (.istore 4, 2) := by decide +kernel
theorem dX3_countIdle_20 : decode cX3_countIdle 20 = .ok (.iconst 0, 1) := by decide +kernel
theorem dX3_countIdle_21 : decode cX3_countIdle 21 = .ok (.istore 5, 2) := by decide +kernel
theorem dX3_countIdle_23 : decode cX3_countIdle 23 = .ok (.iload 5, 2) := by decide +kernel
theorem dX3_countIdle_25 : decode cX3_countIdle 25 = .ok (.aload_n 0, 1) := by decide +kernel
theorem dX3_countIdle_26 : decode cX3_countIdle 26 = .ok (.getfield 9, 3) := by decide +kernel
theorem dX3_countIdle_29 : decode cX3_countIdle 29 = .ok (.getfield 27, 3) := by decide +kernel
theorem dX3_countIdle_32 : decode cX3_countIdle 32 = .ok (.if_icmp .ge 59, 3) := by decide +kernel
theorem dX3_countIdle_35 : decode cX3_countIdle 35 = .ok (.aload_n 0, 1) := by decide +kernel
theorem dX3_countIdle_36 : decode cX3_countIdle 36 = .ok (.getfield 19, 3) := by decide +kernel
theorem dX3_countIdle_39 : decode cX3_countIdle 39 = .ok (.iload 5, 2) := by decide +kernel
theorem dX3_countIdle_41 : decode cX3_countIdle 41 = .ok (.invokestatic 32, 3) := by decide +kernel
theorem dX3_countIdle_44 : decode cX3_countIdle 44 = .ok (.iload_n 2, 1) := by decide +kernel
theorem dX3_countIdle_45 : decode cX3_countIdle 45 = .ok (.if_icmp .ne 19, 3) := by decide +kernel
theorem dX3_countIdle_48 : decode cX3_countIdle 48 = .ok (.aload_n 0, 1) := by decide +kernel
theorem dX3_countIdle_49 : decode cX3_countIdle 49 = .ok (.getfield 15, 3) := by decide +kernel
theorem dX3_countIdle_52 : decode cX3_countIdle 52 = .ok (.iload 5, 2) := by decide +kernel
theorem dX3_countIdle_54 : decode cX3_countIdle 54 = .ok (.invokevirtual 61, 3) := by decide +kernel
theorem dX3_countIdle_57 : decode cX3_countIdle 57 = .ok (.ifCond .eq 7, 3) := by decide +kernel
theorem dX3_countIdle_60 : decode cX3_countIdle 60 = .ok (.iconst 1, 1) := by decide +kernel
theorem dX3_countIdle_61 : decode cX3_countIdle 61 = .ok (.goto 4, 3) := by decide +kernel
theorem dX3_countIdle_64 : decode cX3_countIdle 64 = .ok (.iconst 0, 1) := by decide +kernel
theorem dX3_countIdle_65 : decode cX3_countIdle 65 = .ok (.istore 6, 2) := by decide +kernel
theorem dX3_countIdle_67 : decode cX3_countIdle 67 = .ok (.aload_n 1, 1) := by decide +kernel
theorem dX3_countIdle_68 : decode cX3_countIdle 68 = .ok (.iload 5, 2) := by decide +kernel
theorem dX3_countIdle_70 : decode cX3_countIdle 70 = .ok (.invokestatic 32, 3) := by decide +kernel
theorem dX3_countIdle_73 : decode cX3_countIdle 73 = .ok (.iconst (-1), 1) := by decide +kernel
theorem dX3_countIdle_74 : decode cX3_countIdle 74 = .ok (.if_icmp .ne 11, 3) := by decide +kernel
theorem dX3_countIdle_77 : decode cX3_countIdle 77 = .ok (.iload 6, 2) := by decide +kernel
theorem dX3_countIdle_79 : decode cX3_countIdle 79 = .ok (.ifCond .ne 6, 3) := by decide +kernel
theorem dX3_countIdle_82 : decode cX3_countIdle 82 = .ok (.iinc 4 1, 3) := by decide +kernel
theorem dX3_countIdle_85 : decode cX3_countIdle 85 = .ok (.iinc 5 1, 3) := by decide +kernel
theorem dX3_countIdle_88 : decode cX3_countIdle 88 = .ok (.goto (-65), 3) := by decide +kernel
theorem dX3_countIdle_91 : decode cX3_countIdle 91 = .ok (.iload 4, 2) := by decide +kernel
theorem dX3_countIdle_93 : decode cX3_countIdle 93 = .ok (.ireturn, 1) := by decide +kernel
theorem dX4_init_0 : decode cX4_init 0 = .ok (.aload_n 0, 1) := by decide +kernel
theorem dX4_init_1 : decode cX4_init 1 = .ok (.invokespecial 3, 3) := by decide +kernel
theorem dX4_init_4 : decode cX4_init 4 = .ok (.aload_n 0, 1) := by decide +kernel
theorem dX4_init_5 : decode cX4_init 5 = .ok (.aload_n 1, 1) := by decide +kernel
theorem dX4_init_6 : decode cX4_init 6 = .ok (.putfield 9, 3) := by decide +kernel
theorem dX4_init_9 : decode cX4_init 9 = .ok (.aload_n 0, 1) := by decide +kernel
theorem dX4_init_10 : decode cX4_init 10 = .ok (.bipush 81, 2) := by decide +kernel
theorem dX4_init_12 : decode cX4_init 12 = .ok (.newarray .int, 2) := by decide +kernel
theorem dX4_init_14 : decode cX4_init 14 = .ok (.putfield 15, 3) := by decide +kernel
theorem dX4_init_17 : decode cX4_init 17 = .ok (.aload_n 0, 1) := by decide +kernel
theorem dX4_init_18 : decode cX4_init 18 = .ok (.bipush 81, 2) := by decide +kernel
theorem dX4_init_20 : decode cX4_init 20 = .ok (.newarray .int, 2) := by decide +kernel
theorem dX4_init_22 : decode cX4_init 22 = .ok (.putfield 19, 3) := by decide +kernel
theorem dX4_init_25 : decode cX4_init 25 = .ok (.return_, 1) := by decide +kernel
theorem dX4_run_0 : decode cX4_run 0 = .ok (.aload_n 0, 1) := by decide +kernel
theorem dX4_run_1 : decode cX4_run 1 = .ok (.iload_n 2, 1) := by decide +kernel
theorem dX4_run_2 : decode cX4_run 2 = .ok (.putfield 22, 3) := by decide +kernel
theorem dX4_run_5 : decode cX4_run 5 = .ok (.iconst 0, 1) := by decide +kernel
theorem dX4_run_6 : decode cX4_run 6 = .ok (.istore 4, 2) := by decide +kernel
theorem dX4_run_8 : decode cX4_run 8 = .ok (.iload 4, 2) := by decide +kernel
theorem dX4_run_10 : decode cX4_run 10 = .ok (.aload_n 0, 1) := by decide +kernel
theorem dX4_run_11 : decode cX4_run 11 = .ok (.getfield 9, 3) := by decide +kernel
theorem dX4_run_14 : decode cX4_run 14 = .ok (.getfield 26, 3) := by decide +kernel
theorem dX4_run_17 : decode cX4_run 17 = .ok (.if_icmp .ge 74, 3) := by decide +kernel
theorem dX4_run_20 : decode cX4_run 20 = .ok (.aload_n 1, 1) := by decide +kernel
theorem dX4_run_21 : decode cX4_run 21 = .ok (.iload 4, 2) := by decide +kernel
theorem dX4_run_23 : decode cX4_run 23 = .ok (.invokestatic 31, 3) := by decide +kernel
theorem dX4_run_26 : decode cX4_run 26 = .ok (.istore 5, 2) := by decide +kernel
theorem dX4_run_28 : decode cX4_run 28 = .ok (.iload 5, 2) := by decide +kernel
theorem dX4_run_30 : decode cX4_run 30 = .ok (.iconst (-1), 1) := by decide +kernel
theorem dX4_run_31 : decode cX4_run 31 = .ok (.if_icmp .ne 7, 3) := by decide +kernel
theorem dX4_run_34 : decode cX4_run 34 = .ok (.iconst 1, 1) := by decide +kernel
theorem dX4_run_35 : decode cX4_run 35 = .ok (.goto 17, 3) := by decide +kernel
theorem dX4_run_38 : decode cX4_run 38 = .ok (.iload 5, 2) := by decide +kernel
theorem dX4_run_40 : decode cX4_run 40 = .ok (.aload_n 0, 1) := by decide +kernel
theorem dX4_run_41 : decode cX4_run 41 = .ok (.getfield 22, 3) := by decide +kernel
theorem dX4_run_44 : decode cX4_run 44 = .ok (.if_icmp .ne 7, 3) := by decide +kernel
theorem dX4_run_47 : decode cX4_run 47 = .ok (.iconst 3, 1) := by decide +kernel
theorem dX4_run_48 : decode cX4_run 48 = .ok (.goto 4, 3) := by decide +kernel
theorem dX4_run_51 : decode cX4_run 51 = .ok (.iconst 0, 1) := by decide +kernel
theorem dX4_run_52 : decode cX4_run 52 = .ok (.istore 6, 2) := by decide +kernel
theorem dX4_run_54 : decode cX4_run 54 = .ok (.aload_n 0, 1) := by decide +kernel
theorem dX4_run_55 : decode cX4_run 55 = .ok (.getfield 15, 3) := by decide +kernel
theorem dX4_run_58 : decode cX4_run 58 = .ok (.iload 4, 2) := by decide +kernel
theorem dX4_run_60 : decode cX4_run 60 = .ok (.iload 6, 2) := by decide +kernel
theorem dX4_run_62 : decode cX4_run 62 = .ok (.invokestatic 35, 3) := by decide +kernel
theorem dX4_run_65 : decode cX4_run 65 = .ok (.aload_n 0, 1) := by decide +kernel
theorem dX4_run_66 : decode cX4_run 66 = .ok (.getfield 19, 3) := by decide +kernel
theorem dX4_run_69 : decode cX4_run 69 = .ok (.iload 4, 2) := by decide +kernel
theorem dX4_run_71 : decode cX4_run 71 = .ok (.iload 6, 2) := by decide +kernel
theorem dX4_run_73 : decode cX4_run 73 = .ok (.ifCond .ne 7, 3) := by decide +kernel
theorem dX4_run_76 : decode cX4_run 76 = .ok (.iconst (-1), 1) := by decide +kernel
theorem dX4_run_77 : decode cX4_run 77 = .ok (.goto 5, 3) := by decide +kernel
theorem dX4_run_80 : decode cX4_run 80 = .ok (.ldc 39, 2) := by decide +kernel
theorem dX4_run_82 : decode cX4_run 82 = .ok (.invokestatic 35, 3) := by decide +kernel
theorem dX4_run_85 : decode cX4_run 85 = .ok (.iinc 4 1, 3) := by decide +kernel
theorem dX4_run_88 : decode cX4_run 88 = .ok (.goto (-80), 3) := by decide +kernel
theorem dX4_run_91 : decode cX4_run 91 = .ok (.iconst 1, 1) := by decide +kernel
theorem dX4_run_92 : decode cX4_run 92 = .ok (.istore 4, 2) := by decide +kernel
theorem dX4_run_94 : decode cX4_run 94 = .ok (.iconst 0, 1) := by decide +kernel
theorem dX4_run_95 : decode cX4_run 95 = .ok (.istore 5, 2) := by decide +kernel
theorem dX4_run_97 : decode cX4_run 97 = .ok (.iload 5, 2) := by decide +kernel
theorem dX4_run_99 : decode cX4_run 99 = .ok (.iload_n 3, 1) := by decide +kernel
theorem dX4_run_100 : decode cX4_run 100 = .ok (.if_icmp .ge 20, 3) := by decide +kernel
theorem dX4_run_103 : decode cX4_run 103 = .ok (.iload 4, 2) := by decide +kernel
theorem dX4_run_105 : decode cX4_run 105 = .ok (.ifCond .eq 15, 3) := by decide +kernel
theorem dX4_run_108 : decode cX4_run 108 = .ok (.aload_n 0, 1) := by decide +kernel
theorem dX4_run_109 : decode cX4_run 109 = .ok (.invokevirtual 40, 3) := by decide +kernel
theorem dX4_run_112 : decode cX4_run 112 = .ok (.istore 4, 2) := by decide +kernel
theorem dX4_run_114 : decode cX4_run 114 = .ok (.iinc 5 1, 3) := by decide +kernel
theorem dX4_run_117 : decode cX4_run 117 = .ok (.goto (-20), 3) := by decide +kernel
theorem dX4_run_120 : decode cX4_run 120 = .ok (.aload_n 0, 1) := by decide +kernel
theorem dX4_run_121 : decode cX4_run 121 = .ok (.invokevirtual 44, 3) := by decide +kernel
theorem dX4_run_124 : decode cX4_run 124 = .ok (.ireturn, 1) := by decide +kernel
theorem dX4_sweep_0 : decode cX4_sweep 0 = .ok (.iconst 0, 1) := by decide +kernel
theorem dX4_sweep_1 : decode cX4_sweep 1 = .ok (.istore_n 1, 1) := by decide +kernel
theorem dX4_sweep_2 : decode cX4_sweep 2 = .ok (.iconst 0, 1) := by decide +kernel
theorem dX4_sweep_3 : decode cX4_sweep 3 = .ok (.istore_n 2, 1) := by decide +kernel
theorem dX4_sweep_4 : decode cX4_sweep 4 = .ok (.iload_n 2, 1) := by decide +kernel
theorem dX4_sweep_5 : decode cX4_sweep 5 = .ok (.aload_n 0, 1) := by decide +kernel
theorem dX4_sweep_6 : decode cX4_sweep 6 = .ok (.getfield 9, 3) := by decide +kernel
theorem dX4_sweep_9 : decode cX4_sweep 9 = .ok (.getfield 26, 3) := by decide +kernel
theorem dX4_sweep_12 : decode cX4_sweep 12 = .ok (.if_icmp .ge 55, 3) := by decide +kernel
theorem dX4_sweep_15 : decode cX4_sweep 15 = .ok (.aload_n 0, 1) := by decide +kernel
theorem dX4_sweep_16 : decode cX4_sweep 16 = .ok (.getfield 15, 3) := by decide +kernel
theorem dX4_sweep_19 : decode cX4_sweep 19 = .ok (.iload_n 2, 1) := by decide +kernel
theorem dX4_sweep_20 : decode cX4_sweep 20 = .ok (.invokestatic 31, 3) := by decide +kernel
theorem dX4_sweep_23 : decode cX4_sweep 23 = .ok (.ifCond .le 38, 3) := by decide +kernel
theorem dX4_sweep_26 : decode cX4_sweep 26 = .ok (.aload_n 0, 1) := by decide +kernel
theorem dX4_sweep_27 : decode cX4_sweep 27 = .ok (.iload_n 2, 1) := by decide +kernel
theorem dX4_sweep_28 : decode cX4_sweep 28 = .ok (.invokevirtual 48, 3) := by decide +kernel
theorem dX4_sweep_31 : decode cX4_sweep 31 = .ok (.istore_n 3, 1) := by decide +kernel
theorem dX4_sweep_32 : decode cX4_sweep 32 = .ok (.iload_n 1, 1) := by decide +kernel
theorem dX4_sweep_33 : decode cX4_sweep 33 = .ok (.iload_n 3, 1) := by decide +kernel
theorem dX4_sweep_34 : decode cX4_sweep 34 = .ok (.aload_n 0, 1) := by decide +kernel
theorem dX4_sweep_35 : decode cX4_sweep 35 = .ok (.getfield 19, 3) := by decide +kernel
theorem dX4_sweep_38 : decode cX4_sweep 38 = .ok (.iload_n 2, 1) := by decide +kernel
theorem dX4_sweep_39 : decode cX4_sweep 39 = .ok (.invokestatic 31, 3) := by decide +kernel
theorem dX4_sweep_42 : decode cX4_sweep 42 = .ok (.if_icmp .eq 7, 3) := by decide +kernel
theorem dX4_sweep_45 : decode cX4_sweep 45 = .ok (.iconst 1, 1) := by decide +kernel
theorem dX4_sweep_46 : decode cX4_sweep 46 = .ok (.goto 4, 3) := by decide +kernel
theorem dX4_sweep_49 : decode cX4_sweep 49 = .ok (.iconst 0, 1) := by decide +kernel
theorem dX4_sweep_50 : decode cX4_sweep 50 = .ok (.ior, 1) := by decide +kernel
theorem dX4_sweep_51 : decode cX4_sweep 51 = .ok (.istore_n 1, 1) := by decide +kernel
theorem dX4_sweep_52 : decode cX4_sweep 52 = .ok (.aload_n 0, 1) := by decide +kernel
theorem dX4_sweep_53 : decode cX4_sweep 53 = .ok (.getfield 19, 3) := by decide +kernel
theorem dX4_sweep_56 : decode cX4_sweep 56 = .ok (.iload_n 2, 1) := by decide +kernel
theorem dX4_sweep_57 : decode cX4_sweep 57 = .ok (.iload_n 3, 1) := by decide +kernel
theorem dX4_sweep_58 : decode cX4_sweep 58 = .ok (.invokestatic 35, 3) := by decide +kernel
theorem dX4_sweep_61 : decode cX4_sweep 61 = .ok (.iinc 2 1, 3) := by decide +kernel
theorem dX4_sweep_64 : decode cX4_sweep 64 = .ok (.goto (-60), 3) := by decide +kernel
theorem dX4_sweep_67 : decode cX4_sweep 67 = .ok (.iload_n 1, 1) := by decide +kernel
theorem dX4_sweep_68 : decode cX4_sweep 68 = .ok (.ireturn, 1) := by decide +kernel
theorem dX4_nextLevel_0 : decode cX4_nextLevel 0 = .ok (.aload_n 0, 1) := by decide +kernel
theorem dX4_nextLevel_1 : decode cX4_nextLevel 1 = .ok (.getfield 9, 3) := by decide +kernel
theorem dX4_nextLevel_4 : decode cX4_nextLevel 4 = .ok (.iload_n 1, 1) := by decide +kernel
theorem dX4_nextLevel_5 : decode cX4_nextLevel 5 = .ok (.aload_n 0, 1) := by decide +kernel
theorem dX4_nextLevel_6 : decode cX4_nextLevel 6 = .ok (.getfield 22, 3) := by decide +kernel
theorem dX4_nextLevel_9 : decode cX4_nextLevel 9 = .ok (.invokevirtual 52, 3) := by decide +kernel
theorem dX4_nextLevel_12 : decode cX4_nextLevel 12 = .ok (.istore_n 2, 1) := by decide +kernel
theorem dX4_nextLevel_13 : decode cX4_nextLevel 13 = .ok (.iload_n 2, 1) := by decide +kernel
theorem dX4_nextLevel_14 : decode cX4_nextLevel 14 = .ok (.ifCond .ne 7, 3) := by decide +kernel
theorem dX4_nextLevel_17 : decode cX4_nextLevel 17 = .ok (.iconst 0, 1) := by decide +kernel
theorem dX4_nextLevel_18 : decode cX4_nextLevel 18 = .ok (.goto 4, 3) := by decide +kernel
theorem dX4_nextLevel_21 : decode cX4_nextLevel 21 = .ok (.iconst 1, 1) := by decide +kernel
theorem dX4_nextLevel_22 : decode cX4_nextLevel 22 = .ok (.istore_n 3, 1) := by decide +kernel
theorem dX4_nextLevel_23 : decode cX4_nextLevel 23 = .ok (.iload_n 2, 1) := by decide +kernel
theorem dX4_nextLevel_24 : decode cX4_nextLevel 24 = .ok (.iconst 2, 1) := by decide +kernel
theorem dX4_nextLevel_25 : decode cX4_nextLevel 25 = .ok (.if_icmp .ne 8, 3) := by decide +kernel
theorem dX4_nextLevel_28 : decode cX4_nextLevel 28 = .ok (.ldc 56, 2) := by decide +kernel
theorem dX4_nextLevel_30 : decode cX4_nextLevel 30 = .ok (.goto 4, 3) := by decide +kernel
theorem dX4_nextLevel_33 : decode cX4_nextLevel 33 = .ok (.iconst 0, 1) := by decide +kernel
theorem dX4_nextLevel_34 : decode cX4_nextLevel 34 = .ok (.istore 4, 2) := by decide +kernel
theorem dX4_nextLevel_36 : decode cX4_nextLevel 36 = .ok (.iconst 0, 1) := by decide +kernel
theorem dX4_nextLevel_37 : decode cX4_nextLevel 37 = .ok (.istore 5, 2) := by decide +kernel
theorem dX4_nextLevel_39 : decode cX4_nextLevel 39 = .ok (.iload 5, 2) := by decide +kernel
theorem dX4_nextLevel_41 : decode cX4_nextLevel 41 = .ok (.bipush 6, 2) := by decide +kernel
theorem dX4_nextLevel_43 : decode cX4_nextLevel 43 = .ok (.if_icmp .ge 75, 3) := by decide +kernel
theorem dX4_nextLevel_46 : decode cX4_nextLevel 46 = .ok (.aload_n 0, 1) := by decide +kernel
theorem dX4_nextLevel_47 : decode cX4_nextLevel 47 = .ok (.getfield 9, 3) := by decide +kernel
theorem dX4_nextLevel_50 : decode cX4_nextLevel 50 = .ok (.iload_n 1, 1) := by decide +kernel
theorem dX4_nextLevel_51 : decode cX4_nextLevel 51 = .ok (.iload 5, 2) := by decide +kernel
theorem dX4_nextLevel_53 : decode cX4_nextLevel 53 = .ok (.invokevirtual 57, 3) := by decide +kernel
theorem dX4_nextLevel_56 : decode cX4_nextLevel 56 = .ok (.istore 6, 2) := by decide +kernel
theorem dX4_nextLevel_58 : decode cX4_nextLevel 58 = .ok (.iload 6, 2) := by decide +kernel
theorem dX4_nextLevel_60 : decode cX4_nextLevel 60 = .ok (.iconst (-1), 1) := by decide +kernel
theorem dX4_nextLevel_61 : decode cX4_nextLevel 61 = .ok (.if_icmp .eq 51, 3) := by decide +kernel
theorem dX4_nextLevel_64 : decode cX4_nextLevel 64 = .ok (.aload_n 0, 1) := by decide +kernel
theorem dX4_nextLevel_65 : decode cX4_nextLevel 65 = .ok (.getfield 15, 3) := by decide +kernel
theorem dX4_nextLevel_68 : decode cX4_nextLevel 68 = .ok (.iload 6, 2) := by decide +kernel
theorem dX4_nextLevel_70 : decode cX4_nextLevel 70 = .ok (.invokestatic 31, 3) := by decide +kernel
theorem dX4_nextLevel_73 : decode cX4_nextLevel 73 = .ok (.ifCond .le 39, 3) := by decide +kernel
theorem dX4_nextLevel_76 : decode cX4_nextLevel 76 = .ok (.iload_n 3, 1) := by decide +kernel
theorem dX4_nextLevel_77 : decode cX4_nextLevel 77 = .ok (.aload_n 0, 1) := by decide +kernel
theorem dX4_nextLevel_78 : decode cX4_nextLevel 78 = .ok (.getfield 15, 3) := by decide +kernel
theorem dX4_nextLevel_81 : decode cX4_nextLevel 81 = .ok (.iload 6, 2) := by decide +kernel
theorem dX4_nextLevel_83 : decode cX4_nextLevel 83 = .ok (.invokestatic 31, 3) := by decide +kernel
theorem dX4_nextLevel_86 : decode cX4_nextLevel 86 = .ok (.iadd, 1) := by decide +kernel
theorem dX4_nextLevel_87 : decode cX4_nextLevel 87 = .ok (.istore_n 3, 1) := by decide +kernel
theorem dX4_nextLevel_88 : decode cX4_nextLevel 88 = .ok (.iload 4, 2) := by decide +kernel
theorem dX4_nextLevel_90 : decode cX4_nextLevel 90 = .ok (.aload_n 0, 1) := by decide +kernel
theorem dX4_nextLevel_91 : decode cX4_nextLevel 91 = .ok (.getfield 15, 3) := by decide +kernel
theorem dX4_nextLevel_94 : decode cX4_nextLevel 94 = .ok (.iload 6, 2) := by decide +kernel
theorem dX4_nextLevel_96 : decode cX4_nextLevel 96 = .ok (.invokestatic 31, 3) := by decide +kernel
theorem dX4_nextLevel_99 : decode cX4_nextLevel 99 = .ok (.aload_n 0, 1) := by decide +kernel
theorem dX4_nextLevel_100 : decode cX4_nextLevel 100 = .ok (.getfield 19, 3) := by decide +kernel
theorem dX4_nextLevel_103 : decode cX4_nextLevel 103 = .ok (.iload 6, 2) := by decide +kernel
theorem dX4_nextLevel_105 : decode cX4_nextLevel 105 = .ok (.invokestatic 31, 3) := by decide +kernel
theorem dX4_nextLevel_108 : decode cX4_nextLevel 108 = .ok (.imul, 1) := by decide +kernel
theorem dX4_nextLevel_109 : decode cX4_nextLevel 109 = .ok (.iadd, 1) := by decide +kernel
theorem dX4_nextLevel_110 : decode cX4_nextLevel 110 = .ok (.istore 4, 2) := by decide +kernel
theorem dX4_nextLevel_112 : decode cX4_nextLevel 112 = .ok (.iinc 5 1, 3) := by decide +kernel
theorem dX4_nextLevel_115 : decode cX4_nextLevel 115 = .ok (.goto (-76), 3) := by decide +kernel
theorem dX4_nextLevel_118 : decode cX4_nextLevel 118 = .ok (.iload_n 3, 1) := by decide +kernel
theorem dX4_nextLevel_119 : decode cX4_nextLevel 119 = .ok (.ifCond .ne 14, 3) := by decide +kernel
theorem dX4_nextLevel_122 : decode cX4_nextLevel 122 = .ok (.aload_n 0, 1) := by decide +kernel
theorem dX4_nextLevel_123 : decode cX4_nextLevel 123 = .ok (.getfield 19, 3) := by decide +kernel
theorem dX4_nextLevel_126 : decode cX4_nextLevel 126 = .ok (.iload_n 1, 1) := by decide +kernel
theorem dX4_nextLevel_127 : decode cX4_nextLevel 127 = .ok (.invokestatic 31, 3) := by decide +kernel
theorem dX4_nextLevel_130 : decode cX4_nextLevel 130 = .ok (.goto 7, 3) := by decide +kernel
theorem dX4_nextLevel_133 : decode cX4_nextLevel 133 = .ok (.iload 4, 2) := by decide +kernel
theorem dX4_nextLevel_135 : decode cX4_nextLevel 135 = .ok (.iload_n 3, 1) := by decide +kernel
theorem dX4_nextLevel_136 : decode cX4_nextLevel 136 = .ok (.idiv, 1) := by decide +kernel
theorem dX4_nextLevel_137 : decode cX4_nextLevel 137 = .ok (.ireturn, 1) := by decide +kernel
theorem dX4_amount_0 : decode cX4_amount 0 = .ok (.iconst 0, 1) := by decide +kernel
theorem dX4_amount_1 : decode cX4_amount 1 = .ok (.istore_n 1, 1) := by decide +kernel
theorem dX4_amount_2 : decode cX4_amount 2 = .ok (.iconst 0, 1) := by decide +kernel
theorem dX4_amount_3 : decode cX4_amount 3 = .ok (.istore_n 2, 1) := by decide +kernel
theorem dX4_amount_4 : decode cX4_amount 4 = .ok (.iload_n 2, 1) := by decide +kernel
theorem dX4_amount_5 : decode cX4_amount 5 = .ok (.aload_n 0, 1) := by decide +kernel
theorem dX4_amount_6 : decode cX4_amount 6 = .ok (.getfield 9, 3) := by decide +kernel
theorem dX4_amount_9 : decode cX4_amount 9 = .ok (.getfield 26, 3) := by decide +kernel
theorem dX4_amount_12 : decode cX4_amount 12 = .ok (.if_icmp .ge 56, 3) := by decide +kernel
theorem dX4_amount_15 : decode cX4_amount 15 = .ok (.aload_n 0, 1) := by decide +kernel
theorem dX4_amount_16 : decode cX4_amount 16 = .ok (.getfield 9, 3) := by decide +kernel
theorem dX4_amount_19 : decode cX4_amount 19 = .ok (.iload_n 2, 1) := by decide +kernel
theorem dX4_amount_20 : decode cX4_amount 20 = .ok (.aload_n 0, 1) := by decide +kernel
theorem dX4_amount_21 : decode cX4_amount 21 = .ok (.getfield 22, 3) := by decide +kernel
theorem dX4_amount_24 : decode cX4_amount 24 = .ok (.invokevirtual 52, 3) := by decide +kernel
theorem dX4_amount_27 : decode cX4_amount 27 = .ok (.iconst 1, 1) := by decide +kernel
theorem dX4_amount_28 : decode cX4_amount 28 = .ok (.if_icmp .ne 34, 3) := by decide +kernel
theorem dX4_amount_31 : decode cX4_amount 31 = .ok (.aload_n 0, 1) := by decide +kernel
theorem dX4_amount_32 : decode cX4_amount 32 = .ok (.getfield 15, 3) := by decide +kernel
theorem dX4_amount_35 : decode cX4_amount 35 = .ok (.iload_n 2, 1) := by decide +kernel
theorem dX4_amount_36 : decode cX4_amount 36 = .ok (.invokestatic 31, 3) := by decide +kernel
theorem dX4_amount_39 : decode cX4_amount 39 = .ok (.ifCond .le 23, 3) := by decide +kernel
theorem dX4_amount_42 : decode cX4_amount 42 = .ok (.iload_n 1, 1) := by decide +kernel
theorem dX4_amount_43 : decode cX4_amount 43 = .ok (.aload_n 0, 1) := by decide +kernel
theorem dX4_amount_44 : decode cX4_amount 44 = .ok (.getfield 15, 3) := by decide +kernel
theorem dX4_amount_47 : decode cX4_amount 47 = .ok (.iload_n 2, 1) := by decide +kernel
theorem dX4_amount_48 : decode cX4_amount 48 = .ok (.invokestatic 31, 3) := by decide +kernel
theorem dX4_amount_51 : decode cX4_amount 51 = .ok (.aload_n 0, 1) := by decide +kernel
theorem dX4_amount_52 : decode cX4_amount 52 = .ok (.getfield 19, 3) := by decide +kernel
theorem dX4_amount_55 : decode cX4_amount 55 = .ok (.iload_n 2, 1) := by decide +kernel
theorem dX4_amount_56 : decode cX4_amount 56 = .ok (.invokestatic 31, 3) := by decide +kernel
theorem dX4_amount_59 : decode cX4_amount 59 = .ok (.imul, 1) := by decide +kernel
theorem dX4_amount_60 : decode cX4_amount 60 = .ok (.iadd, 1) := by decide +kernel
theorem dX4_amount_61 : decode cX4_amount 61 = .ok (.istore_n 1, 1) := by decide +kernel
theorem dX4_amount_62 : decode cX4_amount 62 = .ok (.iinc 2 1, 3) := by decide +kernel
theorem dX4_amount_65 : decode cX4_amount 65 = .ok (.goto (-61), 3) := by decide +kernel
theorem dX4_amount_68 : decode cX4_amount 68 = .ok (.iload_n 1, 1) := by decide +kernel
theorem dX4_amount_69 : decode cX4_amount 69 = .ok (.ireturn, 1) := by decide +kernel
theorem dX4_level_0 : decode cX4_level 0 = .ok (.aload_n 0, 1) := by decide +kernel
theorem dX4_level_1 : decode cX4_level 1 = .ok (.getfield 19, 3) := by decide +kernel
theorem dX4_level_4 : decode cX4_level 4 = .ok (.iload_n 1, 1) := by decide +kernel
theorem dX4_level_5 : decode cX4_level 5 = .ok (.invokestatic 31, 3) := by decide +kernel
theorem dX4_level_8 : decode cX4_level 8 = .ok (.ireturn, 1) := by decide +kernel
theorem dX5_init_0 : decode cX5_init 0 = .ok (.aload_n 0, 1) := by decide +kernel
theorem dX5_init_1 : decode cX5_init 1 = .ok (.invokespecial 3, 3) := by decide +kernel
theorem dX5_init_4 : decode cX5_init 4 = .ok (.aload_n 0, 1) := by decide +kernel
theorem dX5_init_5 : decode cX5_init 5 = .ok (.sipush 486, 3) := by decide +kernel
theorem dX5_init_8 : decode cX5_init 8 = .ok (.newarray .int, 2) := by decide +kernel
theorem dX5_init_10 : decode cX5_init 10 = .ok (.putfield 9, 3) := by decide +kernel
theorem dX5_init_13 : decode cX5_init 13 = .ok (.aload_n 0, 1) := by decide +kernel
theorem dX5_init_14 : decode cX5_init 14 = .ok (.bipush 81, 2) := by decide +kernel
theorem dX5_init_16 : decode cX5_init 16 = .ok (.newarray .int, 2) := by decide +kernel
theorem dX5_init_18 : decode cX5_init 18 = .ok (.putfield 15, 3) := by decide +kernel
theorem dX5_init_21 : decode cX5_init 21 = .ok (.aload_n 0, 1) := by decide +kernel
theorem dX5_init_22 : decode cX5_init 22 = .ok (.bipush 81, 2) := by decide +kernel
theorem dX5_init_24 : decode cX5_init 24 = .ok (.newarray .int, 2) := by decide +kernel
theorem dX5_init_26 : decode cX5_init 26 = .ok (.putfield 18, 3) := by decide +kernel
theorem dX5_init_29 : decode cX5_init 29 = .ok (.return_, 1) := by decide +kernel
theorem dX5_fit_0 : decode cX5_fit 0 = .ok (.iload_n 1, 1) := by decide +kernel
theorem dX5_fit_1 : decode cX5_fit 1 = .ok (.aload_n 0, 1) := by decide +kernel
theorem dX5_fit_2 : decode cX5_fit 2 = .ok (.getfield 21, 3) := by decide +kernel
theorem dX5_fit_5 : decode cX5_fit 5 = .ok (.if_icmp .ne 4, 3) := by decide +kernel
theorem dX5_fit_8 : decode cX5_fit 8 = .ok (.return_, 1) := by decide +kernel
theorem dX5_fit_9 : decode cX5_fit 9 = .ok (.aload_n 0, 1) := by decide +kernel
theorem dX5_fit_10 : decode cX5_fit 10 = .ok (.iload_n 1, 1) := by decide +kernel
theorem dX5_fit_11 : decode cX5_fit 11 = .ok (.putfield 21, 3) := by decide +kernel
theorem dX5_fit_14 : decode cX5_fit 14 = .ok (.aload_n 0, 1) := by decide +kernel
theorem dX5_fit_15 : decode cX5_fit 15 = .ok (.iload_n 1, 1) := by decide +kernel
theorem dX5_fit_16 : decode cX5_fit 16 = .ok (.iload_n 1, 1) := by decide +kernel
theorem dX5_fit_17 : decode cX5_fit 17 = .ok (.imul, 1) := by decide +kernel
theorem dX5_fit_18 : decode cX5_fit 18 = .ok (.putfield 25, 3) := by decide +kernel
theorem dX5_fit_21 : decode cX5_fit 21 = .ok (.iconst 0, 1) := by decide +kernel
theorem dX5_fit_22 : decode cX5_fit 22 = .ok (.istore_n 2, 1) := by decide +kernel
theorem dX5_fit_23 : decode cX5_fit 23 = .ok (.iload_n 2, 1) := by decide +kernel
theorem dX5_fit_24 : decode cX5_fit 24 = .ok (.aload_n 0, 1) := by decide +kernel
theorem dX5_fit_25 : decode cX5_fit 25 = .ok (.getfield 25, 3) := by decide +kernel
theorem dX5_fit_28 : decode cX5_fit 28 = .ok (.if_icmp .ge 48, 3) := by decide +kernel
theorem dX5_fit_31 : decode cX5_fit 31 = .ok (.aload_n 0, 1) := by decide +kernel
theorem dX5_fit_32 : decode cX5_fit 32 = .ok (.getfield 15, 3) := by decide +kernel
theorem dX5_fit_35 : decode cX5_fit 35 = .ok (.iload_n 2, 1) := by decide +kernel
theorem dX5_fit_36 : decode cX5_fit 36 = .ok (.aload_n 0, 1) := by decide +kernel
theorem dX5_fit_37 : decode cX5_fit 37 = .ok (.aload_n 0, 1) := by decide +kernel
theorem dX5_fit_38 : decode cX5_fit 38 = .ok (.iload_n 2, 1) := by decide +kernel
theorem dX5_fit_39 : decode cX5_fit 39 = .ok (.invokevirtual 28, 3) := by decide +kernel
theorem dX5_fit_42 : decode cX5_fit 42 = .ok (.invokevirtual 32, 3) := by decide +kernel
theorem dX5_fit_45 : decode cX5_fit 45 = .ok (.invokestatic 35, 3) := by decide +kernel
theorem dX5_fit_48 : decode cX5_fit 48 = .ok (.aload_n 0, 1) := by decide +kernel
theorem dX5_fit_49 : decode cX5_fit 49 = .ok (.getfield 18, 3) := by decide +kernel
theorem dX5_fit_52 : decode cX5_fit 52 = .ok (.iload_n 2, 1) := by decide +kernel
theorem dX5_fit_53 : decode cX5_fit 53 = .ok (.aload_n 0, 1) := by decide +kernel
theorem dX5_fit_54 : decode cX5_fit 54 = .ok (.aload_n 0, 1) := by decide +kernel
theorem dX5_fit_55 : decode cX5_fit 55 = .ok (.iload_n 2, 1) := by decide +kernel
theorem dX5_fit_56 : decode cX5_fit 56 = .ok (.invokevirtual 39, 3) := by decide +kernel
theorem dX5_fit_59 : decode cX5_fit 59 = .ok (.invokevirtual 32, 3) := by decide +kernel
theorem dX5_fit_62 : decode cX5_fit 62 = .ok (.invokestatic 35, 3) := by decide +kernel
theorem dX5_fit_65 : decode cX5_fit 65 = .ok (.aload_n 0, 1) := by decide +kernel
theorem dX5_fit_66 : decode cX5_fit 66 = .ok (.iload_n 2, 1) := by decide +kernel
theorem dX5_fit_67 : decode cX5_fit 67 = .ok (.invokevirtual 42, 3) := by decide +kernel
theorem dX5_fit_70 : decode cX5_fit 70 = .ok (.iinc 2 1, 3) := by decide +kernel
theorem dX5_fit_73 : decode cX5_fit 73 = .ok (.goto (-50), 3) := by decide +kernel
theorem dX5_fit_76 : decode cX5_fit 76 = .ok (.return_, 1) := by decide +kernel
theorem dX5_edgesOfLine_0 : decode cX5_edgesOfLine 0 = .ok (.iload_n 1, 1) := by decide +kernel
theorem dX5_edgesOfLine_1 : decode cX5_edgesOfLine 1 = .ok (.ifCond .ne 7, 3) := by decide +kernel
theorem dX5_edgesOfLine_4 : decode cX5_edgesOfLine 4 = .ok (.iconst 1, 1) := by decide +kernel
theorem dX5_edgesOfLine_5 : decode cX5_edgesOfLine 5 = .ok (.goto 18, 3) := by decide +kernel
theorem dX5_edgesOfLine_8 : decode cX5_edgesOfLine 8 = .ok (.iload_n 1, 1) := by decide +kernel
theorem dX5_edgesOfLine_9 : decode cX5_edgesOfLine 9 = .ok (.aload_n 0, 1) := by decide +kernel
theorem dX5_edgesOfLine_10 : decode cX5_edgesOfLine 10 = .ok (.getfield 21, 3) := by decide +kernel
theorem dX5_edgesOfLine_13 : decode cX5_edgesOfLine 13 = .ok (.iconst 1, 1) := by decide +kernel
theorem dX5_edgesOfLine_14 : decode cX5_edgesOfLine 14 = .ok (.isub, 1) := by decide +kernel
theorem dX5_edgesOfLine_15 : decode cX5_edgesOfLine 15 = .ok (.if_icmp .ne 7, 3) := by decide +kernel
theorem dX5_edgesOfLine_18 : decode cX5_edgesOfLine 18 = .ok (.iconst 2, 1) := by decide +kernel
theorem dX5_edgesOfLine_19 : decode cX5_edgesOfLine 19 = .ok (.goto 4, 3) := by decide +kernel
theorem dX5_edgesOfLine_22 : decode cX5_edgesOfLine 22 = .ok (.iconst 0, 1) := by decide +kernel
theorem dX5_edgesOfLine_23 : decode cX5_edgesOfLine 23 = .ok (.ireturn, 1) := by decide +kernel
theorem dX5_listNeighbours_0 : decode cX5_listNeighbours 0 = .ok (.iconst 0, 1) := by decide +kernel
theorem dX5_listNeighbours_1 : decode cX5_listNeighbours 1 = .ok (.istore_n 2, 1) := by decide +kernel
theorem dX5_listNeighbours_2 : decode cX5_listNeighbours 2 = .ok (.iconst 0, 1) := by decide +kernel
theorem dX5_listNeighbours_3 : decode cX5_listNeighbours 3 = .ok (.istore_n 3, 1) := by decide +kernel
theorem dX5_listNeighbours_4 : decode cX5_listNeighbours 4 = .ok (.iload_n 3, 1) := by decide +kernel
theorem dX5_listNeighbours_5 : decode cX5_listNeighbours 5 = .ok (.bipush 6, 2) := by decide +kernel
theorem dX5_listNeighbours_7 : decode cX5_listNeighbours 7 = .ok (.if_icmp .ge 65, 3) := by decide +kernel
theorem dX5_listNeighbours_10 : decode cX5_listNeighbours 10 = .ok (.aload_n 0, 1) := by decide +kernel
theorem dX5_listNeighbours_11 : decode cX5_listNeighbours 11 = .ok (.aload_n 0, 1) := by decide +kernel
theorem dX5_listNeighbours_12 : decode cX5_listNeighbours 12 = .ok (.iload_n 1, 1) := by decide +kernel
theorem dX5_listNeighbours_13 : decode cX5_listNeighbours 13 = .ok (.invokevirtual 28, 3) := by decide +kernel
theorem dX5_listNeighbours_16 : decode cX5_listNeighbours 16 = .ok (.getstatic 46, 3) := by decide +kernel
theorem dX5_listNeighbours_19 : decode cX5_listNeighbours 19 = .ok (.iload_n 3, 1) := by decide +kernel
theorem dX5_listNeighbours_20 : decode cX5_listNeighbours 20 = .ok (.invokestatic 49, 3) := by decide +kernel
theorem dX5_listNeighbours_23 : decode cX5_listNeighbours 23 = .ok (.iadd, 1) := by decide +kernel
theorem dX5_listNeighbours_24 : decode cX5_listNeighbours 24 = .ok (.aload_n 0, 1) := by decide +kernel
theorem dX5_listNeighbours_25 : decode cX5_listNeighbours 25 = .ok (.iload_n 1, 1) := by decide +kernel
theorem dX5_listNeighbours_26 : decode cX5_listNeighbours 26 = .ok (.invokevirtual 39, 3) := by decide +kernel
theorem dX5_listNeighbours_29 : decode cX5_listNeighbours 29 = .ok (.getstatic 53, 3) := by decide +kernel
theorem dX5_listNeighbours_32 : decode cX5_listNeighbours 32 = .ok (.iload_n 3, 1) := by decide +kernel
theorem dX5_listNeighbours_33 : decode cX5_listNeighbours 33 = .ok (.invokestatic 49, 3) := by decide +kernel
theorem dX5_listNeighbours_36 : decode cX5_listNeighbours 36 = .ok (.iadd, 1) := by decide +kernel
theorem dX5_listNeighbours_37 : decode cX5_listNeighbours 37 = .ok (.invokevirtual 56, 3) := by decide +kernel
theorem dX5_listNeighbours_40 : decode cX5_listNeighbours 40 = .ok (.istore 4, 2) := by decide +kernel
theorem dX5_listNeighbours_42 : decode cX5_listNeighbours 42 = .ok (.iload 4, 2) := by decide +kernel
theorem dX5_listNeighbours_44 : decode cX5_listNeighbours 44 = .ok (.iconst (-1), 1) := by decide +kernel
theorem dX5_listNeighbours_45 : decode cX5_listNeighbours 45 = .ok (.if_icmp .eq 21, 3) := by decide +kernel
theorem dX5_listNeighbours_48 : decode cX5_listNeighbours 48 = .ok (.aload_n 0, 1) := by decide +kernel
theorem dX5_listNeighbours_49 : decode cX5_listNeighbours 49 = .ok (.getfield 9, 3) := by decide +kernel
theorem dX5_listNeighbours_52 : decode cX5_listNeighbours 52 = .ok (.iload_n 1, 1) := by decide +kernel
theorem dX5_listNeighbours_53 : decode cX5_listNeighbours 53 = .ok (.bipush 6, 2) := by decide +kernel
theorem dX5_listNeighbours_55 : decode cX5_listNeighbours 55 = .ok (.imul, 1) := by decide +kernel
theorem dX5_listNeighbours_56 : decode cX5_listNeighbours 56 = .ok (.iload_n 2, 1) := by decide +kernel
theorem dX5_listNeighbours_57 : decode cX5_listNeighbours 57 = .ok (.iadd, 1) := by decide +kernel
theorem dX5_listNeighbours_58 : decode cX5_listNeighbours 58 = .ok (.iload 4, 2) := by decide +kernel
theorem dX5_listNeighbours_60 : decode cX5_listNeighbours 60 = .ok (.invokestatic 35, 3) := by decide +kernel
theorem dX5_listNeighbours_63 : decode cX5_listNeighbours 63 = .ok (.iinc 2 1, 3) := by decide +kernel
theorem dX5_listNeighbours_66 : decode cX5_listNeighbours 66 = .ok (.iinc 3 1, 3) := by decide +kernel
theorem dX5_listNeighbours_69 : decode cX5_listNeighbours 69 = .ok (.goto (-65), 3) := by decide +kernel
theorem dX5_listNeighbours_72 : decode cX5_listNeighbours 72 = .ok (.iload_n 2, 1) := by decide +kernel
theorem dX5_listNeighbours_73 : decode cX5_listNeighbours 73 = .ok (.istore_n 3, 1) := by decide +kernel
theorem dX5_listNeighbours_74 : decode cX5_listNeighbours 74 = .ok (.iload_n 3, 1) := by decide +kernel
theorem dX5_listNeighbours_75 : decode cX5_listNeighbours 75 = .ok (.bipush 6, 2) := by decide +kernel
theorem dX5_listNeighbours_77 : decode cX5_listNeighbours 77 = .ok (.if_icmp .ge 23, 3) := by decide +kernel
theorem dX5_listNeighbours_80 : decode cX5_listNeighbours 80 = .ok (.aload_n 0, 1) := by decide +kernel
theorem dX5_listNeighbours_81 : decode cX5_listNeighbours 81 = .ok (.getfield 9, 3) := by decide +kernel
theorem dX5_listNeighbours_84 : decode cX5_listNeighbours 84 = .ok (.iload_n 1, 1) := by decide +kernel
theorem dX5_listNeighbours_85 : decode cX5_listNeighbours 85 = .ok (.bipush 6, 2) := by decide +kernel
theorem dX5_listNeighbours_87 : decode cX5_listNeighbours 87 = .ok (.imul, 1) := by decide +kernel
theorem dX5_listNeighbours_88 : decode cX5_listNeighbours 88 = .ok (.iload_n 3, 1) := by decide +kernel
theorem dX5_listNeighbours_89 : decode cX5_listNeighbours 89 = .ok (.iadd, 1) := by decide +kernel
theorem dX5_listNeighbours_90 : decode cX5_listNeighbours 90 = .ok (.iconst (-1), 1) := by decide +kernel
theorem dX5_listNeighbours_91 : decode cX5_listNeighbours 91 = .ok (.invokestatic 35, 3) := by decide +kernel
theorem dX5_listNeighbours_94 : decode cX5_listNeighbours 94 = .ok (.iinc 3 1, 3) := by decide +kernel
theorem dX5_listNeighbours_97 : decode cX5_listNeighbours 97 = .ok (.goto (-23), 3) := by decide +kernel
theorem dX5_listNeighbours_100 : decode cX5_listNeighbours 100 = .ok (.return_, 1) := by decide +kernel
theorem dX5_row_0 : decode cX5_row 0 = .ok (.aload_n 0, 1) := by decide +kernel
theorem dX5_row_1 : decode cX5_row 1 = .ok (.getfield 21, 3) := by decide +kernel
theorem dX5_row_4 : decode cX5_row 4 = .ok (.ifCond .ne 7, 3) := by decide +kernel
theorem dX5_row_7 : decode cX5_row 7 = .ok (.iconst 0, 1) := by decide +kernel
theorem dX5_row_8 : decode cX5_row 8 = .ok (.goto 9, 3) := by decide +kernel
theorem dX5_row_11 : decode cX5_row 11 = .ok (.iload_n 1, 1) := by decide +kernel
theorem dX5_row_12 : decode cX5_row 12 = .ok (.aload_n 0, 1) := by decide +kernel
theorem dX5_row_13 : decode cX5_row 13 = .ok (.getfield 21, 3) := by decide +kernel
theorem dX5_row_16 : decode cX5_row 16 = .ok (.idiv, 1) := by decide +kernel
theorem dX5_row_17 : decode cX5_row 17 = .ok (.ireturn, 1) := by decide +kernel
theorem dX5_column_0 : decode cX5_column 0 = .ok (.aload_n 0, 1) := by decide +kernel
theorem dX5_column_1 : decode cX5_column 1 = .ok (.getfield 21, 3) := by decide +kernel
theorem dX5_column_4 : decode cX5_column 4 = .ok (.ifCond .ne 7, 3) := by decide +kernel
theorem dX5_column_7 : decode cX5_column 7 = .ok (.iconst 0, 1) := by decide +kernel
theorem dX5_column_8 : decode cX5_column 8 = .ok (.goto 9, 3) := by decide +kernel
theorem dX5_column_11 : decode cX5_column 11 = .ok (.iload_n 1, 1) := by decide +kernel
theorem dX5_column_12 : decode cX5_column 12 = .ok (.aload_n 0, 1) := by decide +kernel
theorem dX5_column_13 : decode cX5_column 13 = .ok (.getfield 21, 3) := by decide +kernel
theorem dX5_column_16 : decode cX5_column 16 = .ok (.irem, 1) := by decide +kernel
theorem dX5_column_17 : decode cX5_column 17 = .ok (.ireturn, 1) := by decide +kernel
theorem dX5_cellAt_0 : decode cX5_cellAt 0 = .ok (.iload_n 1, 1) := by decide +kernel
theorem dX5_cellAt_1 : decode cX5_cellAt 1 = .ok (.ifCond .lt 23, 3) := by decide +kernel
theorem dX5_cellAt_4 : decode cX5_cellAt 4 = .ok (.iload_n 1, 1) := by decide +kernel
theorem dX5_cellAt_5 : decode cX5_cellAt 5 = .ok (.aload_n 0, 1) := by decide +kernel
theorem dX5_cellAt_6 : decode cX5_cellAt 6 = .ok (.getfield 21, 3) := by decide +kernel
theorem dX5_cellAt_9 : decode cX5_cellAt 9 = .ok (.if_icmp .ge 15, 3) := by decide +kernel
theorem dX5_cellAt_12 : decode cX5_cellAt 12 = .ok (.iload_n 2, 1) := by decide +kernel
theorem dX5_cellAt_13 : decode cX5_cellAt 13 = .ok (.ifCond .lt 11, 3) := by decide +kernel
theorem dX5_cellAt_16 : decode cX5_cellAt 16 = .ok (.iload_n 2, 1) := by decide +kernel
theorem dX5_cellAt_17 : decode cX5_cellAt 17 = .ok (.aload_n 0, 1) := by decide +kernel
theorem dX5_cellAt_18 : decode cX5_cellAt 18 = .ok (.getfield 21, 3) := by decide +kernel
theorem dX5_cellAt_21 : decode cX5_cellAt 21 = .ok (.if_icmp .lt 7, 3) := by decide +kernel
theorem dX5_cellAt_24 : decode cX5_cellAt 24 = .ok (.iconst 1, 1) := by decide +kernel
theorem dX5_cellAt_25 : decode cX5_cellAt 25 = .ok (.goto 4, 3) := by decide +kernel
theorem dX5_cellAt_28 : decode cX5_cellAt 28 = .ok (.iconst 0, 1) := by decide +kernel
theorem dX5_cellAt_29 : decode cX5_cellAt 29 = .ok (.istore_n 3, 1) := by decide +kernel
theorem dX5_cellAt_30 : decode cX5_cellAt 30 = .ok (.iload_n 3, 1) := by decide +kernel
theorem dX5_cellAt_31 : decode cX5_cellAt 31 = .ok (.ifCond .eq 7, 3) := by decide +kernel
theorem dX5_cellAt_34 : decode cX5_cellAt 34 = .ok (.iconst (-1), 1) := by decide +kernel
theorem dX5_cellAt_35 : decode cX5_cellAt 35 = .ok (.goto 11, 3) := by decide +kernel
theorem dX5_cellAt_38 : decode cX5_cellAt 38 = .ok (.aload_n 0, 1) := by decide +kernel
theorem dX5_cellAt_39 : decode cX5_cellAt 39 = .ok (.getfield 21, 3) := by decide +kernel
theorem dX5_cellAt_42 : decode cX5_cellAt 42 = .ok (.iload_n 1, 1) := by decide +kernel
theorem dX5_cellAt_43 : decode cX5_cellAt 43 = .ok (.imul, 1) := by decide +kernel
theorem dX5_cellAt_44 : decode cX5_cellAt 44 = .ok (.iload_n 2, 1) := by decide +kernel
theorem dX5_cellAt_45 : decode cX5_cellAt 45 = .ok (.iadd, 1) := by decide +kernel
theorem dX5_cellAt_46 : decode cX5_cellAt 46 = .ok (.ireturn, 1) := by decide +kernel
theorem dX5_near_0 : decode cX5_near 0 = .ok (.iload_n 1, 1) := by decide +kernel
theorem dX5_near_1 : decode cX5_near 1 = .ok (.bipush 6, 2) := by decide +kernel
theorem dX5_near_3 : decode cX5_near 3 = .ok (.imul, 1) := by decide +kernel
theorem dX5_near_4 : decode cX5_near 4 = .ok (.iload_n 2, 1) := by decide +kernel
theorem dX5_near_5 : decode cX5_near 5 = .ok (.iadd, 1) := by decide +kernel
theorem dX5_near_6 : decode cX5_near 6 = .ok (.istore_n 3, 1) := by decide +kernel
theorem dX5_near_7 : decode cX5_near 7 = .ok (.iload_n 2, 1) := by decide +kernel
theorem dX5_near_8 : decode cX5_near 8 = .ok (.ifCond .lt 22, 3) := by decide +kernel
theorem dX5_near_11 : decode cX5_near 11 = .ok (.iload_n 2, 1) := by decide +kernel
theorem dX5_near_12 : decode cX5_near 12 = .ok (.bipush 6, 2) := by decide +kernel
theorem dX5_near_14 : decode cX5_near 14 = .ok (.if_icmp .ge 16, 3) := by decide +kernel
theorem dX5_near_17 : decode cX5_near 17 = .ok (.iload_n 3, 1) := by decide +kernel
theorem dX5_near_18 : decode cX5_near 18 = .ok (.ifCond .lt 12, 3) := by decide +kernel
theorem dX5_near_21 : decode cX5_near 21 = .ok (.iload_n 3, 1) := by decide +kernel
theorem dX5_near_22 : decode cX5_near 22 = .ok (.aload_n 0, 1) := by decide +kernel
theorem dX5_near_23 : decode cX5_near 23 = .ok (.getfield 9, 3) := by decide +kernel
theorem dX5_near_26 : decode cX5_near 26 = .ok (.arraylength, 1) := by decide +kernel
theorem dX5_near_27 : decode cX5_near 27 = .ok (.if_icmp .lt 7, 3) := by decide +kernel
theorem dX5_near_30 : decode cX5_near 30 = .ok (.iconst 1, 1) := by decide +kernel
theorem dX5_near_31 : decode cX5_near 31 = .ok (.goto 4, 3) := by decide +kernel
theorem dX5_near_34 : decode cX5_near 34 = .ok (.iconst 0, 1) := by decide +kernel
theorem dX5_near_35 : decode cX5_near 35 = .ok (.istore 4, 2) := by decide +kernel
theorem dX5_near_37 : decode cX5_near 37 = .ok (.iload 4, 2) := by decide +kernel
theorem dX5_near_39 : decode cX5_near 39 = .ok (.ifCond .eq 7, 3) := by decide +kernel
theorem dX5_near_42 : decode cX5_near 42 = .ok (.iconst (-1), 1) := by decide +kernel
theorem dX5_near_43 : decode cX5_near 43 = .ok (.goto 9, 3) := by decide +kernel
theorem dX5_near_46 : decode cX5_near 46 = .ok (.aload_n 0, 1) := by decide +kernel
theorem dX5_near_47 : decode cX5_near 47 = .ok (.getfield 9, 3) := by decide +kernel
theorem dX5_near_50 : decode cX5_near 50 = .ok (.iload_n 3, 1) := by decide +kernel
theorem dX5_near_51 : decode cX5_near 51 = .ok (.iaload, 1) := by decide +kernel
theorem dX5_near_52 : decode cX5_near 52 = .ok (.ireturn, 1) := by decide +kernel
theorem dX5_edges_0 : decode cX5_edges 0 = .ok (.iload_n 2, 1) := by decide +kernel
theorem dX5_edges_1 : decode cX5_edges 1 = .ok (.ifCond .ne 10, 3) := by decide +kernel
theorem dX5_edges_4 : decode cX5_edges 4 = .ok (.aload_n 0, 1) := by decide +kernel
theorem dX5_edges_5 : decode cX5_edges 5 = .ok (.getfield 15, 3) := by decide +kernel
theorem dX5_edges_8 : decode cX5_edges 8 = .ok (.goto 7, 3) := by decide +kernel
theorem dX5_edges_11 : decode cX5_edges 11 = .ok (.aload_n 0, 1) := by decide +kernel
theorem dX5_edges_12 : decode cX5_edges 12 = .ok (.getfield 18, 3) := by decide +kernel
theorem dX5_edges_15 : decode cX5_edges 15 = .ok (.astore_n 3, 1) := by decide +kernel
theorem dX5_edges_16 : decode cX5_edges 16 = .ok (.iload_n 1, 1) := by decide +kernel
theorem dX5_edges_17 : decode cX5_edges 17 = .ok (.ifCond .lt 9, 3) := by decide +kernel
theorem dX5_edges_20 : decode cX5_edges 20 = .ok (.iload_n 1, 1) := by decide +kernel
theorem dX5_edges_21 : decode cX5_edges 21 = .ok (.aload_n 3, 1) := by decide +kernel
theorem dX5_edges_22 : decode cX5_edges 22 = .ok (.arraylength, 1) := by decide +kernel
theorem dX5_edges_23 : decode cX5_edges 23 = .ok (.if_icmp .lt 7, 3) := by decide +kernel
theorem dX5_edges_26 : decode cX5_edges 26 = .ok (.iconst 0, 1) := by decide +kernel
theorem dX5_edges_27 : decode cX5_edges 27 = .ok (.goto 6, 3) := by decide +kernel
theorem dX5_edges_30 : decode cX5_edges 30 = .ok (.aload_n 3, 1) := by decide +kernel
theorem dX5_edges_31 : decode cX5_edges 31 = .ok (.iload_n 1, 1) := by decide +kernel
theorem dX5_edges_32 : decode cX5_edges 32 = .ok (.iaload, 1) := by decide +kernel
theorem dX5_edges_33 : decode cX5_edges 33 = .ok (.ireturn, 1) := by decide +kernel
theorem dX5_mirror_0 : decode cX5_mirror 0 = .ok (.aload_n 0, 1) := by decide +kernel
theorem dX5_mirror_1 : decode cX5_mirror 1 = .ok (.aload_n 0, 1) := by decide +kernel
theorem dX5_mirror_2 : decode cX5_mirror 2 = .ok (.iload_n 1, 1) := by decide +kernel
theorem dX5_mirror_3 : decode cX5_mirror 3 = .ok (.invokevirtual 39, 3) := by decide +kernel
theorem dX5_mirror_6 : decode cX5_mirror 6 = .ok (.aload_n 0, 1) := by decide +kernel
theorem dX5_mirror_7 : decode cX5_mirror 7 = .ok (.iload_n 1, 1) := by decide +kernel
theorem dX5_mirror_8 : decode cX5_mirror 8 = .ok (.invokevirtual 28, 3) := by decide +kernel
theorem dX5_mirror_11 : decode cX5_mirror 11 = .ok (.invokevirtual 56, 3) := by decide +kernel
theorem dX5_mirror_14 : decode cX5_mirror 14 = .ok (.ireturn, 1) := by decide +kernel
theorem dX6_init_0 : decode cX6_init 0 = .ok (.aload_n 0, 1) := by decide +kernel
theorem dX6_init_1 : decode cX6_init 1 = .ok (.invokespecial 3, 3) := by decide +kernel
theorem dX6_init_4 : decode cX6_init 4 = .ok (.aload_n 0, 1) := by decide +kernel
theorem dX6_init_5 : decode cX6_init 5 = .ok (.bipush 8, 2) := by decide +kernel
theorem dX6_init_7 : decode cX6_init 7 = .ok (.anewarray 9, 3) := by decide +kernel
theorem dX6_init_10 : decode cX6_init 10 = .ok (.putfield 11, 3) := by decide +kernel
theorem dX6_init_13 : decode cX6_init 13 = .ok (.iconst 0, 1) := by decide +kernel
theorem dX6_init_14 : decode cX6_init 14 = .ok (.istore_n 1, 1) := by decide +kernel
theorem dX6_init_15 : decode cX6_init 15 = .ok (.iload_n 1, 1) := by decide +kernel
theorem dX6_init_16 : decode cX6_init 16 = .ok (.bipush 8, 2) := by decide +kernel
theorem dX6_init_18 : decode cX6_init 18 = .ok (.if_icmp .ge 22, 3) := by decide +kernel
theorem dX6_init_21 : decode cX6_init 21 = .ok (.aload_n 0, 1) := by decide +kernel
theorem dX6_init_22 : decode cX6_init 22 = .ok (.getfield 11, 3) := by decide +kernel
theorem dX6_init_25 : decode cX6_init 25 = .ok (.iload_n 1, 1) := by decide +kernel
theorem dX6_init_26 : decode cX6_init 26 = .ok (.new 9, 3) := by decide +kernel
theorem dX6_init_29 : decode cX6_init 29 = .ok (.dup, 1) := by decide +kernel
theorem dX6_init_30 : decode cX6_init 30 = .ok (.invokespecial 17, 3) := by decide +kernel
theorem dX6_init_33 : decode cX6_init 33 = .ok (.aastore, 1) := by decide +kernel
theorem dX6_init_34 : decode cX6_init 34 = .ok (.iinc 1 1, 3) := by decide +kernel
theorem dX6_init_37 : decode cX6_init 37 = .ok (.goto (-22), 3) := by decide +kernel
theorem dX6_init_40 : decode cX6_init 40 = .ok (.return_, 1) := by decide +kernel
theorem dX6_clear_0 : decode cX6_clear 0 = .ok (.aload_n 0, 1) := by decide +kernel
theorem dX6_clear_1 : decode cX6_clear 1 = .ok (.iconst 0, 1) := by decide +kernel
theorem dX6_clear_2 : decode cX6_clear 2 = .ok (.putfield 18, 3) := by decide +kernel
theorem dX6_clear_5 : decode cX6_clear 5 = .ok (.return_, 1) := by decide +kernel
theorem dX6_remember_0 : decode cX6_remember 0 = .ok (.aload_n 0, 1) := by decide +kernel
theorem dX6_remember_1 : decode cX6_remember 1 = .ok (.getfield 18, 3) := by decide +kernel
theorem dX6_remember_4 : decode cX6_remember 4 = .ok (.bipush 8, 2) := by decide +kernel
theorem dX6_remember_6 : decode cX6_remember 6 = .ok (.if_icmp .ne 26, 3) := by decide +kernel
theorem dX6_remember_9 : decode cX6_remember 9 = .ok (.aload_n 0, 1) := by decide +kernel
theorem dX6_remember_10 : decode cX6_remember 10 = .ok (.aload_n 0, 1) := by decide +kernel
theorem dX6_remember_11 : decode cX6_remember 11 = .ok (.getfield 22, 3) := by decide +kernel
theorem dX6_remember_14 : decode cX6_remember 14 = .ok (.iconst 1, 1) := by decide +kernel
theorem dX6_remember_15 : decode cX6_remember 15 = .ok (.iadd, 1) := by decide +kernel
theorem dX6_remember_16 : decode cX6_remember 16 = .ok (.bipush 8, 2) := by decide +kernel
theorem dX6_remember_18 : decode cX6_remember 18 = .ok (.irem, 1) := by decide +kernel
theorem dX6_remember_19 : decode cX6_remember 19 = .ok (.putfield 22, 3) := by decide +kernel
theorem dX6_remember_22 : decode cX6_remember 22 = .ok (.aload_n 0, 1) := by decide +kernel
theorem dX6_remember_23 : decode cX6_remember 23 = .ok (.dup, 1) := by decide +kernel
theorem dX6_remember_24 : decode cX6_remember 24 = .ok (.getfield 18, 3) := by decide +kernel
theorem dX6_remember_27 : decode cX6_remember 27 = .ok (.iconst 1, 1) := by decide +kernel
theorem dX6_remember_28 : decode cX6_remember 28 = .ok (.isub, 1) := by decide +kernel
theorem dX6_remember_29 : decode cX6_remember 29 = .ok (.putfield 18, 3) := by decide +kernel
theorem dX6_remember_32 : decode cX6_remember 32 = .ok (.aload_n 0, 1) := by decide +kernel
theorem dX6_remember_33 : decode cX6_remember 33 = .ok (.aload_n 0, 1) := by decide +kernel
theorem dX6_remember_34 : decode cX6_remember 34 = .ok (.getfield 18, 3) := by decide +kernel
theorem dX6_remember_37 : decode cX6_remember 37 = .ok (.invokevirtual 25, 3) := by decide +kernel
theorem dX6_remember_40 : decode cX6_remember 40 = .ok (.astore_n 2, 1) := by decide +kernel
theorem dX6_remember_41 : decode cX6_remember 41 = .ok (.aload_n 2, 1) := by decide +kernel
theorem dX6_remember_42 : decode cX6_remember 42 = .ok (.ifnull 18, 3) := by decide +kernel
theorem dX6_remember_45 : decode cX6_remember 45 = .ok (.aload_n 2, 1) := by decide +kernel
theorem dX6_remember_46 : decode cX6_remember 46 = .ok (.aload_n 1, 1) := by decide +kernel
theorem dX6_remember_47 : decode cX6_remember 47 = .ok (.invokevirtual 29, 3) := by decide +kernel
theorem dX6_remember_50 : decode cX6_remember 50 = .ok (.aload_n 0, 1) := by decide +kernel
theorem dX6_remember_51 : decode cX6_remember 51 = .ok (.dup, 1) := by decide +kernel
theorem dX6_remember_52 : decode cX6_remember 52 = .ok (.getfield 18, 3) := by decide +kernel
theorem dX6_remember_55 : decode cX6_remember 55 = .ok (.iconst 1, 1) := by decide +kernel
theorem dX6_remember_56 : decode cX6_remember 56 = .ok (.iadd, 1) := by decide +kernel
theorem dX6_remember_57 : decode cX6_remember 57 = .ok (.putfield 18, 3) := by decide +kernel
theorem dX6_remember_60 : decode cX6_remember 60 = .ok (.return_, 1) := by decide +kernel
theorem dX6_back_0 : decode cX6_back 0 = .ok (.aload_n 0, 1) := by decide +kernel
theorem dX6_back_1 : decode cX6_back 1 = .ok (.getfield 18, 3) := by decide +kernel
theorem dX6_back_4 : decode cX6_back 4 = .ok (.ifCond .ne 7, 3) := by decide +kernel
theorem dX6_back_7 : decode cX6_back 7 = .ok (.aconst_null, 1) := by decide +kernel
theorem dX6_back_8 : decode cX6_back 8 = .ok (.goto 13, 3) := by decide +kernel
theorem dX6_back_11 : decode cX6_back 11 = .ok (.aload_n 0, 1) := by decide +kernel
theorem dX6_back_12 : decode cX6_back 12 = .ok (.aload_n 0, 1) := by decide +kernel
theorem dX6_back_13 : decode cX6_back 13 = .ok (.getfield 18, 3) := by decide +kernel
theorem dX6_back_16 : decode cX6_back 16 = .ok (.iconst 1, 1) := by decide +kernel
theorem dX6_back_17 : decode cX6_back 17 = .ok (.isub, 1) := by decide +kernel
theorem dX6_back_18 : decode cX6_back 18 = .ok (.invokevirtual 25, 3) := by decide +kernel
theorem dX6_back_21 : decode cX6_back 21 = .ok (.astore_n 2, 1) := by decide +kernel
theorem dX6_back_22 : decode cX6_back 22 = .ok (.aload_n 2, 1) := by decide +kernel
theorem dX6_back_23 : decode cX6_back 23 = .ok (.ifnonnull 5, 3) := by decide +kernel
theorem dX6_back_26 : decode cX6_back 26 = .ok (.iconst 0, 1) := by decide +kernel
theorem dX6_back_27 : decode cX6_back 27 = .ok (.ireturn, 1) := by decide +kernel
theorem dX6_back_28 : decode cX6_back 28 = .ok (.aload_n 1, 1) := by decide +kernel
theorem dX6_back_29 : decode cX6_back 29 = .ok (.aload_n 2, 1) := by decide +kernel
theorem dX6_back_30 : decode cX6_back 30 = .ok (.invokevirtual 29, 3) := by decide +kernel
theorem dX6_back_33 : decode cX6_back 33 = .ok (.aload_n 0, 1) := by decide +kernel
theorem dX6_back_34 : decode cX6_back 34 = .ok (.dup, 1) := by decide +kernel
theorem dX6_back_35 : decode cX6_back 35 = .ok (.getfield 18, 3) := by decide +kernel
theorem dX6_back_38 : decode cX6_back 38 = .ok (.iconst 1, 1) := by decide +kernel
theorem dX6_back_39 : decode cX6_back 39 = .ok (.isub, 1) := by decide +kernel
theorem dX6_back_40 : decode cX6_back 40 = .ok (.putfield 18, 3) := by decide +kernel
theorem dX6_back_43 : decode cX6_back 43 = .ok (.iconst 1, 1) := by decide +kernel
theorem dX6_back_44 : decode cX6_back 44 = .ok (.ireturn, 1) := by decide +kernel
theorem dX6_latest_0 : decode cX6_latest 0 = .ok (.aload_n 0, 1) := by decide +kernel
theorem dX6_latest_1 : decode cX6_latest 1 = .ok (.getfield 22, 3) := by decide +kernel
theorem dX6_latest_4 : decode cX6_latest 4 = .ok (.iload_n 1, 1) := by decide +kernel
theorem dX6_latest_5 : decode cX6_latest 5 = .ok (.iadd, 1) := by decide +kernel
theorem dX6_latest_6 : decode cX6_latest 6 = .ok (.bipush 8, 2) := by decide +kernel
theorem dX6_latest_8 : decode cX6_latest 8 = .ok (.irem, 1) := by decide +kernel
theorem dX6_latest_9 : decode cX6_latest 9 = .ok (.istore_n 2, 1) := by decide +kernel
theorem dX6_latest_10 : decode cX6_latest 10 = .ok (.iload_n 2, 1) := by decide +kernel
theorem dX6_latest_11 : decode cX6_latest 11 = .ok (.ifCond .lt 12, 3) := by decide +kernel
theorem dX6_latest_14 : decode cX6_latest 14 = .ok (.iload_n 2, 1) := by decide +kernel
theorem dX6_latest_15 : decode cX6_latest 15 = .ok (.aload_n 0, 1) := by decide +kernel
theorem dX6_latest_16 : decode cX6_latest 16 = .ok (.getfield 11, 3) := by decide +kernel
theorem dX6_latest_19 : decode cX6_latest 19 = .ok (.arraylength, 1) := by decide +kernel
theorem dX6_latest_20 : decode cX6_latest 20 = .ok (.if_icmp .lt 7, 3) := by decide +kernel
theorem dX6_latest_23 : decode cX6_latest 23 = .ok (.aconst_null, 1) := by decide +kernel
theorem dX6_latest_24 : decode cX6_latest 24 = .ok (.goto 9, 3) := by decide +kernel
theorem dX6_latest_27 : decode cX6_latest 27 = .ok (.aload_n 0, 1) := by decide +kernel
theorem dX6_latest_28 : decode cX6_latest 28 = .ok (.getfield 11, 3) := by decide +kernel
theorem dX6_latest_31 : decode cX6_latest 31 = .ok (.iload_n 2, 1) := by decide +kernel
theorem dX6_latest_32 : decode cX6_latest 32 = .ok (.aaload, 1) := by decide +kernel
theorem dX6_latest_33 : decode cX6_latest 33 = .ok (.areturn, 1) := by decide +kernel
theorem dX7_init_0 : decode cX7_init 0 = .ok (.aload_n 0, 1) := by decide +kernel
theorem dX7_init_1 : decode cX7_init 1 = .ok (.invokespecial 3, 3) := by decide +kernel
theorem dX7_init_4 : decode cX7_init 4 = .ok (.aload_n 0, 1) := by decide +kernel
theorem dX7_init_5 : decode cX7_init 5 = .ok (.aload_n 1, 1) := by decide +kernel
theorem dX7_init_6 : decode cX7_init 6 = .ok (.putfield 9, 3) := by decide +kernel
theorem dX7_init_9 : decode cX7_init 9 = .ok (.aload_n 0, 1) := by decide +kernel
theorem dX7_init_10 : decode cX7_init 10 = .ok (.bipush 81, 2) := by decide +kernel
theorem dX7_init_12 : decode cX7_init 12 = .ok (.newarray .int, 2) := by decide +kernel
theorem dX7_init_14 : decode cX7_init 14 = .ok (.putfield 15, 3) := by decide +kernel
theorem dX7_init_17 : decode cX7_init 17 = .ok (.aload_n 0, 1) := by decide +kernel
theorem dX7_init_18 : decode cX7_init 18 = .ok (.bipush 81, 2) := by decide +kernel
theorem dX7_init_20 : decode cX7_init 20 = .ok (.newarray .int, 2) := by decide +kernel
theorem dX7_init_22 : decode cX7_init 22 = .ok (.putfield 19, 3) := by decide +kernel
theorem dX7_init_25 : decode cX7_init 25 = .ok (.aload_n 0, 1) := by decide +kernel
theorem dX7_init_26 : decode cX7_init 26 = .ok (.bipush 81, 2) := by decide +kernel
theorem dX7_init_28 : decode cX7_init 28 = .ok (.newarray .int, 2) := by decide +kernel
theorem dX7_init_30 : decode cX7_init 30 = .ok (.putfield 22, 3) := by decide +kernel
theorem dX7_init_33 : decode cX7_init 33 = .ok (.aload_n 0, 1) := by decide +kernel
theorem dX7_init_34 : decode cX7_init 34 = .ok (.bipush 81, 2) := by decide +kernel
theorem dX7_init_36 : decode cX7_init 36 = .ok (.newarray .int, 2) := by decide +kernel
theorem dX7_init_38 : decode cX7_init 38 = .ok (.putfield 25, 3) := by decide +kernel
theorem dX7_init_41 : decode cX7_init 41 = .ok (.return_, 1) := by decide +kernel
theorem dX7_gather_0 : decode cX7_gather 0 = .ok (.aload_n 0, 1) := by decide +kernel
theorem dX7_gather_1 : decode cX7_gather 1 = .ok (.iload_n 2, 1) := by decide +kernel
theorem dX7_gather_2 : decode cX7_gather 2 = .ok (.putfield 28, 3) := by decide +kernel
theorem dX7_gather_5 : decode cX7_gather 5 = .ok (.iconst 0, 1) := by decide +kernel
theorem dX7_gather_6 : decode cX7_gather 6 = .ok (.istore_n 3, 1) := by decide +kernel
theorem dX7_gather_7 : decode cX7_gather 7 = .ok (.iload_n 3, 1) := by decide +kernel
theorem dX7_gather_8 : decode cX7_gather 8 = .ok (.bipush 81, 2) := by decide +kernel
theorem dX7_gather_10 : decode cX7_gather 10 = .ok (.if_icmp .ge 18, 3) := by decide +kernel
theorem dX7_gather_13 : decode cX7_gather 13 = .ok (.aload_n 0, 1) := by decide +kernel
theorem dX7_gather_14 : decode cX7_gather 14 = .ok (.getfield 15, 3) := by decide +kernel
theorem dX7_gather_17 : decode cX7_gather 17 = .ok (.iload_n 3, 1) := by decide +kernel
theorem dX7_gather_18 : decode cX7_gather 18 = .ok (.iconst (-1), 1) := by decide +kernel
theorem dX7_gather_19 : decode cX7_gather 19 = .ok (.invokestatic 32, 3) := by decide +kernel
theorem dX7_gather_22 : decode cX7_gather 22 = .ok (.iinc 3 1, 3) := by decide +kernel
theorem dX7_gather_25 : decode cX7_gather 25 = .ok (.goto (-18), 3) := by decide +kernel
theorem dX7_gather_28 : decode cX7_gather 28 = .ok (.iconst 0, 1) := by decide +kernel
theorem dX7_gather_29 : decode cX7_gather 29 = .ok (.istore_n 3, 1) := by decide +kernel
theorem dX7_gather_30 : decode cX7_gather 30 = .ok (.iload_n 3, 1) := by decide +kernel
theorem dX7_gather_31 : decode cX7_gather 31 = .ok (.aload_n 0, 1) := by decide +kernel
theorem dX7_gather_32 : decode cX7_gather 32 = .ok (.getfield 9, 3) := by decide +kernel
theorem dX7_gather_35 : decode cX7_gather 35 = .ok (.getfield 36, 3) := by decide +kernel
theorem dX7_gather_38 : decode cX7_gather 38 = .ok (.if_icmp .ge 39, 3) := by decide +kernel
theorem dX7_gather_41 : decode cX7_gather 41 = .ok (.aload_n 1, 1) := by decide +kernel
theorem dX7_gather_42 : decode cX7_gather 42 = .ok (.iload_n 3, 1) := by decide +kernel
theorem dX7_gather_43 : decode cX7_gather 43 = .ok (.invokestatic 41, 3) := by decide +kernel
theorem dX7_gather_46 : decode cX7_gather 46 = .ok (.aload_n 0, 1) := by decide +kernel
theorem dX7_gather_47 : decode cX7_gather 47 = .ok (.getfield 28, 3) := by decide +kernel
theorem dX7_gather_50 : decode cX7_gather 50 = .ok (.if_icmp .ne 21, 3) := by decide +kernel
theorem dX7_gather_53 : decode cX7_gather 53 = .ok (.aload_n 0, 1) := by decide +kernel
theorem dX7_gather_54 : decode cX7_gather 54 = .ok (.getfield 15, 3) := by decide +kernel
theorem dX7_gather_57 : decode cX7_gather 57 = .ok (.iload_n 3, 1) := by decide +kernel
theorem dX7_gather_58 : decode cX7_gather 58 = .ok (.invokestatic 41, 3) := by decide +kernel
theorem dX7_gather_61 : decode cX7_gather 61 = .ok (.iconst (-1), 1) := by decide +kernel
theorem dX7_gather_62 : decode cX7_gather 62 = .ok (.if_icmp .ne 9, 3) := by decide +kernel
theorem dX7_gather_65 : decode cX7_gather 65 = .ok (.aload_n 0, 1) := by decide +kernel
theorem dX7_gather_66 : decode cX7_gather 66 = .ok (.aload_n 1, 1) := by decide +kernel
theorem dX7_gather_67 : decode cX7_gather 67 = .ok (.iload_n 3, 1) := by decide +kernel
theorem dX7_gather_68 : decode cX7_gather 68 = .ok (.invokevirtual 45, 3) := by decide +kernel
theorem dX7_gather_71 : decode cX7_gather 71 = .ok (.iinc 3 1, 3) := by decide +kernel
theorem dX7_gather_74 : decode cX7_gather 74 = .ok (.goto (-44), 3) := by decide +kernel
theorem dX7_gather_77 : decode cX7_gather 77 = .ok (.return_, 1) := by decide +kernel
theorem dX7_flood_0 : decode cX7_flood 0 = .ok (.iconst 0, 1) := by decide +kernel
theorem dX7_flood_1 : decode cX7_flood 1 = .ok (.istore_n 3, 1) := by decide +kernel
theorem dX7_flood_2 : decode cX7_flood 2 = .ok (.iconst 1, 1) := by decide +kernel
theorem dX7_flood_3 : decode cX7_flood 3 = .ok (.istore 4, 2) := by decide +kernel
theorem dX7_flood_5 : decode cX7_flood 5 = .ok (.aload_n 0, 1) := by decide +kernel
theorem dX7_flood_6 : decode cX7_flood 6 = .ok (.getfield 15, 3) := by decide +kernel
theorem dX7_flood_9 : decode cX7_flood 9 = .ok (.iload_n 2, 1) := by decide +kernel
theorem dX7_flood_10 : decode cX7_flood 10 = .ok (.iload_n 2, 1) := by decide +kernel
theorem dX7_flood_11 : decode cX7_flood 11 = .ok (.invokestatic 32, 3) := by decide +kernel
theorem dX7_flood_14 : decode cX7_flood 14 = .ok (.aload_n 0, 1) := by decide +kernel
theorem dX7_flood_15 : decode cX7_flood 15 = .ok (.getfield 25, 3) := by decide +kernel
theorem dX7_flood_18 : decode cX7_flood 18 = .ok (.iconst 0, 1) := by decide +kernel
theorem dX7_flood_19 : decode cX7_flood 19 = .ok (.iload_n 2, 1) := by decide +kernel
theorem dX7_flood_20 : decode cX7_flood 20 = .ok (.invokestatic 32, 3) := by decide +kernel
theorem dX7_flood_23 : decode cX7_flood 23 = .ok (.iconst 0, 1) := by decide +kernel
theorem dX7_flood_24 : decode cX7_flood 24 = .ok (.istore 5, 2) := by decide +kernel
theorem dX7_flood_26 : decode cX7_flood 26 = .ok (.iload 5, 2) := by decide +kernel
theorem dX7_flood_28 : decode cX7_flood 28 = .ok (.iload 4, 2) := by decide +kernel
theorem dX7_flood_30 : decode cX7_flood 30 = .ok (.if_icmp .ge 128, 3) := by decide +kernel
theorem dX7_flood_33 : decode cX7_flood 33 = .ok (.iload 5, 2) := by decide +kernel
theorem dX7_flood_35 : decode cX7_flood 35 = .ok (.bipush 81, 2) := by decide +kernel
theorem dX7_flood_37 : decode cX7_flood 37 = .ok (.if_icmp .ge 121, 3) := by decide +kernel
theorem dX7_flood_40 : decode cX7_flood 40 = .ok (.aload_n 0, 1) := by decide +kernel
theorem dX7_flood_41 : decode cX7_flood 41 = .ok (.getfield 25, 3) := by decide +kernel
theorem dX7_flood_44 : decode cX7_flood 44 = .ok (.iload 5, 2) := by decide +kernel
theorem dX7_flood_46 : decode cX7_flood 46 = .ok (.invokestatic 41, 3) := by decide +kernel
theorem dX7_flood_49 : decode cX7_flood 49 = .ok (.istore 6, 2) := by decide +kernel
theorem dX7_flood_51 : decode cX7_flood 51 = .ok (.iload_n 3, 1) := by decide +kernel
theorem dX7_flood_52 : decode cX7_flood 52 = .ok (.aload_n 0, 1) := by decide +kernel
theorem dX7_flood_53 : decode cX7_flood 53 = .ok (.getfield 9, 3) := by decide +kernel
theorem dX7_flood_56 : decode cX7_flood 56 = .ok (.iload 6, 2) := by decide +kernel
theorem dX7_flood_58 : decode cX7_flood 58 = .ok (.aload_n 0, 1) := by decide +kernel
theorem dX7_flood_59 : decode cX7_flood 59 = .ok (.getfield 28, 3) := by decide +kernel
theorem dX7_flood_62 : decode cX7_flood 62 = .ok (.invokevirtual 49, 3) := by decide +kernel
theorem dX7_flood_65 : decode cX7_flood 65 = .ok (.ior, 1) := by decide +kernel
theorem dX7_flood_66 : decode cX7_flood 66 = .ok (.istore_n 3, 1) := by decide +kernel
theorem dX7_flood_67 : decode cX7_flood 67 = .ok (.iconst 0, 1) := by decide +kernel
theorem dX7_flood_68 : decode cX7_flood 68 = .ok (.istore 7, 2) := by decide +kernel
theorem dX7_flood_70 : decode cX7_flood 70 = .ok (.iload 7, 2) := by decide +kernel
theorem dX7_flood_72 : decode cX7_flood 72 = .ok (.bipush 6, 2) := by decide +kernel
theorem dX7_flood_74 : decode cX7_flood 74 = .ok (.if_icmp .ge 78, 3) := by decide +kernel
theorem dX7_flood_77 : decode cX7_flood 77 = .ok (.aload_n 0, 1) := by decide +kernel
theorem dX7_flood_78 : decode cX7_flood 78 = .ok (.getfield 9, 3) := by decide +kernel
theorem dX7_flood_81 : decode cX7_flood 81 = .ok (.iload 6, 2) := by decide +kernel
theorem dX7_flood_83 : decode cX7_flood 83 = .ok (.iload 7, 2) := by decide +kernel
theorem dX7_flood_85 : decode cX7_flood 85 = .ok (.invokevirtual 53, 3) := by decide +kernel
theorem dX7_flood_88 : decode cX7_flood 88 = .ok (.istore 8, 2) := by decide +kernel
theorem dX7_flood_90 : decode cX7_flood 90 = .ok (.iload 8, 2) := by decide +kernel
theorem dX7_flood_92 : decode cX7_flood 92 = .ok (.iconst (-1), 1) := by decide +kernel
theorem dX7_flood_93 : decode cX7_flood 93 = .ok (.if_icmp .eq 53, 3) := by decide +kernel
theorem dX7_flood_96 : decode cX7_flood 96 = .ok (.aload_n 1, 1) := by decide +kernel
theorem dX7_flood_97 : decode cX7_flood 97 = .ok (.iload 8, 2) := by decide +kernel
theorem dX7_flood_99 : decode cX7_flood 99 = .ok (.invokestatic 41, 3) := by decide +kernel
theorem dX7_flood_102 : decode cX7_flood 102 = .ok (.aload_n 0, 1) := by decide +kernel
theorem dX7_flood_103 : decode cX7_flood 103 = .ok (.getfield 28, 3) := by decide +kernel
theorem dX7_flood_106 : decode cX7_flood 106 = .ok (.if_icmp .ne 40, 3) := by decide +kernel
theorem dX7_flood_109 : decode cX7_flood 109 = .ok (.aload_n 0, 1) := by decide +kernel
theorem dX7_flood_110 : decode cX7_flood 110 = .ok (.getfield 15, 3) := by decide +kernel
theorem dX7_flood_113 : decode cX7_flood 113 = .ok (.iload 8, 2) := by decide +kernel
theorem dX7_flood_115 : decode cX7_flood 115 = .ok (.invokestatic 41, 3) := by decide +kernel
theorem dX7_flood_118 : decode cX7_flood 118 = .ok (.iconst (-1), 1) := by decide +kernel
theorem dX7_flood_119 : decode cX7_flood 119 = .ok (.if_icmp .ne 27, 3) := by decide +kernel
theorem dX7_flood_122 : decode cX7_flood 122 = .ok (.aload_n 0, 1) := by decide +kernel
theorem dX7_flood_123 : decode cX7_flood 123 = .ok (.getfield 15, 3) := by decide +kernel
theorem dX7_flood_126 : decode cX7_flood 126 = .ok (.iload 8, 2) := by decide +kernel
theorem dX7_flood_128 : decode cX7_flood 128 = .ok (.iload_n 2, 1) := by decide +kernel
theorem dX7_flood_129 : decode cX7_flood 129 = .ok (.invokestatic 32, 3) := by decide +kernel
theorem dX7_flood_132 : decode cX7_flood 132 = .ok (.aload_n 0, 1) := by decide +kernel
theorem dX7_flood_133 : decode cX7_flood 133 = .ok (.getfield 25, 3) := by decide +kernel
theorem dX7_flood_136 : decode cX7_flood 136 = .ok (.iload 4, 2) := by decide +kernel
theorem dX7_flood_138 : decode cX7_flood 138 = .ok (.iload 8, 2) := by decide +kernel
theorem dX7_flood_140 : decode cX7_flood 140 = .ok (.invokestatic 32, 3) := by decide +kernel
theorem dX7_flood_143 : decode cX7_flood 143 = .ok (.iinc 4 1, 3) := by decide +kernel
theorem dX7_flood_146 : decode cX7_flood 146 = .ok (.iinc 7 1, 3) := by decide +kernel
theorem dX7_flood_149 : decode cX7_flood 149 = .ok (.goto (-79), 3) := by decide +kernel
theorem dX7_flood_152 : decode cX7_flood 152 = .ok (.iinc 5 1, 3) := by decide +kernel
theorem dX7_flood_155 : decode cX7_flood 155 = .ok (.goto (-129), 3) := by decide +kernel
theorem dX7_flood_158 : decode cX7_flood 158 = .ok (.aload_n 0, 1) := by decide +kernel
theorem dX7_flood_159 : decode cX7_flood 159 = .ok (.getfield 19, 3) := by decide +kernel
theorem dX7_flood_162 : decode cX7_flood 162 = .ok (.iload_n 2, 1) := by decide +kernel
theorem dX7_flood_163 : decode cX7_flood 163 = .ok (.iload_n 3, 1) := by decide +kernel
theorem dX7_flood_164 : decode cX7_flood 164 = .ok (.invokestatic 32, 3) := by decide +kernel
theorem dX7_flood_167 : decode cX7_flood 167 = .ok (.aload_n 0, 1) := by decide +kernel
theorem dX7_flood_168 : decode cX7_flood 168 = .ok (.getfield 22, 3) := by decide +kernel
theorem dX7_flood_171 : decode cX7_flood 171 = .ok (.iload_n 2, 1) := by decide +kernel
theorem dX7_flood_172 : decode cX7_flood 172 = .ok (.iload 4, 2) := by decide +kernel
theorem dX7_flood_174 : decode cX7_flood 174 = .ok (.invokestatic 32, 3) := by decide +kernel
theorem dX7_flood_177 : decode cX7_flood 177 = .ok (.return_, 1) := by decide +kernel
theorem dX7_link_0 : decode cX7_link 0 = .ok (.aload_n 0, 1) := by decide +kernel
theorem dX7_link_1 : decode cX7_link 1 = .ok (.iload_n 1, 1) := by decide +kernel
theorem dX7_link_2 : decode cX7_link 2 = .ok (.invokevirtual 56, 3) := by decide +kernel
theorem dX7_link_5 : decode cX7_link 5 = .ok (.aload_n 0, 1) := by decide +kernel
theorem dX7_link_6 : decode cX7_link 6 = .ok (.iload_n 2, 1) := by decide +kernel
theorem dX7_link_7 : decode cX7_link 7 = .ok (.invokevirtual 56, 3) := by decide +kernel
theorem dX7_link_10 : decode cX7_link 10 = .ok (.invokestatic 60, 3) := by decide +kernel
theorem dX7_link_13 : decode cX7_link 13 = .ok (.istore_n 3, 1) := by decide +kernel
theorem dX7_link_14 : decode cX7_link 14 = .ok (.aload_n 0, 1) := by decide +kernel
theorem dX7_link_15 : decode cX7_link 15 = .ok (.iload_n 1, 1) := by decide +kernel
theorem dX7_link_16 : decode cX7_link 16 = .ok (.invokevirtual 56, 3) := by decide +kernel
theorem dX7_link_19 : decode cX7_link 19 = .ok (.aload_n 0, 1) := by decide +kernel
theorem dX7_link_20 : decode cX7_link 20 = .ok (.iload_n 2, 1) := by decide +kernel
theorem dX7_link_21 : decode cX7_link 21 = .ok (.invokevirtual 56, 3) := by decide +kernel
theorem dX7_link_24 : decode cX7_link 24 = .ok (.invokestatic 65, 3) := by decide +kernel
theorem dX7_link_27 : decode cX7_link 27 = .ok (.istore 4, 2) := by decide +kernel
theorem dX7_link_29 : decode cX7_link 29 = .ok (.iload_n 3, 1) := by decide +kernel
theorem dX7_link_30 : decode cX7_link 30 = .ok (.iload 4, 2) := by decide +kernel
theorem dX7_link_32 : decode cX7_link 32 = .ok (.if_icmp .ne 4, 3) := by decide +kernel
theorem dX7_link_35 : decode cX7_link 35 = .ok (.return_, 1) := by decide +kernel
theorem dX7_link_36 : decode cX7_link 36 = .ok (.iconst 0, 1) := by decide +kernel
theorem dX7_link_37 : decode cX7_link 37 = .ok (.istore 5, 2) := by decide +kernel
theorem dX7_link_39 : decode cX7_link 39 = .ok (.iload 5, 2) := by decide +kernel
theorem dX7_link_41 : decode cX7_link 41 = .ok (.aload_n 0, 1) := by decide +kernel
theorem dX7_link_42 : decode cX7_link 42 = .ok (.getfield 9, 3) := by decide +kernel
theorem dX7_link_45 : decode cX7_link 45 = .ok (.getfield 36, 3) := by decide +kernel
theorem dX7_link_48 : decode cX7_link 48 = .ok (.if_icmp .ge 33, 3) := by decide +kernel
theorem dX7_link_51 : decode cX7_link 51 = .ok (.aload_n 0, 1) := by decide +kernel
theorem dX7_link_52 : decode cX7_link 52 = .ok (.getfield 15, 3) := by decide +kernel
theorem dX7_link_55 : decode cX7_link 55 = .ok (.iload 5, 2) := by decide +kernel
theorem dX7_link_57 : decode cX7_link 57 = .ok (.invokestatic 41, 3) := by decide +kernel
theorem dX7_link_60 : decode cX7_link 60 = .ok (.iload 4, 2) := by decide +kernel
theorem dX7_link_62 : decode cX7_link 62 = .ok (.if_icmp .ne 13, 3) := by decide +kernel
theorem dX7_link_65 : decode cX7_link 65 = .ok (.aload_n 0, 1) := by decide +kernel
theorem dX7_link_66 : decode cX7_link 66 = .ok (.getfield 15, 3) := by decide +kernel
theorem dX7_link_69 : decode cX7_link 69 = .ok (.iload 5, 2) := by decide +kernel
theorem dX7_link_71 : decode cX7_link 71 = .ok (.iload_n 3, 1) := by decide +kernel
theorem dX7_link_72 : decode cX7_link 72 = .ok (.invokestatic 32, 3) := by decide +kernel
theorem dX7_link_75 : decode cX7_link 75 = .ok (.iinc 5 1, 3) := by decide +kernel
theorem dX7_link_78 : decode cX7_link 78 = .ok (.goto (-39), 3) := by decide +kernel
theorem dX7_link_81 : decode cX7_link 81 = .ok (.aload_n 0, 1) := by decide +kernel
theorem dX7_link_82 : decode cX7_link 82 = .ok (.getfield 22, 3) := by decide +kernel
theorem dX7_link_85 : decode cX7_link 85 = .ok (.iload_n 3, 1) := by decide +kernel
theorem dX7_link_86 : decode cX7_link 86 = .ok (.aload_n 0, 1) := by decide +kernel
theorem dX7_link_87 : decode cX7_link 87 = .ok (.getfield 22, 3) := by decide +kernel
theorem dX7_link_90 : decode cX7_link 90 = .ok (.iload_n 3, 1) := by decide +kernel
theorem dX7_link_91 : decode cX7_link 91 = .ok (.invokestatic 41, 3) := by decide +kernel
theorem dX7_link_94 : decode cX7_link 94 = .ok (.aload_n 0, 1) := by decide +kernel
theorem dX7_link_95 : decode cX7_link 95 = .ok (.getfield 22, 3) := by decide +kernel
theorem dX7_link_98 : decode cX7_link 98 = .ok (.iload 4, 2) := by decide +kernel
theorem dX7_link_100 : decode cX7_link 100 = .ok (.invokestatic 41, 3) := by decide +kernel
theorem dX7_link_103 : decode cX7_link 103 = .ok (.iadd, 1) := by decide +kernel
theorem dX7_link_104 : decode cX7_link 104 = .ok (.invokestatic 32, 3) := by decide +kernel
theorem dX7_link_107 : decode cX7_link 107 = .ok (.aload_n 0, 1) := by decide +kernel
theorem dX7_link_108 : decode cX7_link 108 = .ok (.getfield 19, 3) := by decide +kernel
theorem dX7_link_111 : decode cX7_link 111 = .ok (.iload_n 3, 1) := by decide +kernel
theorem dX7_link_112 : decode cX7_link 112 = .ok (.aload_n 0, 1) := by decide +kernel
theorem dX7_link_113 : decode cX7_link 113 = .ok (.getfield 19, 3) := by decide +kernel
theorem dX7_link_116 : decode cX7_link 116 = .ok (.iload_n 3, 1) := by decide +kernel
theorem dX7_link_117 : decode cX7_link 117 = .ok (.invokestatic 41, 3) := by decide +kernel
theorem dX7_link_120 : decode cX7_link 120 = .ok (.aload_n 0, 1) := by decide +kernel
theorem dX7_link_121 : decode cX7_link 121 = .ok (.getfield 19, 3) := by decide +kernel
theorem dX7_link_124 : decode cX7_link 124 = .ok (.iload 4, 2) := by decide +kernel
theorem dX7_link_126 : decode cX7_link 126 = .ok (.invokestatic 41, 3) := by decide +kernel
theorem dX7_link_129 : decode cX7_link 129 = .ok (.ior, 1) := by decide +kernel
theorem dX7_link_130 : decode cX7_link 130 = .ok (.invokestatic 32, 3) := by decide +kernel
theorem dX7_link_133 : decode cX7_link 133 = .ok (.return_, 1) := by decide +kernel
theorem dX7_reach_0 : decode cX7_reach 0 = .ok (.aload_n 0, 1) := by decide +kernel
theorem dX7_reach_1 : decode cX7_reach 1 = .ok (.iload_n 1, 1) := by decide +kernel
theorem dX7_reach_2 : decode cX7_reach 2 = .ok (.invokevirtual 56, 3) := by decide +kernel
theorem dX7_reach_5 : decode cX7_reach 5 = .ok (.istore_n 3, 1) := by decide +kernel
theorem dX7_reach_6 : decode cX7_reach 6 = .ok (.aload_n 0, 1) := by decide +kernel
theorem dX7_reach_7 : decode cX7_reach 7 = .ok (.getfield 19, 3) := by decide +kernel
theorem dX7_reach_10 : decode cX7_reach 10 = .ok (.iload_n 3, 1) := by decide +kernel
theorem dX7_reach_11 : decode cX7_reach 11 = .ok (.aload_n 0, 1) := by decide +kernel
theorem dX7_reach_12 : decode cX7_reach 12 = .ok (.getfield 19, 3) := by decide +kernel
theorem dX7_reach_15 : decode cX7_reach 15 = .ok (.iload_n 3, 1) := by decide +kernel
theorem dX7_reach_16 : decode cX7_reach 16 = .ok (.invokestatic 41, 3) := by decide +kernel
theorem dX7_reach_19 : decode cX7_reach 19 = .ok (.iload_n 2, 1) := by decide +kernel
theorem dX7_reach_20 : decode cX7_reach 20 = .ok (.ior, 1) := by decide +kernel
theorem dX7_reach_21 : decode cX7_reach 21 = .ok (.invokestatic 32, 3) := by decide +kernel
theorem dX7_reach_24 : decode cX7_reach 24 = .ok (.return_, 1) := by decide +kernel
theorem dX7_top_0 : decode cX7_top 0 = .ok (.aload_n 0, 1) := by decide +kernel
theorem dX7_top_1 : decode cX7_top 1 = .ok (.getfield 15, 3) := by decide +kernel
theorem dX7_top_4 : decode cX7_top 4 = .ok (.iload_n 1, 1) := by decide +kernel
theorem dX7_top_5 : decode cX7_top 5 = .ok (.invokestatic 41, 3) := by decide +kernel
theorem dX7_top_8 : decode cX7_top 8 = .ok (.ireturn, 1) := by decide +kernel
theorem dX7_number_0 : decode cX7_number 0 = .ok (.aload_n 0, 1) := by decide +kernel
theorem dX7_number_1 : decode cX7_number 1 = .ok (.iload_n 1, 1) := by decide +kernel
theorem dX7_number_2 : decode cX7_number 2 = .ok (.invokevirtual 56, 3) := by decide +kernel
theorem dX7_number_5 : decode cX7_number 5 = .ok (.istore_n 3, 1) := by decide +kernel
theorem dX7_number_6 : decode cX7_number 6 = .ok (.iload_n 2, 1) := by decide +kernel
theorem dX7_number_7 : decode cX7_number 7 = .ok (.ifCond .ne 7, 3) := by decide +kernel
theorem dX7_number_10 : decode cX7_number 10 = .ok (.iload_n 3, 1) := by decide +kernel
theorem dX7_number_11 : decode cX7_number 11 = .ok (.goto 23, 3) := by decide +kernel
theorem dX7_number_14 : decode cX7_number 14 = .ok (.iload_n 2, 1) := by decide +kernel
theorem dX7_number_15 : decode cX7_number 15 = .ok (.iconst 1, 1) := by decide +kernel
theorem dX7_number_16 : decode cX7_number 16 = .ok (.if_icmp .ne 10, 3) := by decide +kernel
theorem dX7_number_19 : decode cX7_number 19 = .ok (.aload_n 0, 1) := by decide +kernel
theorem dX7_number_20 : decode cX7_number 20 = .ok (.getfield 22, 3) := by decide +kernel
theorem dX7_number_23 : decode cX7_number 23 = .ok (.goto 7, 3) := by decide +kernel
theorem dX7_number_26 : decode cX7_number 26 = .ok (.aload_n 0, 1) := by decide +kernel
theorem dX7_number_27 : decode cX7_number 27 = .ok (.getfield 19, 3) := by decide +kernel
theorem dX7_number_30 : decode cX7_number 30 = .ok (.iload_n 3, 1) := by decide +kernel
theorem dX7_number_31 : decode cX7_number 31 = .ok (.invokestatic 41, 3) := by decide +kernel
theorem dX7_number_34 : decode cX7_number 34 = .ok (.ireturn, 1) := by decide +kernel
theorem dX7_parts_0 : decode cX7_parts 0 = .ok (.iconst 0, 1) := by decide +kernel
theorem dX7_parts_1 : decode cX7_parts 1 = .ok (.istore_n 1, 1) := by decide +kernel
theorem dX7_parts_2 : decode cX7_parts 2 = .ok (.iconst 0, 1) := by decide +kernel
theorem dX7_parts_3 : decode cX7_parts 3 = .ok (.istore_n 2, 1) := by decide +kernel
theorem dX7_parts_4 : decode cX7_parts 4 = .ok (.iload_n 2, 1) := by decide +kernel
theorem dX7_parts_5 : decode cX7_parts 5 = .ok (.aload_n 0, 1) := by decide +kernel
theorem dX7_parts_6 : decode cX7_parts 6 = .ok (.getfield 9, 3) := by decide +kernel
theorem dX7_parts_9 : decode cX7_parts 9 = .ok (.getfield 36, 3) := by decide +kernel
theorem dX7_parts_12 : decode cX7_parts 12 = .ok (.if_icmp .ge 21, 3) := by decide +kernel
theorem dX7_parts_15 : decode cX7_parts 15 = .ok (.aload_n 0, 1) := by decide +kernel
theorem dX7_parts_16 : decode cX7_parts 16 = .ok (.iload_n 2, 1) := by decide +kernel
theorem dX7_parts_17 : decode cX7_parts 17 = .ok (.invokevirtual 56, 3) := by decide +kernel
theorem dX7_parts_20 : decode cX7_parts 20 = .ok (.iload_n 2, 1) := by decide +kernel
theorem dX7_parts_21 : decode cX7_parts 21 = .ok (.if_icmp .ne 6, 3) := by decide +kernel
theorem dX7_parts_24 : decode cX7_parts 24 = .ok (.iinc 1 1, 3) := by decide +kernel
theorem dX7_parts_27 : decode cX7_parts 27 = .ok (.iinc 2 1, 3) := by decide +kernel
theorem dX7_parts_30 : decode cX7_parts 30 = .ok (.goto (-26), 3) := by decide +kernel
theorem dX7_parts_33 : decode cX7_parts 33 = .ok (.iload_n 1, 1) := by decide +kernel
theorem dX7_parts_34 : decode cX7_parts 34 = .ok (.ireturn, 1) := by decide +kernel
theorem dX7_largestPart_0 : decode cX7_largestPart 0 = .ok (.iconst (-1), 1) := by decide +kernel
theorem dX7_largestPart_1 : decode cX7_largestPart 1 = .ok (.istore_n 1, 1) := by decide +kernel
theorem dX7_largestPart_2 : decode cX7_largestPart 2 = .ok (.iconst 0, 1) := by decide +kernel
theorem dX7_largestPart_3 : decode cX7_largestPart 3 = .ok (.istore_n 2, 1) := by decide +kernel
theorem dX7_largestPart_4 : decode cX7_largestPart 4 = .ok (.iconst 0, 1) := by decide +kernel
theorem dX7_largestPart_5 : decode cX7_largestPart 5 = .ok (.istore_n 3, 1) := by decide +kernel
theorem dX7_largestPart_6 : decode cX7_largestPart 6 = .ok (.iload_n 3, 1) := by decide +kernel
theorem dX7_largestPart_7 : decode cX7_largestPart 7 = .ok (.aload_n 0, 1) := by decide +kernel
theorem dX7_largestPart_8 : decode cX7_largestPart 8 = .ok (.getfield 9, 3) := by decide +kernel
theorem dX7_largestPart_11 : decode cX7_largestPart 11 = .ok (.getfield 36, 3) := by decide +kernel
theorem dX7_largestPart_14 : decode cX7_largestPart 14 = .ok (.if_icmp .ge 41, 3) := by decide +kernel
theorem dX7_largestPart_17 : decode cX7_largestPart 17 = .ok (.aload_n 0, 1) := by decide +kernel
theorem dX7_largestPart_18 : decode cX7_largestPart 18 = .ok (.iload_n 3, 1) := by decide +kernel
theorem dX7_largestPart_19 : decode cX7_largestPart 19 = .ok (.invokevirtual 56, 3) := by decide +kernel
theorem dX7_largestPart_22 : decode cX7_largestPart 22 = .ok (.iload_n 3, 1) := by decide +kernel
theorem dX7_largestPart_23 : decode cX7_largestPart 23 = .ok (.if_icmp .ne 26, 3) := by decide +kernel
theorem dX7_largestPart_26 : decode cX7_largestPart 26 = .ok (.aload_n 0, 1) := by decide +kernel
theorem dX7_largestPart_27 : decode cX7_largestPart 27 = .ok (.getfield 22, 3) := by decide +kernel
theorem dX7_largestPart_30 : decode cX7_largestPart 30 = .ok (.iload_n 3, 1) := by decide +kernel
theorem dX7_largestPart_31 : decode cX7_largestPart 31 = .ok (.invokestatic 41, 3) := by decide +kernel
theorem dX7_largestPart_34 : decode cX7_largestPart 34 = .ok (.iload_n 2, 1) := by decide +kernel
theorem dX7_largestPart_35 : decode cX7_largestPart 35 = .ok (.if_icmp .le 14, 3) := by decide +kernel
theorem dX7_largestPart_38 : decode cX7_largestPart 38 = .ok (.iload_n 3, 1) := by decide +kernel
theorem dX7_largestPart_39 : decode cX7_largestPart 39 = .ok (.istore_n 1, 1) := by decide +kernel
theorem dX7_largestPart_40 : decode cX7_largestPart 40 = .ok (.aload_n 0, 1) := by decide +kernel
theorem dX7_largestPart_41 : decode cX7_largestPart 41 = .ok (.getfield 22, 3) := by decide +kernel
theorem dX7_largestPart_44 : decode cX7_largestPart 44 = .ok (.iload_n 3, 1) := by decide +kernel
theorem dX7_largestPart_45 : decode cX7_largestPart 45 = .ok (.invokestatic 41, 3) := by decide +kernel
theorem dX7_largestPart_48 : decode cX7_largestPart 48 = .ok (.istore_n 2, 1) := by decide +kernel
theorem dX7_largestPart_49 : decode cX7_largestPart 49 = .ok (.iinc 3 1, 3) := by decide +kernel
theorem dX7_largestPart_52 : decode cX7_largestPart 52 = .ok (.goto (-46), 3) := by decide +kernel
theorem dX7_largestPart_55 : decode cX7_largestPart 55 = .ok (.iload_n 1, 1) := by decide +kernel
theorem dX7_largestPart_56 : decode cX7_largestPart 56 = .ok (.ireturn, 1) := by decide +kernel
theorem dX7_joined_0 : decode cX7_joined 0 = .ok (.iconst 0, 1) := by decide +kernel
theorem dX7_joined_1 : decode cX7_joined 1 = .ok (.istore_n 1, 1) := by decide +kernel
theorem dX7_joined_2 : decode cX7_joined 2 = .ok (.iload_n 1, 1) := by decide +kernel
theorem dX7_joined_3 : decode cX7_joined 3 = .ok (.aload_n 0, 1) := by decide +kernel
theorem dX7_joined_4 : decode cX7_joined 4 = .ok (.getfield 9, 3) := by decide +kernel
theorem dX7_joined_7 : decode cX7_joined 7 = .ok (.getfield 36, 3) := by decide +kernel
theorem dX7_joined_10 : decode cX7_joined 10 = .ok (.if_icmp .ge 32, 3) := by decide +kernel
theorem dX7_joined_13 : decode cX7_joined 13 = .ok (.aload_n 0, 1) := by decide +kernel
theorem dX7_joined_14 : decode cX7_joined 14 = .ok (.iload_n 1, 1) := by decide +kernel
theorem dX7_joined_15 : decode cX7_joined 15 = .ok (.invokevirtual 56, 3) := by decide +kernel
theorem dX7_joined_18 : decode cX7_joined 18 = .ok (.iload_n 1, 1) := by decide +kernel
theorem dX7_joined_19 : decode cX7_joined 19 = .ok (.if_icmp .ne 17, 3) := by decide +kernel
theorem dX7_joined_22 : decode cX7_joined 22 = .ok (.aload_n 0, 1) := by decide +kernel
theorem dX7_joined_23 : decode cX7_joined 23 = .ok (.getfield 19, 3) := by decide +kernel
theorem dX7_joined_26 : decode cX7_joined 26 = .ok (.iload_n 1, 1) := by decide +kernel
theorem dX7_joined_27 : decode cX7_joined 27 = .ok (.invokestatic 41, 3) := by decide +kernel
theorem dX7_joined_30 : decode cX7_joined 30 = .ok (.iconst 3, 1) := by decide +kernel
theorem dX7_joined_31 : decode cX7_joined 31 = .ok (.if_icmp .ne 5, 3) := by decide +kernel
theorem dX7_joined_34 : decode cX7_joined 34 = .ok (.iconst 1, 1) := by decide +kernel
theorem dX7_joined_35 : decode cX7_joined 35 = .ok (.ireturn, 1) := by decide +kernel
theorem dX7_joined_36 : decode cX7_joined 36 = .ok (.iinc 1 1, 3) := by decide +kernel
theorem dX7_joined_39 : decode cX7_joined 39 = .ok (.goto (-37), 3) := by decide +kernel
theorem dX7_joined_42 : decode cX7_joined 42 = .ok (.iconst 0, 1) := by decide +kernel
theorem dX7_joined_43 : decode cX7_joined 43 = .ok (.ireturn, 1) := by decide +kernel
theorem dX7_joinsBy_0 : decode cX7_joinsBy 0 = .ok (.aload_n 0, 1) := by decide +kernel
theorem dX7_joinsBy_1 : decode cX7_joinsBy 1 = .ok (.getfield 9, 3) := by decide +kernel
theorem dX7_joinsBy_4 : decode cX7_joinsBy 4 = .ok (.iload_n 1, 1) := by decide +kernel
theorem dX7_joinsBy_5 : decode cX7_joinsBy 5 = .ok (.aload_n 0, 1) := by decide +kernel
theorem dX7_joinsBy_6 : decode cX7_joinsBy 6 = .ok (.getfield 28, 3) := by decide +kernel
theorem dX7_joinsBy_9 : decode cX7_joinsBy 9 = .ok (.invokevirtual 49, 3) := by decide +kernel
theorem dX7_joinsBy_12 : decode cX7_joinsBy 12 = .ok (.istore_n 2, 1) := by decide +kernel
theorem dX7_joinsBy_13 : decode cX7_joinsBy 13 = .ok (.iconst 0, 1) := by decide +kernel
theorem dX7_joinsBy_14 : decode cX7_joinsBy 14 = .ok (.istore_n 3, 1) := by decide +kernel
theorem dX7_joinsBy_15 : decode cX7_joinsBy 15 = .ok (.iload_n 3, 1) := by decide +kernel
theorem dX7_joinsBy_16 : decode cX7_joinsBy 16 = .ok (.bipush 6, 2) := by decide +kernel
theorem dX7_joinsBy_18 : decode cX7_joinsBy 18 = .ok (.if_icmp .ge 42, 3) := by decide +kernel
theorem dX7_joinsBy_21 : decode cX7_joinsBy 21 = .ok (.aload_n 0, 1) := by decide +kernel
theorem dX7_joinsBy_22 : decode cX7_joinsBy 22 = .ok (.aload_n 0, 1) := by decide +kernel
theorem dX7_joinsBy_23 : decode cX7_joinsBy 23 = .ok (.getfield 9, 3) := by decide +kernel
theorem dX7_joinsBy_26 : decode cX7_joinsBy 26 = .ok (.iload_n 1, 1) := by decide +kernel
theorem dX7_joinsBy_27 : decode cX7_joinsBy 27 = .ok (.iload_n 3, 1) := by decide +kernel
theorem dX7_joinsBy_28 : decode cX7_joinsBy 28 = .ok (.invokevirtual 53, 3) := by decide +kernel
theorem dX7_joinsBy_31 : decode cX7_joinsBy 31 = .ok (.invokevirtual 56, 3) := by decide +kernel
theorem dX7_joinsBy_34 : decode cX7_joinsBy 34 = .ok (.istore 4, 2) := by decide +kernel
theorem dX7_joinsBy_36 : decode cX7_joinsBy 36 = .ok (.iload 4, 2) := by decide +kernel
theorem dX7_joinsBy_38 : decode cX7_joinsBy 38 = .ok (.iconst (-1), 1) := by decide +kernel
theorem dX7_joinsBy_39 : decode cX7_joinsBy 39 = .ok (.if_icmp .eq 15, 3) := by decide +kernel
theorem dX7_joinsBy_42 : decode cX7_joinsBy 42 = .ok (.iload_n 2, 1) := by decide +kernel
theorem dX7_joinsBy_43 : decode cX7_joinsBy 43 = .ok (.aload_n 0, 1) := by decide +kernel
theorem dX7_joinsBy_44 : decode cX7_joinsBy 44 = .ok (.getfield 19, 3) := by decide +kernel
theorem dX7_joinsBy_47 : decode cX7_joinsBy 47 = .ok (.iload 4, 2) := by decide +kernel
theorem dX7_joinsBy_49 : decode cX7_joinsBy 49 = .ok (.invokestatic 41, 3) := by decide +kernel
theorem dX7_joinsBy_52 : decode cX7_joinsBy 52 = .ok (.ior, 1) := by decide +kernel
theorem dX7_joinsBy_53 : decode cX7_joinsBy 53 = .ok (.istore_n 2, 1) := by decide +kernel
theorem dX7_joinsBy_54 : decode cX7_joinsBy 54 = .ok (.iinc 3 1, 3) := by decide +kernel
theorem dX7_joinsBy_57 : decode cX7_joinsBy 57 = .ok (.goto (-42), 3) := by decide +kernel
theorem dX7_joinsBy_60 : decode cX7_joinsBy 60 = .ok (.iload_n 2, 1) := by decide +kernel
theorem dX7_joinsBy_61 : decode cX7_joinsBy 61 = .ok (.iconst 3, 1) := by decide +kernel
theorem dX7_joinsBy_62 : decode cX7_joinsBy 62 = .ok (.if_icmp .ne 7, 3) := by decide +kernel
theorem dX7_joinsBy_65 : decode cX7_joinsBy 65 = .ok (.iconst 1, 1) := by decide +kernel
theorem dX7_joinsBy_66 : decode cX7_joinsBy 66 = .ok (.goto 4, 3) := by decide +kernel
theorem dX7_joinsBy_69 : decode cX7_joinsBy 69 = .ok (.iconst 0, 1) := by decide +kernel
theorem dX7_joinsBy_70 : decode cX7_joinsBy 70 = .ok (.ireturn, 1) := by decide +kernel
theorem dX7_isBeside_0 : decode cX7_isBeside 0 = .ok (.iconst 0, 1) := by decide +kernel
theorem dX7_isBeside_1 : decode cX7_isBeside 1 = .ok (.istore_n 3, 1) := by decide +kernel
theorem dX7_isBeside_2 : decode cX7_isBeside 2 = .ok (.iload_n 3, 1) := by decide +kernel
theorem dX7_isBeside_3 : decode cX7_isBeside 3 = .ok (.bipush 6, 2) := by decide +kernel
theorem dX7_isBeside_5 : decode cX7_isBeside 5 = .ok (.if_icmp .ge 33, 3) := by decide +kernel
theorem dX7_isBeside_8 : decode cX7_isBeside 8 = .ok (.iload_n 2, 1) := by decide +kernel
theorem dX7_isBeside_9 : decode cX7_isBeside 9 = .ok (.iconst (-1), 1) := by decide +kernel
theorem dX7_isBeside_10 : decode cX7_isBeside 10 = .ok (.if_icmp .eq 22, 3) := by decide +kernel
theorem dX7_isBeside_13 : decode cX7_isBeside 13 = .ok (.aload_n 0, 1) := by decide +kernel
theorem dX7_isBeside_14 : decode cX7_isBeside 14 = .ok (.aload_n 0, 1) := by decide +kernel
theorem dX7_isBeside_15 : decode cX7_isBeside 15 = .ok (.getfield 9, 3) := by decide +kernel
theorem dX7_isBeside_18 : decode cX7_isBeside 18 = .ok (.iload_n 1, 1) := by decide +kernel
theorem dX7_isBeside_19 : decode cX7_isBeside 19 = .ok (.iload_n 3, 1) := by decide +kernel
theorem dX7_isBeside_20 : decode cX7_isBeside 20 = .ok (.invokevirtual 53, 3) := by decide +kernel
theorem dX7_isBeside_23 : decode cX7_isBeside 23 = .ok (.invokevirtual 56, 3) := by decide +kernel
theorem dX7_isBeside_26 : decode cX7_isBeside 26 = .ok (.iload_n 2, 1) := by decide +kernel
theorem dX7_isBeside_27 : decode cX7_isBeside 27 = .ok (.if_icmp .ne 5, 3) := by decide +kernel
theorem dX7_isBeside_30 : decode cX7_isBeside 30 = .ok (.iconst 1, 1) := by decide +kernel
theorem dX7_isBeside_31 : decode cX7_isBeside 31 = .ok (.ireturn, 1) := by decide +kernel
theorem dX7_isBeside_32 : decode cX7_isBeside 32 = .ok (.iinc 3 1, 3) := by decide +kernel
theorem dX7_isBeside_35 : decode cX7_isBeside 35 = .ok (.goto (-33), 3) := by decide +kernel
theorem dX7_isBeside_38 : decode cX7_isBeside 38 = .ok (.iconst 0, 1) := by decide +kernel
theorem dX7_isBeside_39 : decode cX7_isBeside 39 = .ok (.ireturn, 1) := by decide +kernel
theorem dX8_init_0 : decode cX8_init 0 = .ok (.aload_n 0, 1) := by decide +kernel
theorem dX8_init_1 : decode cX8_init 1 = .ok (.invokespecial 3, 3) := by decide +kernel
theorem dX8_init_4 : decode cX8_init 4 = .ok (.aload_n 0, 1) := by decide +kernel
theorem dX8_init_5 : decode cX8_init 5 = .ok (.aload_n 1, 1) := by decide +kernel
theorem dX8_init_6 : decode cX8_init 6 = .ok (.putfield 9, 3) := by decide +kernel
theorem dX8_init_9 : decode cX8_init 9 = .ok (.aload_n 0, 1) := by decide +kernel
theorem dX8_init_10 : decode cX8_init 10 = .ok (.bipush 81, 2) := by decide +kernel
theorem dX8_init_12 : decode cX8_init 12 = .ok (.newarray .int, 2) := by decide +kernel
theorem dX8_init_14 : decode cX8_init 14 = .ok (.putfield 15, 3) := by decide +kernel
theorem dX8_init_17 : decode cX8_init 17 = .ok (.aload_n 0, 1) := by decide +kernel
theorem dX8_init_18 : decode cX8_init 18 = .ok (.bipush 81, 2) := by decide +kernel
theorem dX8_init_20 : decode cX8_init 20 = .ok (.newarray .int, 2) := by decide +kernel
theorem dX8_init_22 : decode cX8_init 22 = .ok (.putfield 19, 3) := by decide +kernel
theorem dX8_init_25 : decode cX8_init 25 = .ok (.aload_n 0, 1) := by decide +kernel
theorem dX8_init_26 : decode cX8_init 26 = .ok (.bipush 81, 2) := by decide +kernel
theorem dX8_init_28 : decode cX8_init 28 = .ok (.newarray .int, 2) := by decide +kernel
theorem dX8_init_30 : decode cX8_init 30 = .ok (.putfield 22, 3) := by decide +kernel
theorem dX8_init_33 : decode cX8_init 33 = .ok (.return_, 1) := by decide +kernel
theorem dX8_find_0 : decode cX8_find 0 = .ok (.iconst 0, 1) := by decide +kernel
theorem dX8_find_1 : decode cX8_find 1 = .ok (.istore_n 3, 1) := by decide +kernel
theorem dX8_find_2 : decode cX8_find 2 = .ok (.iload_n 3, 1) := by decide +kernel
theorem dX8_find_3 : decode cX8_find 3 = .ok (.aload_n 0, 1) := by decide +kernel
theorem dX8_find_4 : decode cX8_find 4 = .ok (.getfield 9, 3) := by decide +kernel
theorem dX8_find_7 : decode cX8_find 7 = .ok (.getfield 25, 3) := by decide +kernel
theorem dX8_find_10 : decode cX8_find 10 = .ok (.if_icmp .ge 45, 3) := by decide +kernel
theorem dX8_find_13 : decode cX8_find 13 = .ok (.aload_n 1, 1) := by decide +kernel
theorem dX8_find_14 : decode cX8_find 14 = .ok (.iload_n 3, 1) := by decide +kernel
theorem dX8_find_15 : decode cX8_find 15 = .ok (.invokestatic 31, 3) := by decide +kernel
theorem dX8_find_18 : decode cX8_find 18 = .ok (.istore 4, 2) := by decide +kernel
theorem dX8_find_20 : decode cX8_find 20 = .ok (.aload_n 0, 1) := by decide +kernel
theorem dX8_find_21 : decode cX8_find 21 = .ok (.getfield 15, 3) := by decide +kernel
theorem dX8_find_24 : decode cX8_find 24 = .ok (.iload_n 3, 1) := by decide +kernel
theorem dX8_find_25 : decode cX8_find 25 = .ok (.iload 4, 2) := by decide +kernel
theorem dX8_find_27 : decode cX8_find 27 = .ok (.iconst (-1), 1) := by decide +kernel
theorem dX8_find_28 : decode cX8_find 28 = .ok (.if_icmp .ne 7, 3) := by decide +kernel
theorem dX8_find_31 : decode cX8_find 31 = .ok (.iconst 1, 1) := by decide +kernel
theorem dX8_find_32 : decode cX8_find 32 = .ok (.goto 14, 3) := by decide +kernel
theorem dX8_find_35 : decode cX8_find 35 = .ok (.iload 4, 2) := by decide +kernel
theorem dX8_find_37 : decode cX8_find 37 = .ok (.iload_n 2, 1) := by decide +kernel
theorem dX8_find_38 : decode cX8_find 38 = .ok (.if_icmp .ne 7, 3) := by decide +kernel
theorem dX8_find_41 : decode cX8_find 41 = .ok (.iconst 0, 1) := by decide +kernel
theorem dX8_find_42 : decode cX8_find 42 = .ok (.goto 4, 3) := by decide +kernel
theorem dX8_find_45 : decode cX8_find 45 = .ok (.iconst (-1), 1) := by decide +kernel
theorem dX8_find_46 : decode cX8_find 46 = .ok (.invokestatic 35, 3) := by decide +kernel
theorem dX8_find_49 : decode cX8_find 49 = .ok (.iinc 3 1, 3) := by decide +kernel
theorem dX8_find_52 : decode cX8_find 52 = .ok (.goto (-50), 3) := by decide +kernel
theorem dX8_find_55 : decode cX8_find 55 = .ok (.aload_n 0, 1) := by decide +kernel
theorem dX8_find_56 : decode cX8_find 56 = .ok (.aload_n 0, 1) := by decide +kernel
theorem dX8_find_57 : decode cX8_find 57 = .ok (.getfield 19, 3) := by decide +kernel
theorem dX8_find_60 : decode cX8_find 60 = .ok (.iload_n 2, 1) := by decide +kernel
theorem dX8_find_61 : decode cX8_find 61 = .ok (.iconst 1, 1) := by decide +kernel
theorem dX8_find_62 : decode cX8_find 62 = .ok (.invokevirtual 39, 3) := by decide +kernel
theorem dX8_find_65 : decode cX8_find 65 = .ok (.aload_n 0, 1) := by decide +kernel
theorem dX8_find_66 : decode cX8_find 66 = .ok (.aload_n 0, 1) := by decide +kernel
theorem dX8_find_67 : decode cX8_find 67 = .ok (.getfield 22, 3) := by decide +kernel
theorem dX8_find_70 : decode cX8_find 70 = .ok (.iload_n 2, 1) := by decide +kernel
theorem dX8_find_71 : decode cX8_find 71 = .ok (.iconst 2, 1) := by decide +kernel
theorem dX8_find_72 : decode cX8_find 72 = .ok (.invokevirtual 39, 3) := by decide +kernel
theorem dX8_find_75 : decode cX8_find 75 = .ok (.return_, 1) := by decide +kernel
theorem dX8_spread_0 : decode cX8_spread 0 = .ok (.iconst 0, 1) := by decide +kernel
theorem dX8_spread_1 : decode cX8_spread 1 = .ok (.istore 4, 2) := by decide +kernel
theorem dX8_spread_3 : decode cX8_spread 3 = .ok (.iload 4, 2) := by decide +kernel
theorem dX8_spread_5 : decode cX8_spread 5 = .ok (.aload_n 0, 1) := by decide +kernel
theorem dX8_spread_6 : decode cX8_spread 6 = .ok (.getfield 9, 3) := by decide +kernel
theorem dX8_spread_9 : decode cX8_spread 9 = .ok (.getfield 25, 3) := by decide +kernel
theorem dX8_spread_12 : decode cX8_spread 12 = .ok (.if_icmp .ge 55, 3) := by decide +kernel
theorem dX8_spread_15 : decode cX8_spread 15 = .ok (.aload_n 0, 1) := by decide +kernel
theorem dX8_spread_16 : decode cX8_spread 16 = .ok (.getfield 9, 3) := by decide +kernel
theorem dX8_spread_19 : decode cX8_spread 19 = .ok (.iload 4, 2) := by decide +kernel
theorem dX8_spread_21 : decode cX8_spread 21 = .ok (.iload_n 2, 1) := by decide +kernel
theorem dX8_spread_22 : decode cX8_spread 22 = .ok (.invokevirtual 42, 3) := by decide +kernel
theorem dX8_spread_25 : decode cX8_spread 25 = .ok (.iload_n 3, 1) := by decide +kernel
theorem dX8_spread_26 : decode cX8_spread 26 = .ok (.iand, 1) := by decide +kernel
theorem dX8_spread_27 : decode cX8_spread 27 = .ok (.ifCond .eq 7, 3) := by decide +kernel
theorem dX8_spread_30 : decode cX8_spread 30 = .ok (.iconst 1, 1) := by decide +kernel
theorem dX8_spread_31 : decode cX8_spread 31 = .ok (.goto 4, 3) := by decide +kernel
theorem dX8_spread_34 : decode cX8_spread 34 = .ok (.iconst 0, 1) := by decide +kernel
theorem dX8_spread_35 : decode cX8_spread 35 = .ok (.istore 5, 2) := by decide +kernel
theorem dX8_spread_37 : decode cX8_spread 37 = .ok (.aload_n 1, 1) := by decide +kernel
theorem dX8_spread_38 : decode cX8_spread 38 = .ok (.iload 4, 2) := by decide +kernel
theorem dX8_spread_40 : decode cX8_spread 40 = .ok (.iload 5, 2) := by decide +kernel
theorem dX8_spread_42 : decode cX8_spread 42 = .ok (.ifCond .eq 15, 3) := by decide +kernel
theorem dX8_spread_45 : decode cX8_spread 45 = .ok (.aload_n 0, 1) := by decide +kernel
theorem dX8_spread_46 : decode cX8_spread 46 = .ok (.getfield 15, 3) := by decide +kernel
theorem dX8_spread_49 : decode cX8_spread 49 = .ok (.iload 4, 2) := by decide +kernel
theorem dX8_spread_51 : decode cX8_spread 51 = .ok (.invokestatic 31, 3) := by decide +kernel
theorem dX8_spread_54 : decode cX8_spread 54 = .ok (.goto 4, 3) := by decide +kernel
theorem dX8_spread_57 : decode cX8_spread 57 = .ok (.iconst (-1), 1) := by decide +kernel
theorem dX8_spread_58 : decode cX8_spread 58 = .ok (.invokestatic 35, 3) := by decide +kernel
theorem dX8_spread_61 : decode cX8_spread 61 = .ok (.iinc 4 1, 3) := by decide +kernel
theorem dX8_spread_64 : decode cX8_spread 64 = .ok (.goto (-61), 3) := by decide +kernel
theorem dX8_spread_67 : decode cX8_spread 67 = .ok (.iconst 1, 1) := by decide +kernel
theorem dX8_spread_68 : decode cX8_spread 68 = .ok (.istore 4, 2) := by decide +kernel
theorem dX8_spread_70 : decode cX8_spread 70 = .ok (.iconst 0, 1) := by decide +kernel
theorem dX8_spread_71 : decode cX8_spread 71 = .ok (.istore 5, 2) := by decide +kernel
theorem dX8_spread_73 : decode cX8_spread 73 = .ok (.iload 5, 2) := by decide +kernel
theorem dX8_spread_75 : decode cX8_spread 75 = .ok (.bipush 81, 2) := by decide +kernel
theorem dX8_spread_77 : decode cX8_spread 77 = .ok (.if_icmp .ge 50, 3) := by decide +kernel
theorem dX8_spread_80 : decode cX8_spread 80 = .ok (.iload 4, 2) := by decide +kernel
theorem dX8_spread_82 : decode cX8_spread 82 = .ok (.ifCond .eq 45, 3) := by decide +kernel
theorem dX8_spread_85 : decode cX8_spread 85 = .ok (.iconst 0, 1) := by decide +kernel
theorem dX8_spread_86 : decode cX8_spread 86 = .ok (.istore 4, 2) := by decide +kernel
theorem dX8_spread_88 : decode cX8_spread 88 = .ok (.iconst 0, 1) := by decide +kernel
theorem dX8_spread_89 : decode cX8_spread 89 = .ok (.istore 6, 2) := by decide +kernel
theorem dX8_spread_91 : decode cX8_spread 91 = .ok (.iload 6, 2) := by decide +kernel
theorem dX8_spread_93 : decode cX8_spread 93 = .ok (.aload_n 0, 1) := by decide +kernel
theorem dX8_spread_94 : decode cX8_spread 94 = .ok (.getfield 9, 3) := by decide +kernel
theorem dX8_spread_97 : decode cX8_spread 97 = .ok (.getfield 25, 3) := by decide +kernel
theorem dX8_spread_100 : decode cX8_spread 100 = .ok (.if_icmp .ge 21, 3) := by decide +kernel
theorem dX8_spread_103 : decode cX8_spread 103 = .ok (.iload 4, 2) := by decide +kernel
theorem dX8_spread_105 : decode cX8_spread 105 = .ok (.aload_n 0, 1) := by decide +kernel
theorem dX8_spread_106 : decode cX8_spread 106 = .ok (.aload_n 1, 1) := by decide +kernel
theorem dX8_spread_107 : decode cX8_spread 107 = .ok (.iload 6, 2) := by decide +kernel
theorem dX8_spread_109 : decode cX8_spread 109 = .ok (.invokevirtual 46, 3) := by decide +kernel
theorem dX8_spread_112 : decode cX8_spread 112 = .ok (.ior, 1) := by decide +kernel
theorem dX8_spread_113 : decode cX8_spread 113 = .ok (.istore 4, 2) := by decide +kernel
theorem dX8_spread_115 : decode cX8_spread 115 = .ok (.iinc 6 1, 3) := by decide +kernel
theorem dX8_spread_118 : decode cX8_spread 118 = .ok (.goto (-27), 3) := by decide +kernel
theorem dX8_spread_121 : decode cX8_spread 121 = .ok (.iinc 5 1, 3) := by decide +kernel
theorem dX8_spread_124 : decode cX8_spread 124 = .ok (.goto (-51), 3) := by decide +kernel
theorem dX8_spread_127 : decode cX8_spread 127 = .ok (.return_, 1) := by decide +kernel
theorem dX8_lower_0 : decode cX8_lower 0 = .ok (.aload_n 0, 1) := by decide +kernel
theorem dX8_lower_1 : decode cX8_lower 1 = .ok (.getfield 15, 3) := by decide +kernel
theorem dX8_lower_4 : decode cX8_lower 4 = .ok (.iload_n 2, 1) := by decide +kernel
theorem dX8_lower_5 : decode cX8_lower 5 = .ok (.invokestatic 31, 3) := by decide +kernel
theorem dX8_lower_8 : decode cX8_lower 8 = .ok (.istore_n 3, 1) := by decide +kernel
theorem dX8_lower_9 : decode cX8_lower 9 = .ok (.aload_n 1, 1) := by decide +kernel
theorem dX8_lower_10 : decode cX8_lower 10 = .ok (.iload_n 2, 1) := by decide +kernel
theorem dX8_lower_11 : decode cX8_lower 11 = .ok (.invokestatic 31, 3) := by decide +kernel
theorem dX8_lower_14 : decode cX8_lower 14 = .ok (.istore 4, 2) := by decide +kernel
theorem dX8_lower_16 : decode cX8_lower 16 = .ok (.iload_n 3, 1) := by decide +kernel
theorem dX8_lower_17 : decode cX8_lower 17 = .ok (.iconst (-1), 1) := by decide +kernel
theorem dX8_lower_18 : decode cX8_lower 18 = .ok (.if_icmp .ne 5, 3) := by decide +kernel
theorem dX8_lower_21 : decode cX8_lower 21 = .ok (.iconst 0, 1) := by decide +kernel
theorem dX8_lower_22 : decode cX8_lower 22 = .ok (.ireturn, 1) := by decide +kernel
theorem dX8_lower_23 : decode cX8_lower 23 = .ok (.iconst 0, 1) := by decide +kernel
theorem dX8_lower_24 : decode cX8_lower 24 = .ok (.istore 5, 2) := by decide +kernel
theorem dX8_lower_26 : decode cX8_lower 26 = .ok (.iload 5, 2) := by decide +kernel
theorem dX8_lower_28 : decode cX8_lower 28 = .ok (.bipush 6, 2) := by decide +kernel
theorem dX8_lower_30 : decode cX8_lower 30 = .ok (.if_icmp .ge 52, 3) := by decide +kernel
theorem dX8_lower_33 : decode cX8_lower 33 = .ok (.aload_n 1, 1) := by decide +kernel
theorem dX8_lower_34 : decode cX8_lower 34 = .ok (.aload_n 0, 1) := by decide +kernel
theorem dX8_lower_35 : decode cX8_lower 35 = .ok (.getfield 9, 3) := by decide +kernel
theorem dX8_lower_38 : decode cX8_lower 38 = .ok (.iload_n 2, 1) := by decide +kernel
theorem dX8_lower_39 : decode cX8_lower 39 = .ok (.iload 5, 2) := by decide +kernel
theorem dX8_lower_41 : decode cX8_lower 41 = .ok (.invokevirtual 50, 3) := by decide +kernel
theorem dX8_lower_44 : decode cX8_lower 44 = .ok (.invokestatic 31, 3) := by decide +kernel
theorem dX8_lower_47 : decode cX8_lower 47 = .ok (.istore 6, 2) := by decide +kernel
theorem dX8_lower_49 : decode cX8_lower 49 = .ok (.iload 6, 2) := by decide +kernel
theorem dX8_lower_51 : decode cX8_lower 51 = .ok (.iconst (-1), 1) := by decide +kernel
theorem dX8_lower_52 : decode cX8_lower 52 = .ok (.if_icmp .eq 24, 3) := by decide +kernel
theorem dX8_lower_55 : decode cX8_lower 55 = .ok (.iload 4, 2) := by decide +kernel
theorem dX8_lower_57 : decode cX8_lower 57 = .ok (.iconst (-1), 1) := by decide +kernel
theorem dX8_lower_58 : decode cX8_lower 58 = .ok (.if_icmp .eq 12, 3) := by decide +kernel
theorem dX8_lower_61 : decode cX8_lower 61 = .ok (.iload 6, 2) := by decide +kernel
theorem dX8_lower_63 : decode cX8_lower 63 = .ok (.iload_n 3, 1) := by decide +kernel
theorem dX8_lower_64 : decode cX8_lower 64 = .ok (.iadd, 1) := by decide +kernel
theorem dX8_lower_65 : decode cX8_lower 65 = .ok (.iload 4, 2) := by decide +kernel
theorem dX8_lower_67 : decode cX8_lower 67 = .ok (.if_icmp .ge 9, 3) := by decide +kernel
theorem dX8_lower_70 : decode cX8_lower 70 = .ok (.iload 6, 2) := by decide +kernel
theorem dX8_lower_72 : decode cX8_lower 72 = .ok (.iload_n 3, 1) := by decide +kernel
theorem dX8_lower_73 : decode cX8_lower 73 = .ok (.iadd, 1) := by decide +kernel
theorem dX8_lower_74 : decode cX8_lower 74 = .ok (.istore 4, 2) := by decide +kernel
theorem dX8_lower_76 : decode cX8_lower 76 = .ok (.iinc 5 1, 3) := by decide +kernel
theorem dX8_lower_79 : decode cX8_lower 79 = .ok (.goto (-53), 3) := by decide +kernel
theorem dX8_lower_82 : decode cX8_lower 82 = .ok (.iload 4, 2) := by decide +kernel
theorem dX8_lower_84 : decode cX8_lower 84 = .ok (.aload_n 1, 1) := by decide +kernel
theorem dX8_lower_85 : decode cX8_lower 85 = .ok (.iload_n 2, 1) := by decide +kernel
theorem dX8_lower_86 : decode cX8_lower 86 = .ok (.invokestatic 31, 3) := by decide +kernel
theorem dX8_lower_89 : decode cX8_lower 89 = .ok (.if_icmp .eq 7, 3) := by decide +kernel
theorem dX8_lower_92 : decode cX8_lower 92 = .ok (.iconst 1, 1) := by decide +kernel
theorem dX8_lower_93 : decode cX8_lower 93 = .ok (.goto 4, 3) := by decide +kernel
theorem dX8_lower_96 : decode cX8_lower 96 = .ok (.iconst 0, 1) := by decide +kernel
theorem dX8_lower_97 : decode cX8_lower 97 = .ok (.istore 5, 2) := by decide +kernel
theorem dX8_lower_99 : decode cX8_lower 99 = .ok (.aload_n 1, 1) := by decide +kernel
theorem dX8_lower_100 : decode cX8_lower 100 = .ok (.iload_n 2, 1) := by decide +kernel
theorem dX8_lower_101 : decode cX8_lower 101 = .ok (.iload 4, 2) := by decide +kernel
theorem dX8_lower_103 : decode cX8_lower 103 = .ok (.invokestatic 35, 3) := by decide +kernel
theorem dX8_lower_106 : decode cX8_lower 106 = .ok (.iload 5, 2) := by decide +kernel
theorem dX8_lower_108 : decode cX8_lower 108 = .ok (.ireturn, 1) := by decide +kernel
theorem dX8_cost_0 : decode cX8_cost 0 = .ok (.aload_n 0, 1) := by decide +kernel
theorem dX8_cost_1 : decode cX8_cost 1 = .ok (.getfield 19, 3) := by decide +kernel
theorem dX8_cost_4 : decode cX8_cost 4 = .ok (.iload_n 1, 1) := by decide +kernel
theorem dX8_cost_5 : decode cX8_cost 5 = .ok (.invokestatic 31, 3) := by decide +kernel
theorem dX8_cost_8 : decode cX8_cost 8 = .ok (.istore_n 2, 1) := by decide +kernel
theorem dX8_cost_9 : decode cX8_cost 9 = .ok (.aload_n 0, 1) := by decide +kernel
theorem dX8_cost_10 : decode cX8_cost 10 = .ok (.getfield 22, 3) := by decide +kernel
theorem dX8_cost_13 : decode cX8_cost 13 = .ok (.iload_n 1, 1) := by decide +kernel
theorem dX8_cost_14 : decode cX8_cost 14 = .ok (.invokestatic 31, 3) := by decide +kernel
theorem dX8_cost_17 : decode cX8_cost 17 = .ok (.istore_n 3, 1) := by decide +kernel
theorem dX8_cost_18 : decode cX8_cost 18 = .ok (.iload_n 2, 1) := by decide +kernel
theorem dX8_cost_19 : decode cX8_cost 19 = .ok (.iconst (-1), 1) := by decide +kernel
theorem dX8_cost_20 : decode cX8_cost 20 = .ok (.if_icmp .eq 8, 3) := by decide +kernel
theorem dX8_cost_23 : decode cX8_cost 23 = .ok (.iload_n 3, 1) := by decide +kernel
theorem dX8_cost_24 : decode cX8_cost 24 = .ok (.iconst (-1), 1) := by decide +kernel
theorem dX8_cost_25 : decode cX8_cost 25 = .ok (.if_icmp .ne 7, 3) := by decide +kernel
theorem dX8_cost_28 : decode cX8_cost 28 = .ok (.iconst (-1), 1) := by decide +kernel
theorem dX8_cost_29 : decode cX8_cost 29 = .ok (.goto 15, 3) := by decide +kernel
theorem dX8_cost_32 : decode cX8_cost 32 = .ok (.iload_n 2, 1) := by decide +kernel
theorem dX8_cost_33 : decode cX8_cost 33 = .ok (.iload_n 3, 1) := by decide +kernel
theorem dX8_cost_34 : decode cX8_cost 34 = .ok (.iadd, 1) := by decide +kernel
theorem dX8_cost_35 : decode cX8_cost 35 = .ok (.aload_n 0, 1) := by decide +kernel
theorem dX8_cost_36 : decode cX8_cost 36 = .ok (.getfield 15, 3) := by decide +kernel
theorem dX8_cost_39 : decode cX8_cost 39 = .ok (.iload_n 1, 1) := by decide +kernel
theorem dX8_cost_40 : decode cX8_cost 40 = .ok (.invokestatic 31, 3) := by decide +kernel
theorem dX8_cost_43 : decode cX8_cost 43 = .ok (.isub, 1) := by decide +kernel
theorem dX8_cost_44 : decode cX8_cost 44 = .ok (.ireturn, 1) := by decide +kernel
theorem dX8_least_0 : decode cX8_least 0 = .ok (.iconst (-1), 1) := by decide +kernel
theorem dX8_least_1 : decode cX8_least 1 = .ok (.istore_n 1, 1) := by decide +kernel
theorem dX8_least_2 : decode cX8_least 2 = .ok (.iconst 0, 1) := by decide +kernel
theorem dX8_least_3 : decode cX8_least 3 = .ok (.istore_n 2, 1) := by decide +kernel
theorem dX8_least_4 : decode cX8_least 4 = .ok (.iload_n 2, 1) := by decide +kernel
theorem dX8_least_5 : decode cX8_least 5 = .ok (.aload_n 0, 1) := by decide +kernel
theorem dX8_least_6 : decode cX8_least 6 = .ok (.getfield 9, 3) := by decide +kernel
theorem dX8_least_9 : decode cX8_least 9 = .ok (.getfield 25, 3) := by decide +kernel
theorem dX8_least_12 : decode cX8_least 12 = .ok (.if_icmp .ge 32, 3) := by decide +kernel
theorem dX8_least_15 : decode cX8_least 15 = .ok (.aload_n 0, 1) := by decide +kernel
theorem dX8_least_16 : decode cX8_least 16 = .ok (.iload_n 2, 1) := by decide +kernel
theorem dX8_least_17 : decode cX8_least 17 = .ok (.invokevirtual 53, 3) := by decide +kernel
theorem dX8_least_20 : decode cX8_least 20 = .ok (.istore_n 3, 1) := by decide +kernel
theorem dX8_least_21 : decode cX8_least 21 = .ok (.iload_n 3, 1) := by decide +kernel
theorem dX8_least_22 : decode cX8_least 22 = .ok (.iconst (-1), 1) := by decide +kernel
theorem dX8_least_23 : decode cX8_least 23 = .ok (.if_icmp .eq 15, 3) := by decide +kernel
theorem dX8_least_26 : decode cX8_least 26 = .ok (.iload_n 1, 1) := by decide +kernel
theorem dX8_least_27 : decode cX8_least 27 = .ok (.iconst (-1), 1) := by decide +kernel
theorem dX8_least_28 : decode cX8_least 28 = .ok (.if_icmp .eq 8, 3) := by decide +kernel
theorem dX8_least_31 : decode cX8_least 31 = .ok (.iload_n 3, 1) := by decide +kernel
theorem dX8_least_32 : decode cX8_least 32 = .ok (.iload_n 1, 1) := by decide +kernel
theorem dX8_least_33 : decode cX8_least 33 = .ok (.if_icmp .ge 5, 3) := by decide +kernel
theorem dX8_least_36 : decode cX8_least 36 = .ok (.iload_n 3, 1) := by decide +kernel
theorem dX8_least_37 : decode cX8_least 37 = .ok (.istore_n 1, 1) := by decide +kernel
theorem dX8_least_38 : decode cX8_least 38 = .ok (.iinc 2 1, 3) := by decide +kernel
theorem dX8_least_41 : decode cX8_least 41 = .ok (.goto (-37), 3) := by decide +kernel
theorem dX8_least_44 : decode cX8_least 44 = .ok (.iload_n 1, 1) := by decide +kernel
theorem dX8_least_45 : decode cX8_least 45 = .ok (.ireturn, 1) := by decide +kernel
theorem dX9_init_0 : decode cX9_init 0 = .ok (.aload_n 0, 1) := by decide +kernel
theorem dX9_init_1 : decode cX9_init 1 = .ok (.invokespecial 3, 3) := by decide +kernel
theorem dX9_init_4 : decode cX9_init 4 = .ok (.aload_n 0, 1) := by decide +kernel
theorem dX9_init_5 : decode cX9_init 5 = .ok (.bipush 81, 2) := by decide +kernel
theorem dX9_init_7 : decode cX9_init 7 = .ok (.newarray .int, 2) := by decide +kernel
theorem dX9_init_9 : decode cX9_init 9 = .ok (.putfield 9, 3) := by decide +kernel
theorem dX9_init_12 : decode cX9_init 12 = .ok (.aload_n 0, 1) := by decide +kernel
theorem dX9_init_13 : decode cX9_init 13 = .ok (.sipush 200, 3) := by decide +kernel
theorem dX9_init_16 : decode cX9_init 16 = .ok (.newarray .int, 2) := by decide +kernel
theorem dX9_init_18 : decode cX9_init 18 = .ok (.putfield 15, 3) := by decide +kernel
theorem dX9_init_21 : decode cX9_init 21 = .ok (.return_, 1) := by decide +kernel
theorem dX9_begin_0 : decode cX9_begin 0 = .ok (.aload_n 0, 1) := by decide +kernel
theorem dX9_begin_1 : decode cX9_begin 1 = .ok (.iload_n 1, 1) := by decide +kernel
theorem dX9_begin_2 : decode cX9_begin 2 = .ok (.putfield 18, 3) := by decide +kernel
theorem dX9_begin_5 : decode cX9_begin 5 = .ok (.aload_n 0, 1) := by decide +kernel
theorem dX9_begin_6 : decode cX9_begin 6 = .ok (.iconst 0, 1) := by decide +kernel
theorem dX9_begin_7 : decode cX9_begin 7 = .ok (.putfield 22, 3) := by decide +kernel
theorem dX9_begin_10 : decode cX9_begin 10 = .ok (.aload_n 0, 1) := by decide +kernel
theorem dX9_begin_11 : decode cX9_begin 11 = .ok (.iconst 0, 1) := by decide +kernel
theorem dX9_begin_12 : decode cX9_begin 12 = .ok (.putfield 26, 3) := by decide +kernel
theorem dX9_begin_15 : decode cX9_begin 15 = .ok (.aload_n 0, 1) := by decide +kernel
theorem dX9_begin_16 : decode cX9_begin 16 = .ok (.iconst 0, 1) := by decide +kernel
theorem dX9_begin_17 : decode cX9_begin 17 = .ok (.putfield 29, 3) := by decide +kernel
theorem dX9_begin_20 : decode cX9_begin 20 = .ok (.aload_n 0, 1) := by decide +kernel
theorem dX9_begin_21 : decode cX9_begin 21 = .ok (.iconst (-1), 1) := by decide +kernel
theorem dX9_begin_22 : decode cX9_begin 22 = .ok (.putfield 32, 3) := by decide +kernel
theorem dX9_begin_25 : decode cX9_begin 25 = .ok (.iconst 0, 1) := by decide +kernel
theorem dX9_begin_26 : decode cX9_begin 26 = .ok (.istore_n 2, 1) := by decide +kernel
theorem dX9_begin_27 : decode cX9_begin 27 = .ok (.iload_n 2, 1) := by decide +kernel
theorem dX9_begin_28 : decode cX9_begin 28 = .ok (.bipush 81, 2) := by decide +kernel
theorem dX9_begin_30 : decode cX9_begin 30 = .ok (.if_icmp .ge 18, 3) := by decide +kernel
theorem dX9_begin_33 : decode cX9_begin 33 = .ok (.aload_n 0, 1) := by decide +kernel
theorem dX9_begin_34 : decode cX9_begin 34 = .ok (.getfield 9, 3) := by decide +kernel
theorem dX9_begin_37 : decode cX9_begin 37 = .ok (.iload_n 2, 1) := by decide +kernel
theorem dX9_begin_38 : decode cX9_begin 38 = .ok (.iconst (-1), 1) := by decide +kernel
theorem dX9_begin_39 : decode cX9_begin 39 = .ok (.invokestatic 35, 3) := by decide +kernel
theorem dX9_begin_42 : decode cX9_begin 42 = .ok (.iinc 2 1, 3) := by decide +kernel
theorem dX9_begin_45 : decode cX9_begin 45 = .ok (.goto (-18), 3) := by decide +kernel
theorem dX9_begin_48 : decode cX9_begin 48 = .ok (.return_, 1) := by decide +kernel
theorem dX9_isBegun_0 : decode cX9_isBegun 0 = .ok (.aload_n 0, 1) := by decide +kernel
theorem dX9_isBegun_1 : decode cX9_isBegun 1 = .ok (.getfield 18, 3) := by decide +kernel
theorem dX9_isBegun_4 : decode cX9_isBegun 4 = .ok (.ifCond .eq 7, 3) := by decide +kernel
theorem dX9_isBegun_7 : decode cX9_isBegun 7 = .ok (.iconst 1, 1) := by decide +kernel
theorem dX9_isBegun_8 : decode cX9_isBegun 8 = .ok (.goto 4, 3) := by decide +kernel
theorem dX9_isBegun_11 : decode cX9_isBegun 11 = .ok (.iconst 0, 1) := by decide +kernel
theorem dX9_isBegun_12 : decode cX9_isBegun 12 = .ok (.ireturn, 1) := by decide +kernel
theorem dX9_copy_0 : decode cX9_copy 0 = .ok (.aload_n 0, 1) := by decide +kernel
theorem dX9_copy_1 : decode cX9_copy 1 = .ok (.aload_n 1, 1) := by decide +kernel
theorem dX9_copy_2 : decode cX9_copy 2 = .ok (.getfield 18, 3) := by decide +kernel
theorem dX9_copy_5 : decode cX9_copy 5 = .ok (.putfield 18, 3) := by decide +kernel
theorem dX9_copy_8 : decode cX9_copy 8 = .ok (.aload_n 0, 1) := by decide +kernel
theorem dX9_copy_9 : decode cX9_copy 9 = .ok (.aload_n 1, 1) := by decide +kernel
theorem dX9_copy_10 : decode cX9_copy 10 = .ok (.getfield 22, 3) := by decide +kernel
theorem dX9_copy_13 : decode cX9_copy 13 = .ok (.putfield 22, 3) := by decide +kernel
theorem dX9_copy_16 : decode cX9_copy 16 = .ok (.aload_n 0, 1) := by decide +kernel
theorem dX9_copy_17 : decode cX9_copy 17 = .ok (.aload_n 1, 1) := by decide +kernel
theorem dX9_copy_18 : decode cX9_copy 18 = .ok (.getfield 26, 3) := by decide +kernel
theorem dX9_copy_21 : decode cX9_copy 21 = .ok (.putfield 26, 3) := by decide +kernel
theorem dX9_copy_24 : decode cX9_copy 24 = .ok (.aload_n 0, 1) := by decide +kernel
theorem dX9_copy_25 : decode cX9_copy 25 = .ok (.aload_n 1, 1) := by decide +kernel
theorem dX9_copy_26 : decode cX9_copy 26 = .ok (.getfield 29, 3) := by decide +kernel
theorem dX9_copy_29 : decode cX9_copy 29 = .ok (.putfield 29, 3) := by decide +kernel
theorem dX9_copy_32 : decode cX9_copy 32 = .ok (.aload_n 0, 1) := by decide +kernel
theorem dX9_copy_33 : decode cX9_copy 33 = .ok (.aload_n 1, 1) := by decide +kernel
theorem dX9_copy_34 : decode cX9_copy 34 = .ok (.getfield 32, 3) := by decide +kernel
theorem dX9_copy_37 : decode cX9_copy 37 = .ok (.putfield 32, 3) := by decide +kernel
theorem dX9_copy_40 : decode cX9_copy 40 = .ok (.aload_n 1, 1) := by decide +kernel
theorem dX9_copy_41 : decode cX9_copy 41 = .ok (.getfield 9, 3) := by decide +kernel
theorem dX9_copy_44 : decode cX9_copy 44 = .ok (.iconst 0, 1) := by decide +kernel
theorem dX9_copy_45 : decode cX9_copy 45 = .ok (.aload_n 0, 1) := by decide +kernel
theorem dX9_copy_46 : decode cX9_copy 46 = .ok (.getfield 9, 3) := by decide +kernel
theorem dX9_copy_49 : decode cX9_copy 49 = .ok (.iconst 0, 1) := by decide +kernel
theorem dX9_copy_50 : decode cX9_copy 50 = .ok (.bipush 81, 2) := by decide +kernel
theorem dX9_copy_52 : decode cX9_copy 52 = .ok (.invokestatic 39, 3) := by decide +kernel
theorem dX9_copy_55 : decode cX9_copy 55 = .ok (.aload_n 1, 1) := by decide +kernel
theorem dX9_copy_56 : decode cX9_copy 56 = .ok (.getfield 15, 3) := by decide +kernel
theorem dX9_copy_59 : decode cX9_copy 59 = .ok (.iconst 0, 1) := by decide +kernel
theorem dX9_copy_60 : decode cX9_copy 60 = .ok (.aload_n 0, 1) := by decide +kernel
theorem dX9_copy_61 : decode cX9_copy 61 = .ok (.getfield 15, 3) := by decide +kernel
theorem dX9_copy_64 : decode cX9_copy 64 = .ok (.iconst 0, 1) := by decide +kernel
theorem dX9_copy_65 : decode cX9_copy 65 = .ok (.sipush 200, 3) := by decide +kernel
theorem dX9_copy_68 : decode cX9_copy 68 = .ok (.invokestatic 39, 3) := by decide +kernel
theorem dX9_copy_71 : decode cX9_copy 71 = .ok (.return_, 1) := by decide +kernel
theorem dX9_stone_0 : decode cX9_stone 0 = .ok (.aload_n 0, 1) := by decide +kernel
theorem dX9_stone_1 : decode cX9_stone 1 = .ok (.getfield 9, 3) := by decide +kernel
theorem dX9_stone_4 : decode cX9_stone 4 = .ok (.iload_n 1, 1) := by decide +kernel
theorem dX9_stone_5 : decode cX9_stone 5 = .ok (.invokestatic 45, 3) := by decide +kernel
theorem dX9_stone_8 : decode cX9_stone 8 = .ok (.ireturn, 1) := by decide +kernel
theorem dX9_place_0 : decode cX9_place 0 = .ok (.aload_n 0, 1) := by decide +kernel
theorem dX9_place_1 : decode cX9_place 1 = .ok (.getfield 9, 3) := by decide +kernel
theorem dX9_place_4 : decode cX9_place 4 = .ok (.iload_n 1, 1) := by decide +kernel
theorem dX9_place_5 : decode cX9_place 5 = .ok (.iload_n 2, 1) := by decide +kernel
theorem dX9_place_6 : decode cX9_place 6 = .ok (.invokestatic 35, 3) := by decide +kernel
theorem dX9_place_9 : decode cX9_place 9 = .ok (.return_, 1) := by decide +kernel
theorem dX9_play_0 : decode cX9_play 0 = .ok (.aload_n 0, 1) := by decide +kernel
theorem dX9_play_1 : decode cX9_play 1 = .ok (.getfield 9, 3) := by decide +kernel
theorem dX9_play_4 : decode cX9_play 4 = .ok (.iload_n 1, 1) := by decide +kernel
theorem dX9_play_5 : decode cX9_play 5 = .ok (.aload_n 0, 1) := by decide +kernel
theorem dX9_play_6 : decode cX9_play 6 = .ok (.getfield 29, 3) := by decide +kernel
theorem dX9_play_9 : decode cX9_play 9 = .ok (.invokestatic 35, 3) := by decide +kernel
theorem dX9_play_12 : decode cX9_play 12 = .ok (.aload_n 0, 1) := by decide +kernel
theorem dX9_play_13 : decode cX9_play 13 = .ok (.getfield 15, 3) := by decide +kernel
theorem dX9_play_16 : decode cX9_play 16 = .ok (.aload_n 0, 1) := by decide +kernel
theorem dX9_play_17 : decode cX9_play 17 = .ok (.getfield 26, 3) := by decide +kernel
theorem dX9_play_20 : decode cX9_play 20 = .ok (.iload_n 1, 1) := by decide +kernel
theorem dX9_play_21 : decode cX9_play 21 = .ok (.invokestatic 35, 3) := by decide +kernel
theorem dX9_play_24 : decode cX9_play 24 = .ok (.aload_n 0, 1) := by decide +kernel
theorem dX9_play_25 : decode cX9_play 25 = .ok (.dup, 1) := by decide +kernel
theorem dX9_play_26 : decode cX9_play 26 = .ok (.getfield 26, 3) := by decide +kernel
theorem dX9_play_29 : decode cX9_play 29 = .ok (.iconst 1, 1) := by decide +kernel
theorem dX9_play_30 : decode cX9_play 30 = .ok (.iadd, 1) := by decide +kernel
theorem dX9_play_31 : decode cX9_play 31 = .ok (.putfield 26, 3) := by decide +kernel
theorem dX9_play_34 : decode cX9_play 34 = .ok (.aload_n 0, 1) := by decide +kernel
theorem dX9_play_35 : decode cX9_play 35 = .ok (.aload_n 0, 1) := by decide +kernel
theorem dX9_play_36 : decode cX9_play 36 = .ok (.getfield 29, 3) := by decide +kernel
theorem dX9_play_39 : decode cX9_play 39 = .ok (.invokestatic 49, 3) := by decide +kernel
theorem dX9_play_42 : decode cX9_play 42 = .ok (.putfield 29, 3) := by decide +kernel
theorem dX9_play_45 : decode cX9_play 45 = .ok (.return_, 1) := by decide +kernel
theorem dX9_moved_0 : decode cX9_moved 0 = .ok (.iload_n 1, 1) := by decide +kernel
theorem dX9_moved_1 : decode cX9_moved 1 = .ok (.ifCond .lt 11, 3) := by decide +kernel
theorem dX9_moved_4 : decode cX9_moved 4 = .ok (.iload_n 1, 1) := by decide +kernel
theorem dX9_moved_5 : decode cX9_moved 5 = .ok (.aload_n 0, 1) := by decide +kernel
theorem dX9_moved_6 : decode cX9_moved 6 = .ok (.getfield 26, 3) := by decide +kernel
theorem dX9_moved_9 : decode cX9_moved 9 = .ok (.if_icmp .lt 7, 3) := by decide +kernel
theorem dX9_moved_12 : decode cX9_moved 12 = .ok (.iconst (-1), 1) := by decide +kernel
theorem dX9_moved_13 : decode cX9_moved 13 = .ok (.goto 11, 3) := by decide +kernel
theorem dX9_moved_16 : decode cX9_moved 16 = .ok (.aload_n 0, 1) := by decide +kernel
theorem dX9_moved_17 : decode cX9_moved 17 = .ok (.getfield 15, 3) := by decide +kernel
theorem dX9_moved_20 : decode cX9_moved 20 = .ok (.iload_n 1, 1) := by decide +kernel
theorem dX9_moved_21 : decode cX9_moved 21 = .ok (.invokestatic 45, 3) := by decide +kernel
theorem dX9_moved_24 : decode cX9_moved 24 = .ok (.ireturn, 1) := by decide +kernel
theorem dX9_count_0 : decode cX9_count 0 = .ok (.iconst 0, 1) := by decide +kernel
theorem dX9_count_1 : decode cX9_count 1 = .ok (.istore_n 2, 1) := by decide +kernel
theorem dX9_count_2 : decode cX9_count 2 = .ok (.iconst 0, 1) := by decide +kernel
theorem dX9_count_3 : decode cX9_count 3 = .ok (.istore_n 3, 1) := by decide +kernel
theorem dX9_count_4 : decode cX9_count 4 = .ok (.iload_n 3, 1) := by decide +kernel
theorem dX9_count_5 : decode cX9_count 5 = .ok (.aload_n 0, 1) := by decide +kernel
theorem dX9_count_6 : decode cX9_count 6 = .ok (.getfield 18, 3) := by decide +kernel
theorem dX9_count_9 : decode cX9_count 9 = .ok (.aload_n 0, 1) := by decide +kernel
theorem dX9_count_10 : decode cX9_count 10 = .ok (.getfield 18, 3) := by decide +kernel
theorem dX9_count_13 : decode cX9_count 13 = .ok (.imul, 1) := by decide +kernel
theorem dX9_count_14 : decode cX9_count 14 = .ok (.if_icmp .ge 21, 3) := by decide +kernel
theorem dX9_count_17 : decode cX9_count 17 = .ok (.aload_n 0, 1) := by decide +kernel
theorem dX9_count_18 : decode cX9_count 18 = .ok (.iload_n 3, 1) := by decide +kernel
theorem dX9_count_19 : decode cX9_count 19 = .ok (.invokevirtual 53, 3) := by decide +kernel
theorem dX9_count_22 : decode cX9_count 22 = .ok (.iload_n 1, 1) := by decide +kernel
theorem dX9_count_23 : decode cX9_count 23 = .ok (.if_icmp .ne 6, 3) := by decide +kernel
theorem dX9_count_26 : decode cX9_count 26 = .ok (.iinc 2 1, 3) := by decide +kernel
theorem dX9_count_29 : decode cX9_count 29 = .ok (.iinc 3 1, 3) := by decide +kernel
theorem dX9_count_32 : decode cX9_count 32 = .ok (.goto (-28), 3) := by decide +kernel
theorem dX9_count_35 : decode cX9_count 35 = .ok (.iload_n 2, 1) := by decide +kernel
theorem dX9_count_36 : decode cX9_count 36 = .ok (.ireturn, 1) := by decide +kernel
theorem dX9_winner_0 : decode cX9_winner 0 = .ok (.iconst 0, 1) := by decide +kernel
theorem dX9_winner_1 : decode cX9_winner 1 = .ok (.istore_n 2, 1) := by decide +kernel
theorem dX9_winner_2 : decode cX9_winner 2 = .ok (.iload_n 2, 1) := by decide +kernel
theorem dX9_winner_3 : decode cX9_winner 3 = .ok (.iconst 1, 1) := by decide +kernel
theorem dX9_winner_4 : decode cX9_winner 4 = .ok (.if_icmp .gt 27, 3) := by decide +kernel
theorem dX9_winner_7 : decode cX9_winner 7 = .ok (.aload_n 1, 1) := by decide +kernel
theorem dX9_winner_8 : decode cX9_winner 8 = .ok (.aload_n 0, 1) := by decide +kernel
theorem dX9_winner_9 : decode cX9_winner 9 = .ok (.getfield 9, 3) := by decide +kernel
theorem dX9_winner_12 : decode cX9_winner 12 = .ok (.iload_n 2, 1) := by decide +kernel
theorem dX9_winner_13 : decode cX9_winner 13 = .ok (.invokevirtual 56, 3) := by decide +kernel
theorem dX9_winner_16 : decode cX9_winner 16 = .ok (.aload_n 1, 1) := by decide +kernel
theorem dX9_winner_17 : decode cX9_winner 17 = .ok (.invokevirtual 62, 3) := by decide +kernel
theorem dX9_winner_20 : decode cX9_winner 20 = .ok (.ifCond .eq 5, 3) := by decide +kernel
theorem dX9_winner_23 : decode cX9_winner 23 = .ok (.iload_n 2, 1) := by decide +kernel
theorem dX9_winner_24 : decode cX9_winner 24 = .ok (.ireturn, 1) := by decide +kernel
theorem dX9_winner_25 : decode cX9_winner 25 = .ok (.iinc 2 1, 3) := by decide +kernel
theorem dX9_winner_28 : decode cX9_winner 28 = .ok (.goto (-26), 3) := by decide +kernel
theorem dX9_winner_31 : decode cX9_winner 31 = .ok (.aload_n 0, 1) := by decide +kernel
theorem dX9_winner_32 : decode cX9_winner 32 = .ok (.getfield 32, 3) := by decide +kernel
theorem dX9_winner_35 : decode cX9_winner 35 = .ok (.iconst (-1), 1) := by decide +kernel
theorem dX9_winner_36 : decode cX9_winner 36 = .ok (.if_icmp .ne 7, 3) := by decide +kernel
theorem dX9_winner_39 : decode cX9_winner 39 = .ok (.iconst (-1), 1) := by decide +kernel
theorem dX9_winner_40 : decode cX9_winner 40 = .ok (.goto 10, 3) := by decide +kernel
theorem dX9_winner_43 : decode cX9_winner 43 = .ok (.aload_n 0, 1) := by decide +kernel
theorem dX9_winner_44 : decode cX9_winner 44 = .ok (.getfield 32, 3) := by decide +kernel
theorem dX9_winner_47 : decode cX9_winner 47 = .ok (.invokestatic 49, 3) := by decide +kernel
theorem dX9_winner_50 : decode cX9_winner 50 = .ok (.ireturn, 1) := by decide +kernel
theorem dX9_mirror_0 : decode cX9_mirror 0 = .ok (.iconst 0, 1) := by decide +kernel
theorem dX9_mirror_1 : decode cX9_mirror 1 = .ok (.istore_n 2, 1) := by decide +kernel
theorem dX9_mirror_2 : decode cX9_mirror 2 = .ok (.iload_n 2, 1) := by decide +kernel
theorem dX9_mirror_3 : decode cX9_mirror 3 = .ok (.aload_n 0, 1) := by decide +kernel
theorem dX9_mirror_4 : decode cX9_mirror 4 = .ok (.getfield 18, 3) := by decide +kernel
theorem dX9_mirror_7 : decode cX9_mirror 7 = .ok (.aload_n 0, 1) := by decide +kernel
theorem dX9_mirror_8 : decode cX9_mirror 8 = .ok (.getfield 18, 3) := by decide +kernel
theorem dX9_mirror_11 : decode cX9_mirror 11 = .ok (.imul, 1) := by decide +kernel
theorem dX9_mirror_12 : decode cX9_mirror 12 = .ok (.if_icmp .ge 56, 3) := by decide +kernel
theorem dX9_mirror_15 : decode cX9_mirror 15 = .ok (.aload_n 1, 1) := by decide +kernel
theorem dX9_mirror_16 : decode cX9_mirror 16 = .ok (.iload_n 2, 1) := by decide +kernel
theorem dX9_mirror_17 : decode cX9_mirror 17 = .ok (.invokevirtual 66, 3) := by decide +kernel
theorem dX9_mirror_20 : decode cX9_mirror 20 = .ok (.istore_n 3, 1) := by decide +kernel
theorem dX9_mirror_21 : decode cX9_mirror 21 = .ok (.iload_n 3, 1) := by decide +kernel
theorem dX9_mirror_22 : decode cX9_mirror 22 = .ok (.iload_n 2, 1) := by decide +kernel
theorem dX9_mirror_23 : decode cX9_mirror 23 = .ok (.if_icmp .lt 39, 3) := by decide +kernel
theorem dX9_mirror_26 : decode cX9_mirror 26 = .ok (.aload_n 0, 1) := by decide +kernel
theorem dX9_mirror_27 : decode cX9_mirror 27 = .ok (.iload_n 2, 1) := by decide +kernel
theorem dX9_mirror_28 : decode cX9_mirror 28 = .ok (.invokevirtual 53, 3) := by decide +kernel
theorem dX9_mirror_31 : decode cX9_mirror 31 = .ok (.istore 4, 2) := by decide +kernel
theorem dX9_mirror_33 : decode cX9_mirror 33 = .ok (.aload_n 0, 1) := by decide +kernel
theorem dX9_mirror_34 : decode cX9_mirror 34 = .ok (.getfield 9, 3) := by decide +kernel
theorem dX9_mirror_37 : decode cX9_mirror 37 = .ok (.iload_n 2, 1) := by decide +kernel
theorem dX9_mirror_38 : decode cX9_mirror 38 = .ok (.aload_n 0, 1) := by decide +kernel
theorem dX9_mirror_39 : decode cX9_mirror 39 = .ok (.iload_n 3, 1) := by decide +kernel
theorem dX9_mirror_40 : decode cX9_mirror 40 = .ok (.invokevirtual 53, 3) := by decide +kernel
theorem dX9_mirror_43 : decode cX9_mirror 43 = .ok (.invokestatic 71, 3) := by decide +kernel
theorem dX9_mirror_46 : decode cX9_mirror 46 = .ok (.invokestatic 35, 3) := by decide +kernel
theorem dX9_mirror_49 : decode cX9_mirror 49 = .ok (.aload_n 0, 1) := by decide +kernel
theorem dX9_mirror_50 : decode cX9_mirror 50 = .ok (.getfield 9, 3) := by decide +kernel
theorem dX9_mirror_53 : decode cX9_mirror 53 = .ok (.iload_n 3, 1) := by decide +kernel
theorem dX9_mirror_54 : decode cX9_mirror 54 = .ok (.iload 4, 2) := by decide +kernel
theorem dX9_mirror_56 : decode cX9_mirror 56 = .ok (.invokestatic 71, 3) := by decide +kernel
theorem dX9_mirror_59 : decode cX9_mirror 59 = .ok (.invokestatic 35, 3) := by decide +kernel
theorem dX9_mirror_62 : decode cX9_mirror 62 = .ok (.iinc 2 1, 3) := by decide +kernel
theorem dX9_mirror_65 : decode cX9_mirror 65 = .ok (.goto (-63), 3) := by decide +kernel
theorem dX9_mirror_68 : decode cX9_mirror 68 = .ok (.iconst 0, 1) := by decide +kernel
theorem dX9_mirror_69 : decode cX9_mirror 69 = .ok (.istore_n 2, 1) := by decide +kernel
theorem dX9_mirror_70 : decode cX9_mirror 70 = .ok (.iload_n 2, 1) := by decide +kernel
theorem dX9_mirror_71 : decode cX9_mirror 71 = .ok (.aload_n 0, 1) := by decide +kernel
theorem dX9_mirror_72 : decode cX9_mirror 72 = .ok (.getfield 26, 3) := by decide +kernel
theorem dX9_mirror_75 : decode cX9_mirror 75 = .ok (.if_icmp .ge 26, 3) := by decide +kernel
theorem dX9_mirror_78 : decode cX9_mirror 78 = .ok (.aload_n 0, 1) := by decide +kernel
theorem dX9_mirror_79 : decode cX9_mirror 79 = .ok (.getfield 15, 3) := by decide +kernel
theorem dX9_mirror_82 : decode cX9_mirror 82 = .ok (.iload_n 2, 1) := by decide +kernel
theorem dX9_mirror_83 : decode cX9_mirror 83 = .ok (.aload_n 1, 1) := by decide +kernel
theorem dX9_mirror_84 : decode cX9_mirror 84 = .ok (.aload_n 0, 1) := by decide +kernel
theorem dX9_mirror_85 : decode cX9_mirror 85 = .ok (.iload_n 2, 1) := by decide +kernel
theorem dX9_mirror_86 : decode cX9_mirror 86 = .ok (.invokevirtual 74, 3) := by decide +kernel
theorem dX9_mirror_89 : decode cX9_mirror 89 = .ok (.invokevirtual 66, 3) := by decide +kernel
theorem dX9_mirror_92 : decode cX9_mirror 92 = .ok (.invokestatic 35, 3) := by decide +kernel
theorem dX9_mirror_95 : decode cX9_mirror 95 = .ok (.iinc 2 1, 3) := by decide +kernel
theorem dX9_mirror_98 : decode cX9_mirror 98 = .ok (.goto (-28), 3) := by decide +kernel
theorem dX9_mirror_101 : decode cX9_mirror 101 = .ok (.aload_n 0, 1) := by decide +kernel
theorem dX9_mirror_102 : decode cX9_mirror 102 = .ok (.aload_n 0, 1) := by decide +kernel
theorem dX9_mirror_103 : decode cX9_mirror 103 = .ok (.getfield 29, 3) := by decide +kernel
theorem dX9_mirror_106 : decode cX9_mirror 106 = .ok (.invokestatic 49, 3) := by decide +kernel
theorem dX9_mirror_109 : decode cX9_mirror 109 = .ok (.putfield 29, 3) := by decide +kernel
theorem dX9_mirror_112 : decode cX9_mirror 112 = .ok (.aload_n 0, 1) := by decide +kernel
theorem dX9_mirror_113 : decode cX9_mirror 113 = .ok (.aload_n 0, 1) := by decide +kernel
theorem dX9_mirror_114 : decode cX9_mirror 114 = .ok (.getfield 32, 3) := by decide +kernel
theorem dX9_mirror_117 : decode cX9_mirror 117 = .ok (.invokestatic 71, 3) := by decide +kernel
theorem dX9_mirror_120 : decode cX9_mirror 120 = .ok (.putfield 32, 3) := by decide +kernel
theorem dX9_mirror_123 : decode cX9_mirror 123 = .ok (.return_, 1) := by decide +kernel
theorem dX9_mirrored_0 : decode cX9_mirrored 0 = .ok (.iload_n 0, 1) := by decide +kernel
theorem dX9_mirrored_1 : decode cX9_mirrored 1 = .ok (.iconst (-1), 1) := by decide +kernel
theorem dX9_mirrored_2 : decode cX9_mirrored 2 = .ok (.if_icmp .ne 7, 3) := by decide +kernel
theorem dX9_mirrored_5 : decode cX9_mirrored 5 = .ok (.iconst (-1), 1) := by decide +kernel
theorem dX9_mirrored_6 : decode cX9_mirrored 6 = .ok (.goto 7, 3) := by decide +kernel
theorem dX9_mirrored_9 : decode cX9_mirrored 9 = .ok (.iload_n 0, 1) := by decide +kernel
theorem dX9_mirrored_10 : decode cX9_mirrored 10 = .ok (.invokestatic 49, 3) := by decide +kernel
theorem dX9_mirrored_13 : decode cX9_mirrored 13 = .ok (.ireturn, 1) := by decide +kernel
theorem dX10_init_0 : decode cX10_init 0 = .ok (.aload_n 0, 1) := by decide +kernel
theorem dX10_init_1 : decode cX10_init 1 = .ok (.invokespecial 3, 3) := by decide +kernel
theorem dX10_init_4 : decode cX10_init 4 = .ok (.aload_n 0, 1) := by decide +kernel
theorem dX10_init_5 : decode cX10_init 5 = .ok (.aload_n 1, 1) := by decide +kernel
theorem dX10_init_6 : decode cX10_init 6 = .ok (.putfield 9, 3) := by decide +kernel
theorem dX10_init_9 : decode cX10_init 9 = .ok (.aload_n 0, 1) := by decide +kernel
theorem dX10_init_10 : decode cX10_init 10 = .ok (.aload_n 2, 1) := by decide +kernel
theorem dX10_init_11 : decode cX10_init 11 = .ok (.putfield 15, 3) := by decide +kernel
theorem dX10_init_14 : decode cX10_init 14 = .ok (.aload_n 0, 1) := by decide +kernel
theorem dX10_init_15 : decode cX10_init 15 = .ok (.aload_n 3, 1) := by decide +kernel
theorem dX10_init_16 : decode cX10_init 16 = .ok (.putfield 19, 3) := by decide +kernel
theorem dX10_init_19 : decode cX10_init 19 = .ok (.aload_n 0, 1) := by decide +kernel
theorem dX10_init_20 : decode cX10_init 20 = .ok (.new 23, 3) := by decide +kernel
theorem dX10_init_23 : decode cX10_init 23 = .ok (.dup, 1) := by decide +kernel
theorem dX10_init_24 : decode cX10_init 24 = .ok (.invokespecial 25, 3) := by decide +kernel
theorem dX10_init_27 : decode cX10_init 27 = .ok (.putfield 26, 3) := by decide +kernel
theorem dX10_init_30 : decode cX10_init 30 = .ok (.return_, 1) := by decide +kernel
theorem dX10_read_0 : decode cX10_read 0 = .ok (.aload_n 0, 1) := by decide +kernel
theorem dX10_read_1 : decode cX10_read 1 = .ok (.iconst 0, 1) := by decide +kernel
theorem dX10_read_2 : decode cX10_read 2 = .ok (.putfield 30, 3) := by decide +kernel
theorem dX10_read_5 : decode cX10_read 5 = .ok (.aload_n 0, 1) := by decide +kernel
theorem dX10_read_6 : decode cX10_read 6 = .ok (.iconst 0, 1) := by decide +kernel
theorem dX10_read_7 : decode cX10_read 7 = .ok (.putfield 34, 3) := by decide +kernel
theorem dX10_read_10 : decode cX10_read 10 = .ok (.aload_n 0, 1) := by decide +kernel
theorem dX10_read_11 : decode cX10_read 11 = .ok (.iconst 0, 1) := by decide +kernel
theorem dX10_read_12 : decode cX10_read 12 = .ok (.putfield 37, 3) := by decide +kernel
theorem dX10_read_15 : decode cX10_read 15 = .ok (.aload_n 0, 1) := by decide +kernel
theorem dX10_read_16 : decode cX10_read 16 = .ok (.invokevirtual 40, 3) := by decide +kernel
theorem dX10_read_19 : decode cX10_read 19 = .ok (.aload_n 0, 1) := by decide +kernel
theorem dX10_read_20 : decode cX10_read 20 = .ok (.invokevirtual 43, 3) := by decide +kernel
theorem dX10_read_23 : decode cX10_read 23 = .ok (.iconst 0, 1) := by decide +kernel
theorem dX10_read_24 : decode cX10_read 24 = .ok (.istore_n 1, 1) := by decide +kernel
theorem dX10_read_25 : decode cX10_read 25 = .ok (.iload_n 1, 1) := by decide +kernel
theorem dX10_read_26 : decode cX10_read 26 = .ok (.sipush 400, 3) := by decide +kernel
theorem dX10_read_29 : decode cX10_read 29 = .ok (.if_icmp .ge 42, 3) := by decide +kernel
theorem dX10_read_32 : decode cX10_read 32 = .ok (.aload_n 0, 1) := by decide +kernel
theorem dX10_read_33 : decode cX10_read 33 = .ok (.getfield 30, 3) := by decide +kernel
theorem dX10_read_36 : decode cX10_read 36 = .ok (.ifCond .ne 35, 3) := by decide +kernel
theorem dX10_read_39 : decode cX10_read 39 = .ok (.aload_n 0, 1) := by decide +kernel
theorem dX10_read_40 : decode cX10_read 40 = .ok (.getfield 46, 3) := by decide +kernel
theorem dX10_read_43 : decode cX10_read 43 = .ok (.iconst 3, 1) := by decide +kernel
theorem dX10_read_44 : decode cX10_read 44 = .ok (.if_icmp .ne 27, 3) := by decide +kernel
theorem dX10_read_47 : decode cX10_read 47 = .ok (.aload_n 0, 1) := by decide +kernel
theorem dX10_read_48 : decode cX10_read 48 = .ok (.dup, 1) := by decide +kernel
theorem dX10_read_49 : decode cX10_read 49 = .ok (.getfield 34, 3) := by decide +kernel
theorem dX10_read_52 : decode cX10_read 52 = .ok (.iconst 1, 1) := by decide +kernel
theorem dX10_read_53 : decode cX10_read 53 = .ok (.iadd, 1) := by decide +kernel
theorem dX10_read_54 : decode cX10_read 54 = .ok (.putfield 34, 3) := by decide +kernel
theorem dX10_read_57 : decode cX10_read 57 = .ok (.aload_n 0, 1) := by decide +kernel
theorem dX10_read_58 : decode cX10_read 58 = .ok (.invokevirtual 40, 3) := by decide +kernel
theorem dX10_read_61 : decode cX10_read 61 = .ok (.aload_n 0, 1) := by decide +kernel
theorem dX10_read_62 : decode cX10_read 62 = .ok (.invokevirtual 49, 3) := by decide +kernel
theorem dX10_read_65 : decode cX10_read 65 = .ok (.iinc 1 1, 3) := by decide +kernel
theorem dX10_read_68 : decode cX10_read 68 = .ok (.goto (-43), 3) := by decide +kernel
theorem dX10_read_71 : decode cX10_read 71 = .ok (.aload_n 0, 1) := by decide +kernel
theorem dX10_read_72 : decode cX10_read 72 = .ok (.getfield 30, 3) := by decide +kernel
theorem dX10_read_75 : decode cX10_read 75 = .ok (.ifCond .ne 19, 3) := by decide +kernel
theorem dX10_read_78 : decode cX10_read 78 = .ok (.aload_n 0, 1) := by decide +kernel
theorem dX10_read_79 : decode cX10_read 79 = .ok (.getfield 46, 3) := by decide +kernel
theorem dX10_read_82 : decode cX10_read 82 = .ok (.ifCond .eq 12, 3) := by decide +kernel
theorem dX10_read_85 : decode cX10_read 85 = .ok (.aload_n 0, 1) := by decide +kernel
theorem dX10_read_86 : decode cX10_read 86 = .ok (.iconst 1, 1) := by decide +kernel
theorem dX10_read_87 : decode cX10_read 87 = .ok (.aload_n 0, 1) := by decide +kernel
theorem dX10_read_88 : decode cX10_read 88 = .ok (.getfield 52, 3) := by decide +kernel
theorem dX10_read_91 : decode cX10_read 91 = .ok (.invokevirtual 55, 3) := by decide +kernel
theorem dX10_read_94 : decode cX10_read 94 = .ok (.aload_n 0, 1) := by decide +kernel
theorem dX10_read_95 : decode cX10_read 95 = .ok (.getfield 30, 3) := by decide +kernel
theorem dX10_read_98 : decode cX10_read 98 = .ok (.ifCond .ne 7, 3) := by decide +kernel
theorem dX10_read_101 : decode cX10_read 101 = .ok (.iconst 1, 1) := by decide +kernel
theorem dX10_read_102 : decode cX10_read 102 = .ok (.goto 4, 3) := by decide +kernel
theorem dX10_read_105 : decode cX10_read 105 = .ok (.iconst 0, 1) := by decide +kernel
theorem dX10_read_106 : decode cX10_read 106 = .ok (.ireturn, 1) := by decide +kernel
theorem dX10_readBoard_0 : decode cX10_readBoard 0 = .ok (.aload_n 0, 1) := by decide +kernel
theorem dX10_readBoard_1 : decode cX10_readBoard 1 = .ok (.ldc 59, 2) := by decide +kernel
theorem dX10_readBoard_3 : decode cX10_readBoard 3 = .ok (.invokevirtual 61, 3) := by decide +kernel
theorem dX10_readBoard_6 : decode cX10_readBoard 6 = .ok (.ifCond .ne 13, 3) := by decide +kernel
theorem dX10_readBoard_9 : decode cX10_readBoard 9 = .ok (.aload_n 0, 1) := by decide +kernel
theorem dX10_readBoard_10 : decode cX10_readBoard 10 = .ok (.iconst 1, 1) := by decide +kernel
theorem dX10_readBoard_11 : decode cX10_readBoard 11 = .ok (.aload_n 0, 1) := by decide +kernel
theorem dX10_readBoard_12 : decode cX10_readBoard 12 = .ok (.getfield 52, 3) := by decide +kernel
theorem dX10_readBoard_15 : decode cX10_readBoard 15 = .ok (.invokevirtual 55, 3) := by decide +kernel
theorem dX10_readBoard_18 : decode cX10_readBoard 18 = .ok (.return_, 1) := by decide +kernel
theorem dX10_readBoard_19 : decode cX10_readBoard 19 = .ok (.aload_n 0, 1) := by decide +kernel
theorem dX10_readBoard_20 : decode cX10_readBoard 20 = .ok (.invokevirtual 40, 3) := by decide +kernel
theorem dX10_readBoard_23 : decode cX10_readBoard 23 = .ok (.aload_n 0, 1) := by decide +kernel
theorem dX10_readBoard_24 : decode cX10_readBoard 24 = .ok (.getfield 46, 3) := by decide +kernel
theorem dX10_readBoard_27 : decode cX10_readBoard 27 = .ok (.iconst 2, 1) := by decide +kernel
theorem dX10_readBoard_28 : decode cX10_readBoard 28 = .ok (.if_icmp .eq 13, 3) := by decide +kernel
theorem dX10_readBoard_31 : decode cX10_readBoard 31 = .ok (.aload_n 0, 1) := by decide +kernel
theorem dX10_readBoard_32 : decode cX10_readBoard 32 = .ok (.iconst 1, 1) := by decide +kernel
theorem dX10_readBoard_33 : decode cX10_readBoard 33 = .ok (.aload_n 0, 1) := by decide +kernel
theorem dX10_readBoard_34 : decode cX10_readBoard 34 = .ok (.getfield 52, 3) := by decide +kernel
theorem dX10_readBoard_37 : decode cX10_readBoard 37 = .ok (.invokevirtual 55, 3) := by decide +kernel
theorem dX10_readBoard_40 : decode cX10_readBoard 40 = .ok (.return_, 1) := by decide +kernel
theorem dX10_readBoard_41 : decode cX10_readBoard 41 = .ok (.aload_n 0, 1) := by decide +kernel
theorem dX10_readBoard_42 : decode cX10_readBoard 42 = .ok (.getfield 65, 3) := by decide +kernel
theorem dX10_readBoard_45 : decode cX10_readBoard 45 = .ok (.iconst 2, 1) := by decide +kernel
theorem dX10_readBoard_46 : decode cX10_readBoard 46 = .ok (.if_icmp .lt 12, 3) := by decide +kernel
theorem dX10_readBoard_49 : decode cX10_readBoard 49 = .ok (.aload_n 0, 1) := by decide +kernel
theorem dX10_readBoard_50 : decode cX10_readBoard 50 = .ok (.getfield 65, 3) := by decide +kernel
theorem dX10_readBoard_53 : decode cX10_readBoard 53 = .ok (.bipush 9, 2) := by decide +kernel
theorem dX10_readBoard_55 : decode cX10_readBoard 55 = .ok (.if_icmp .le 13, 3) := by decide +kernel
theorem dX10_readBoard_58 : decode cX10_readBoard 58 = .ok (.aload_n 0, 1) := by decide +kernel
theorem dX10_readBoard_59 : decode cX10_readBoard 59 = .ok (.iconst 2, 1) := by decide +kernel
theorem dX10_readBoard_60 : decode cX10_readBoard 60 = .ok (.aload_n 0, 1) := by decide +kernel
theorem dX10_readBoard_61 : decode cX10_readBoard 61 = .ok (.getfield 52, 3) := by decide +kernel
theorem dX10_readBoard_64 : decode cX10_readBoard 64 = .ok (.invokevirtual 55, 3) := by decide +kernel
theorem dX10_readBoard_67 : decode cX10_readBoard 67 = .ok (.return_, 1) := by decide +kernel
theorem dX10_readBoard_68 : decode cX10_readBoard 68 = .ok (.aload_n 0, 1) := by decide +kernel
theorem dX10_readBoard_69 : decode cX10_readBoard 69 = .ok (.getfield 26, 3) := by decide +kernel
theorem dX10_readBoard_72 : decode cX10_readBoard 72 = .ok (.aload_n 0, 1) := by decide +kernel
theorem dX10_readBoard_73 : decode cX10_readBoard 73 = .ok (.getfield 65, 3) := by decide +kernel
theorem dX10_readBoard_76 : decode cX10_readBoard 76 = .ok (.invokevirtual 68, 3) := by decide +kernel
theorem dX10_readBoard_79 : decode cX10_readBoard 79 = .ok (.aload_n 0, 1) := by decide +kernel
theorem dX10_readBoard_80 : decode cX10_readBoard 80 = .ok (.getfield 15, 3) := by decide +kernel
theorem dX10_readBoard_83 : decode cX10_readBoard 83 = .ok (.aload_n 0, 1) := by decide +kernel
theorem dX10_readBoard_84 : decode cX10_readBoard 84 = .ok (.getfield 65, 3) := by decide +kernel
theorem dX10_readBoard_87 : decode cX10_readBoard 87 = .ok (.invokevirtual 72, 3) := by decide +kernel
theorem dX10_readBoard_90 : decode cX10_readBoard 90 = .ok (.aload_n 0, 1) := by decide +kernel
theorem dX10_readBoard_91 : decode cX10_readBoard 91 = .ok (.invokevirtual 40, 3) := by decide +kernel
theorem dX10_readBoard_94 : decode cX10_readBoard 94 = .ok (.aload_n 0, 1) := by decide +kernel
theorem dX10_readBoard_95 : decode cX10_readBoard 95 = .ok (.ldc 77, 2) := by decide +kernel
theorem dX10_readBoard_97 : decode cX10_readBoard 97 = .ok (.invokevirtual 61, 3) := by decide +kernel
theorem dX10_readBoard_100 : decode cX10_readBoard 100 = .ok (.ifCond .eq 15, 3) := by decide +kernel
theorem dX10_readBoard_103 : decode cX10_readBoard 103 = .ok (.aload_n 0, 1) := by decide +kernel
theorem dX10_readBoard_104 : decode cX10_readBoard 104 = .ok (.getfield 26, 3) := by decide +kernel
theorem dX10_readBoard_107 : decode cX10_readBoard 107 = .ok (.iconst 1, 1) := by decide +kernel
theorem dX10_readBoard_108 : decode cX10_readBoard 108 = .ok (.putfield 79, 3) := by decide +kernel
theorem dX10_readBoard_111 : decode cX10_readBoard 111 = .ok (.aload_n 0, 1) := by decide +kernel
theorem dX10_readBoard_112 : decode cX10_readBoard 112 = .ok (.invokevirtual 40, 3) := by decide +kernel
theorem dX10_readBoard_115 : decode cX10_readBoard 115 = .ok (.return_, 1) := by decide +kernel
theorem dX10_readStatement_0 : decode cX10_readStatement 0 = .ok (.aload_n 0, 1) := by decide +kernel
theorem dX10_readStatement_1 : decode cX10_readStatement 1 = .ok (.ldc 83, 2) := by decide +kernel
theorem dX10_readStatement_3 : decode cX10_readStatement 3 = .ok (.invokevirtual 61, 3) := by decide +kernel
theorem dX10_readStatement_6 : decode cX10_readStatement 6 = .ok (.istore_n 1, 1) := by decide +kernel
theorem dX10_readStatement_7 : decode cX10_readStatement 7 = .ok (.aload_n 0, 1) := by decide +kernel
theorem dX10_readStatement_8 : decode cX10_readStatement 8 = .ok (.ldc 85, 2) := by decide +kernel
theorem dX10_readStatement_10 : decode cX10_readStatement 10 = .ok (.invokevirtual 61, 3) := by decide +kernel
theorem dX10_readStatement_13 : decode cX10_readStatement 13 = .ok (.istore_n 2, 1) := by decide +kernel
theorem dX10_readStatement_14 : decode cX10_readStatement 14 = .ok (.aload_n 0, 1) := by decide +kernel
theorem dX10_readStatement_15 : decode cX10_readStatement 15 = .ok (.invokevirtual 87, 3) := by decide +kernel
theorem dX10_readStatement_18 : decode cX10_readStatement 18 = .ok (.istore_n 3, 1) := by decide +kernel
theorem dX10_readStatement_19 : decode cX10_readStatement 19 = .ok (.iload_n 1, 1) := by decide +kernel
theorem dX10_readStatement_20 : decode cX10_readStatement 20 = .ok (.ifCond .ne 22, 3) := by decide +kernel
theorem dX10_readStatement_23 : decode cX10_readStatement 23 = .ok (.iload_n 2, 1) := by decide +kernel
theorem dX10_readStatement_24 : decode cX10_readStatement 24 = .ok (.ifCond .ne 18, 3) := by decide +kernel
theorem dX10_readStatement_27 : decode cX10_readStatement 27 = .ok (.iload_n 3, 1) := by decide +kernel
theorem dX10_readStatement_28 : decode cX10_readStatement 28 = .ok (.iconst (-1), 1) := by decide +kernel
theorem dX10_readStatement_29 : decode cX10_readStatement 29 = .ok (.if_icmp .ne 13, 3) := by decide +kernel
theorem dX10_readStatement_32 : decode cX10_readStatement 32 = .ok (.aload_n 0, 1) := by decide +kernel
theorem dX10_readStatement_33 : decode cX10_readStatement 33 = .ok (.iconst 1, 1) := by decide +kernel
theorem dX10_readStatement_34 : decode cX10_readStatement 34 = .ok (.aload_n 0, 1) := by decide +kernel
theorem dX10_readStatement_35 : decode cX10_readStatement 35 = .ok (.getfield 52, 3) := by decide +kernel
theorem dX10_readStatement_38 : decode cX10_readStatement 38 = .ok (.invokevirtual 55, 3) := by decide +kernel
theorem dX10_readStatement_41 : decode cX10_readStatement 41 = .ok (.return_, 1) := by decide +kernel
theorem dX10_readStatement_42 : decode cX10_readStatement 42 = .ok (.aload_n 0, 1) := by decide +kernel
theorem dX10_readStatement_43 : decode cX10_readStatement 43 = .ok (.invokevirtual 40, 3) := by decide +kernel
theorem dX10_readStatement_46 : decode cX10_readStatement 46 = .ok (.iload_n 2, 1) := by decide +kernel
theorem dX10_readStatement_47 : decode cX10_readStatement 47 = .ok (.ifCond .eq 8, 3) := by decide +kernel
theorem dX10_readStatement_50 : decode cX10_readStatement 50 = .ok (.aload_n 0, 1) := by decide +kernel
theorem dX10_readStatement_51 : decode cX10_readStatement 51 = .ok (.invokevirtual 91, 3) := by decide +kernel
theorem dX10_readStatement_54 : decode cX10_readStatement 54 = .ok (.return_, 1) := by decide +kernel
theorem dX10_readStatement_55 : decode cX10_readStatement 55 = .ok (.iconst 0, 1) := by decide +kernel
theorem dX10_readStatement_56 : decode cX10_readStatement 56 = .ok (.istore 4, 2) := by decide +kernel
theorem dX10_readStatement_58 : decode cX10_readStatement 58 = .ok (.iload 4, 2) := by decide +kernel
theorem dX10_readStatement_60 : decode cX10_readStatement 60 = .ok (.bipush 81, 2) := by decide +kernel
theorem dX10_readStatement_62 : decode cX10_readStatement 62 = .ok (.if_icmp .gt 35, 3) := by decide +kernel
theorem dX10_readStatement_65 : decode cX10_readStatement 65 = .ok (.aload_n 0, 1) := by decide +kernel
theorem dX10_readStatement_66 : decode cX10_readStatement 66 = .ok (.getfield 30, 3) := by decide +kernel
theorem dX10_readStatement_69 : decode cX10_readStatement 69 = .ok (.ifCond .ne 28, 3) := by decide +kernel
theorem dX10_readStatement_72 : decode cX10_readStatement 72 = .ok (.iload 4, 2) := by decide +kernel
theorem dX10_readStatement_74 : decode cX10_readStatement 74 = .ok (.ifCond .eq 11, 3) := by decide +kernel
theorem dX10_readStatement_77 : decode cX10_readStatement 77 = .ok (.aload_n 0, 1) := by decide +kernel
theorem dX10_readStatement_78 : decode cX10_readStatement 78 = .ok (.getfield 46, 3) := by decide +kernel
theorem dX10_readStatement_81 : decode cX10_readStatement 81 = .ok (.iconst 1, 1) := by decide +kernel
theorem dX10_readStatement_82 : decode cX10_readStatement 82 = .ok (.if_icmp .ne 15, 3) := by decide +kernel
theorem dX10_readStatement_85 : decode cX10_readStatement 85 = .ok (.aload_n 0, 1) := by decide +kernel
theorem dX10_readStatement_86 : decode cX10_readStatement 86 = .ok (.iload_n 1, 1) := by decide +kernel
theorem dX10_readStatement_87 : decode cX10_readStatement 87 = .ok (.iload_n 3, 1) := by decide +kernel
theorem dX10_readStatement_88 : decode cX10_readStatement 88 = .ok (.invokevirtual 94, 3) := by decide +kernel
theorem dX10_readStatement_91 : decode cX10_readStatement 91 = .ok (.iinc 4 1, 3) := by decide +kernel
theorem dX10_readStatement_94 : decode cX10_readStatement 94 = .ok (.goto (-36), 3) := by decide +kernel
theorem dX10_readStatement_97 : decode cX10_readStatement 97 = .ok (.return_, 1) := by decide +kernel
theorem dX10_readTurn_0 : decode cX10_readTurn 0 = .ok (.aload_n 0, 1) := by decide +kernel
theorem dX10_readTurn_1 : decode cX10_readTurn 1 = .ok (.invokevirtual 87, 3) := by decide +kernel
theorem dX10_readTurn_4 : decode cX10_readTurn 4 = .ok (.istore_n 1, 1) := by decide +kernel
theorem dX10_readTurn_5 : decode cX10_readTurn 5 = .ok (.iload_n 1, 1) := by decide +kernel
theorem dX10_readTurn_6 : decode cX10_readTurn 6 = .ok (.iconst (-1), 1) := by decide +kernel
theorem dX10_readTurn_7 : decode cX10_readTurn 7 = .ok (.if_icmp .ne 13, 3) := by decide +kernel
theorem dX10_readTurn_10 : decode cX10_readTurn 10 = .ok (.aload_n 0, 1) := by decide +kernel
theorem dX10_readTurn_11 : decode cX10_readTurn 11 = .ok (.iconst 1, 1) := by decide +kernel
theorem dX10_readTurn_12 : decode cX10_readTurn 12 = .ok (.aload_n 0, 1) := by decide +kernel
theorem dX10_readTurn_13 : decode cX10_readTurn 13 = .ok (.getfield 52, 3) := by decide +kernel
theorem dX10_readTurn_16 : decode cX10_readTurn 16 = .ok (.invokevirtual 55, 3) := by decide +kernel
theorem dX10_readTurn_19 : decode cX10_readTurn 19 = .ok (.return_, 1) := by decide +kernel
theorem dX10_readTurn_20 : decode cX10_readTurn 20 = .ok (.aload_n 0, 1) := by decide +kernel
theorem dX10_readTurn_21 : decode cX10_readTurn 21 = .ok (.getfield 26, 3) := by decide +kernel
theorem dX10_readTurn_24 : decode cX10_readTurn 24 = .ok (.iload_n 1, 1) := by decide +kernel
theorem dX10_readTurn_25 : decode cX10_readTurn 25 = .ok (.putfield 98, 3) := by decide +kernel
theorem dX10_readTurn_28 : decode cX10_readTurn 28 = .ok (.aload_n 0, 1) := by decide +kernel
theorem dX10_readTurn_29 : decode cX10_readTurn 29 = .ok (.invokevirtual 40, 3) := by decide +kernel
theorem dX10_readTurn_32 : decode cX10_readTurn 32 = .ok (.return_, 1) := by decide +kernel
theorem dX10_readCell_0 : decode cX10_readCell 0 = .ok (.aload_n 0, 1) := by decide +kernel
theorem dX10_readCell_1 : decode cX10_readCell 1 = .ok (.getfield 52, 3) := by decide +kernel
theorem dX10_readCell_4 : decode cX10_readCell 4 = .ok (.istore_n 3, 1) := by decide +kernel
theorem dX10_readCell_5 : decode cX10_readCell 5 = .ok (.iload_n 1, 1) := by decide +kernel
theorem dX10_readCell_6 : decode cX10_readCell 6 = .ok (.ifCond .eq 22, 3) := by decide +kernel
theorem dX10_readCell_9 : decode cX10_readCell 9 = .ok (.aload_n 0, 1) := by decide +kernel
theorem dX10_readCell_10 : decode cX10_readCell 10 = .ok (.getfield 26, 3) := by decide +kernel
theorem dX10_readCell_13 : decode cX10_readCell 13 = .ok (.aload_n 0, 1) := by decide +kernel
theorem dX10_readCell_14 : decode cX10_readCell 14 = .ok (.getfield 19, 3) := by decide +kernel
theorem dX10_readCell_17 : decode cX10_readCell 17 = .ok (.invokevirtual 100, 3) := by decide +kernel
theorem dX10_readCell_20 : decode cX10_readCell 20 = .ok (.iconst (-1), 1) := by decide +kernel
theorem dX10_readCell_21 : decode cX10_readCell 21 = .ok (.if_icmp .eq 7, 3) := by decide +kernel
theorem dX10_readCell_24 : decode cX10_readCell 24 = .ok (.iconst 1, 1) := by decide +kernel
theorem dX10_readCell_25 : decode cX10_readCell 25 = .ok (.goto 4, 3) := by decide +kernel
theorem dX10_readCell_28 : decode cX10_readCell 28 = .ok (.iconst 0, 1) := by decide +kernel
theorem dX10_readCell_29 : decode cX10_readCell 29 = .ok (.istore 4, 2) := by decide +kernel
theorem dX10_readCell_31 : decode cX10_readCell 31 = .ok (.aload_n 0, 1) := by decide +kernel
theorem dX10_readCell_32 : decode cX10_readCell 32 = .ok (.iload 4, 2) := by decide +kernel
theorem dX10_readCell_34 : decode cX10_readCell 34 = .ok (.invokevirtual 104, 3) := by decide +kernel
theorem dX10_readCell_37 : decode cX10_readCell 37 = .ok (.istore 5, 2) := by decide +kernel
theorem dX10_readCell_39 : decode cX10_readCell 39 = .ok (.aload_n 0, 1) := by decide +kernel
theorem dX10_readCell_40 : decode cX10_readCell 40 = .ok (.getfield 30, 3) := by decide +kernel
theorem dX10_readCell_43 : decode cX10_readCell 43 = .ok (.ifCond .ne 10, 3) := by decide +kernel
theorem dX10_readCell_46 : decode cX10_readCell 46 = .ok (.aload_n 0, 1) := by decide +kernel
theorem dX10_readCell_47 : decode cX10_readCell 47 = .ok (.invokevirtual 108, 3) := by decide +kernel
theorem dX10_readCell_50 : decode cX10_readCell 50 = .ok (.goto 4, 3) := by decide +kernel
theorem dX10_readCell_53 : decode cX10_readCell 53 = .ok (.iconst (-1), 1) := by decide +kernel
theorem dX10_readCell_54 : decode cX10_readCell 54 = .ok (.istore 6, 2) := by decide +kernel
theorem dX10_readCell_56 : decode cX10_readCell 56 = .ok (.aload_n 0, 1) := by decide +kernel
theorem dX10_readCell_57 : decode cX10_readCell 57 = .ok (.getfield 30, 3) := by decide +kernel
theorem dX10_readCell_60 : decode cX10_readCell 60 = .ok (.ifCond .eq 4, 3) := by decide +kernel
theorem dX10_readCell_63 : decode cX10_readCell 63 = .ok (.return_, 1) := by decide +kernel
theorem dX10_readCell_64 : decode cX10_readCell 64 = .ok (.aload_n 0, 1) := by decide +kernel
theorem dX10_readCell_65 : decode cX10_readCell 65 = .ok (.getfield 15, 3) := by decide +kernel
theorem dX10_readCell_68 : decode cX10_readCell 68 = .ok (.iload 6, 2) := by decide +kernel
theorem dX10_readCell_70 : decode cX10_readCell 70 = .ok (.iload 5, 2) := by decide +kernel
theorem dX10_readCell_72 : decode cX10_readCell 72 = .ok (.invokevirtual 111, 3) := by decide +kernel
theorem dX10_readCell_75 : decode cX10_readCell 75 = .ok (.istore 7, 2) := by decide +kernel
theorem dX10_readCell_77 : decode cX10_readCell 77 = .ok (.aload_n 0, 1) := by decide +kernel
theorem dX10_readCell_78 : decode cX10_readCell 78 = .ok (.getfield 26, 3) := by decide +kernel
theorem dX10_readCell_81 : decode cX10_readCell 81 = .ok (.iload 7, 2) := by decide +kernel
theorem dX10_readCell_83 : decode cX10_readCell 83 = .ok (.invokevirtual 115, 3) := by decide +kernel
theorem dX10_readCell_86 : decode cX10_readCell 86 = .ok (.iconst (-1), 1) := by decide +kernel
theorem dX10_readCell_87 : decode cX10_readCell 87 = .ok (.if_icmp .eq 10, 3) := by decide +kernel
theorem dX10_readCell_90 : decode cX10_readCell 90 = .ok (.aload_n 0, 1) := by decide +kernel
theorem dX10_readCell_91 : decode cX10_readCell 91 = .ok (.iconst 3, 1) := by decide +kernel
theorem dX10_readCell_92 : decode cX10_readCell 92 = .ok (.iload_n 3, 1) := by decide +kernel
theorem dX10_readCell_93 : decode cX10_readCell 93 = .ok (.invokevirtual 55, 3) := by decide +kernel
theorem dX10_readCell_96 : decode cX10_readCell 96 = .ok (.return_, 1) := by decide +kernel
theorem dX10_readCell_97 : decode cX10_readCell 97 = .ok (.iload_n 1, 1) := by decide +kernel
theorem dX10_readCell_98 : decode cX10_readCell 98 = .ok (.ifCond .eq 15, 3) := by decide +kernel
theorem dX10_readCell_101 : decode cX10_readCell 101 = .ok (.aload_n 0, 1) := by decide +kernel
theorem dX10_readCell_102 : decode cX10_readCell 102 = .ok (.getfield 26, 3) := by decide +kernel
theorem dX10_readCell_105 : decode cX10_readCell 105 = .ok (.iload 7, 2) := by decide +kernel
theorem dX10_readCell_107 : decode cX10_readCell 107 = .ok (.invokevirtual 119, 3) := by decide +kernel
theorem dX10_readCell_110 : decode cX10_readCell 110 = .ok (.goto 13, 3) := by decide +kernel
theorem dX10_readCell_113 : decode cX10_readCell 113 = .ok (.aload_n 0, 1) := by decide +kernel
theorem dX10_readCell_114 : decode cX10_readCell 114 = .ok (.getfield 26, 3) := by decide +kernel
theorem dX10_readCell_117 : decode cX10_readCell 117 = .ok (.iload 7, 2) := by decide +kernel
theorem dX10_readCell_119 : decode cX10_readCell 119 = .ok (.iload_n 2, 1) := by decide +kernel
theorem dX10_readCell_120 : decode cX10_readCell 120 = .ok (.invokevirtual 122, 3) := by decide +kernel
theorem dX10_readCell_123 : decode cX10_readCell 123 = .ok (.return_, 1) := by decide +kernel
theorem dX10_readColumn_0 : decode cX10_readColumn 0 = .ok (.aload_n 0, 1) := by decide +kernel
theorem dX10_readColumn_1 : decode cX10_readColumn 1 = .ok (.getfield 46, 3) := by decide +kernel
theorem dX10_readColumn_4 : decode cX10_readColumn 4 = .ok (.iconst 1, 1) := by decide +kernel
theorem dX10_readColumn_5 : decode cX10_readColumn 5 = .ok (.if_icmp .ne 16, 3) := by decide +kernel
theorem dX10_readColumn_8 : decode cX10_readColumn 8 = .ok (.aload_n 0, 1) := by decide +kernel
theorem dX10_readColumn_9 : decode cX10_readColumn 9 = .ok (.getfield 37, 3) := by decide +kernel
theorem dX10_readColumn_12 : decode cX10_readColumn 12 = .ok (.aload_n 0, 1) := by decide +kernel
theorem dX10_readColumn_13 : decode cX10_readColumn 13 = .ok (.getfield 52, 3) := by decide +kernel
theorem dX10_readColumn_16 : decode cX10_readColumn 16 = .ok (.isub, 1) := by decide +kernel
theorem dX10_readColumn_17 : decode cX10_readColumn 17 = .ok (.iconst 1, 1) := by decide +kernel
theorem dX10_readColumn_18 : decode cX10_readColumn 18 = .ok (.if_icmp .eq 14, 3) := by decide +kernel
theorem dX10_readColumn_21 : decode cX10_readColumn 21 = .ok (.aload_n 0, 1) := by decide +kernel
theorem dX10_readColumn_22 : decode cX10_readColumn 22 = .ok (.iconst 1, 1) := by decide +kernel
theorem dX10_readColumn_23 : decode cX10_readColumn 23 = .ok (.aload_n 0, 1) := by decide +kernel
theorem dX10_readColumn_24 : decode cX10_readColumn 24 = .ok (.getfield 52, 3) := by decide +kernel
theorem dX10_readColumn_27 : decode cX10_readColumn 27 = .ok (.invokevirtual 55, 3) := by decide +kernel
theorem dX10_readColumn_30 : decode cX10_readColumn 30 = .ok (.iconst (-1), 1) := by decide +kernel
theorem dX10_readColumn_31 : decode cX10_readColumn 31 = .ok (.ireturn, 1) := by decide +kernel
theorem dX10_readColumn_32 : decode cX10_readColumn 32 = .ok (.aload_n 0, 1) := by decide +kernel
theorem dX10_readColumn_33 : decode cX10_readColumn 33 = .ok (.getfield 9, 3) := by decide +kernel
theorem dX10_readColumn_36 : decode cX10_readColumn 36 = .ok (.aload_n 0, 1) := by decide +kernel
theorem dX10_readColumn_37 : decode cX10_readColumn 37 = .ok (.getfield 52, 3) := by decide +kernel
theorem dX10_readColumn_40 : decode cX10_readColumn 40 = .ok (.invokevirtual 125, 3) := by decide +kernel
theorem dX10_readColumn_43 : decode cX10_readColumn 43 = .ok (.bipush 97, 2) := by decide +kernel
theorem dX10_readColumn_45 : decode cX10_readColumn 45 = .ok (.isub, 1) := by decide +kernel
theorem dX10_readColumn_46 : decode cX10_readColumn 46 = .ok (.istore_n 2, 1) := by decide +kernel
theorem dX10_readColumn_47 : decode cX10_readColumn 47 = .ok (.iload_n 2, 1) := by decide +kernel
theorem dX10_readColumn_48 : decode cX10_readColumn 48 = .ok (.aload_n 0, 1) := by decide +kernel
theorem dX10_readColumn_49 : decode cX10_readColumn 49 = .ok (.getfield 26, 3) := by decide +kernel
theorem dX10_readColumn_52 : decode cX10_readColumn 52 = .ok (.getfield 130, 3) := by decide +kernel
theorem dX10_readColumn_55 : decode cX10_readColumn 55 = .ok (.if_icmp .lt 14, 3) := by decide +kernel
theorem dX10_readColumn_58 : decode cX10_readColumn 58 = .ok (.aload_n 0, 1) := by decide +kernel
theorem dX10_readColumn_59 : decode cX10_readColumn 59 = .ok (.iconst 2, 1) := by decide +kernel
theorem dX10_readColumn_60 : decode cX10_readColumn 60 = .ok (.aload_n 0, 1) := by decide +kernel
theorem dX10_readColumn_61 : decode cX10_readColumn 61 = .ok (.getfield 52, 3) := by decide +kernel
theorem dX10_readColumn_64 : decode cX10_readColumn 64 = .ok (.invokevirtual 55, 3) := by decide +kernel
theorem dX10_readColumn_67 : decode cX10_readColumn 67 = .ok (.iconst (-1), 1) := by decide +kernel
theorem dX10_readColumn_68 : decode cX10_readColumn 68 = .ok (.ireturn, 1) := by decide +kernel
theorem dX10_readColumn_69 : decode cX10_readColumn 69 = .ok (.iload_n 1, 1) := by decide +kernel
theorem dX10_readColumn_70 : decode cX10_readColumn 70 = .ok (.ifCond .eq 14, 3) := by decide +kernel
theorem dX10_readColumn_73 : decode cX10_readColumn 73 = .ok (.aload_n 0, 1) := by decide +kernel
theorem dX10_readColumn_74 : decode cX10_readColumn 74 = .ok (.iconst 4, 1) := by decide +kernel
theorem dX10_readColumn_75 : decode cX10_readColumn 75 = .ok (.aload_n 0, 1) := by decide +kernel
theorem dX10_readColumn_76 : decode cX10_readColumn 76 = .ok (.getfield 52, 3) := by decide +kernel
theorem dX10_readColumn_79 : decode cX10_readColumn 79 = .ok (.invokevirtual 55, 3) := by decide +kernel
theorem dX10_readColumn_82 : decode cX10_readColumn 82 = .ok (.iconst (-1), 1) := by decide +kernel
theorem dX10_readColumn_83 : decode cX10_readColumn 83 = .ok (.ireturn, 1) := by decide +kernel
theorem dX10_readColumn_84 : decode cX10_readColumn 84 = .ok (.aload_n 0, 1) := by decide +kernel
theorem dX10_readColumn_85 : decode cX10_readColumn 85 = .ok (.invokevirtual 40, 3) := by decide +kernel
theorem dX10_readColumn_88 : decode cX10_readColumn 88 = .ok (.iload_n 2, 1) := by decide +kernel
theorem dX10_readColumn_89 : decode cX10_readColumn 89 = .ok (.ireturn, 1) := by decide +kernel
theorem dX10_readRow_0 : decode cX10_readRow 0 = .ok (.aload_n 0, 1) := by decide +kernel
theorem dX10_readRow_1 : decode cX10_readRow 1 = .ok (.getfield 46, 3) := by decide +kernel
theorem dX10_readRow_4 : decode cX10_readRow 4 = .ok (.iconst 2, 1) := by decide +kernel
theorem dX10_readRow_5 : decode cX10_readRow 5 = .ok (.if_icmp .eq 14, 3) := by decide +kernel
theorem dX10_readRow_8 : decode cX10_readRow 8 = .ok (.aload_n 0, 1) := by decide +kernel
theorem dX10_readRow_9 : decode cX10_readRow 9 = .ok (.iconst 1, 1) := by decide +kernel
theorem dX10_readRow_10 : decode cX10_readRow 10 = .ok (.aload_n 0, 1) := by decide +kernel
theorem dX10_readRow_11 : decode cX10_readRow 11 = .ok (.getfield 52, 3) := by decide +kernel
theorem dX10_readRow_14 : decode cX10_readRow 14 = .ok (.invokevirtual 55, 3) := by decide +kernel
theorem dX10_readRow_17 : decode cX10_readRow 17 = .ok (.iconst (-1), 1) := by decide +kernel
theorem dX10_readRow_18 : decode cX10_readRow 18 = .ok (.ireturn, 1) := by decide +kernel
theorem dX10_readRow_19 : decode cX10_readRow 19 = .ok (.aload_n 0, 1) := by decide +kernel
theorem dX10_readRow_20 : decode cX10_readRow 20 = .ok (.getfield 65, 3) := by decide +kernel
theorem dX10_readRow_23 : decode cX10_readRow 23 = .ok (.iconst 1, 1) := by decide +kernel
theorem dX10_readRow_24 : decode cX10_readRow 24 = .ok (.if_icmp .lt 17, 3) := by decide +kernel
theorem dX10_readRow_27 : decode cX10_readRow 27 = .ok (.aload_n 0, 1) := by decide +kernel
theorem dX10_readRow_28 : decode cX10_readRow 28 = .ok (.getfield 65, 3) := by decide +kernel
theorem dX10_readRow_31 : decode cX10_readRow 31 = .ok (.aload_n 0, 1) := by decide +kernel
theorem dX10_readRow_32 : decode cX10_readRow 32 = .ok (.getfield 26, 3) := by decide +kernel
theorem dX10_readRow_35 : decode cX10_readRow 35 = .ok (.getfield 130, 3) := by decide +kernel
theorem dX10_readRow_38 : decode cX10_readRow 38 = .ok (.if_icmp .le 14, 3) := by decide +kernel
theorem dX10_readRow_41 : decode cX10_readRow 41 = .ok (.aload_n 0, 1) := by decide +kernel
theorem dX10_readRow_42 : decode cX10_readRow 42 = .ok (.iconst 2, 1) := by decide +kernel
theorem dX10_readRow_43 : decode cX10_readRow 43 = .ok (.aload_n 0, 1) := by decide +kernel
theorem dX10_readRow_44 : decode cX10_readRow 44 = .ok (.getfield 52, 3) := by decide +kernel
theorem dX10_readRow_47 : decode cX10_readRow 47 = .ok (.invokevirtual 55, 3) := by decide +kernel
theorem dX10_readRow_50 : decode cX10_readRow 50 = .ok (.iconst (-1), 1) := by decide +kernel
theorem dX10_readRow_51 : decode cX10_readRow 51 = .ok (.ireturn, 1) := by decide +kernel
theorem dX10_readRow_52 : decode cX10_readRow 52 = .ok (.aload_n 0, 1) := by decide +kernel
theorem dX10_readRow_53 : decode cX10_readRow 53 = .ok (.getfield 65, 3) := by decide +kernel
theorem dX10_readRow_56 : decode cX10_readRow 56 = .ok (.iconst 1, 1) := by decide +kernel
theorem dX10_readRow_57 : decode cX10_readRow 57 = .ok (.isub, 1) := by decide +kernel
theorem dX10_readRow_58 : decode cX10_readRow 58 = .ok (.istore_n 1, 1) := by decide +kernel
theorem dX10_readRow_59 : decode cX10_readRow 59 = .ok (.aload_n 0, 1) := by decide +kernel
theorem dX10_readRow_60 : decode cX10_readRow 60 = .ok (.invokevirtual 40, 3) := by decide +kernel
theorem dX10_readRow_63 : decode cX10_readRow 63 = .ok (.iload_n 1, 1) := by decide +kernel
theorem dX10_readRow_64 : decode cX10_readRow 64 = .ok (.ireturn, 1) := by decide +kernel
theorem dX10_fail_0 : decode cX10_fail 0 = .ok (.aload_n 0, 1) := by decide +kernel
theorem dX10_fail_1 : decode cX10_fail 1 = .ok (.iload_n 1, 1) := by decide +kernel
theorem dX10_fail_2 : decode cX10_fail 2 = .ok (.putfield 30, 3) := by decide +kernel
theorem dX10_fail_5 : decode cX10_fail 5 = .ok (.aload_n 0, 1) := by decide +kernel
theorem dX10_fail_6 : decode cX10_fail 6 = .ok (.iload_n 2, 1) := by decide +kernel
theorem dX10_fail_7 : decode cX10_fail 7 = .ok (.putfield 133, 3) := by decide +kernel
theorem dX10_fail_10 : decode cX10_fail 10 = .ok (.return_, 1) := by decide +kernel
theorem dX10_sideWord_0 : decode cX10_sideWord 0 = .ok (.aload_n 0, 1) := by decide +kernel
theorem dX10_sideWord_1 : decode cX10_sideWord 1 = .ok (.ldc 135, 2) := by decide +kernel
theorem dX10_sideWord_3 : decode cX10_sideWord 3 = .ok (.invokevirtual 61, 3) := by decide +kernel
theorem dX10_sideWord_6 : decode cX10_sideWord 6 = .ok (.ifCond .eq 7, 3) := by decide +kernel
theorem dX10_sideWord_9 : decode cX10_sideWord 9 = .ok (.iconst 0, 1) := by decide +kernel
theorem dX10_sideWord_10 : decode cX10_sideWord 10 = .ok (.goto 17, 3) := by decide +kernel
theorem dX10_sideWord_13 : decode cX10_sideWord 13 = .ok (.aload_n 0, 1) := by decide +kernel
theorem dX10_sideWord_14 : decode cX10_sideWord 14 = .ok (.ldc 137, 2) := by decide +kernel
theorem dX10_sideWord_16 : decode cX10_sideWord 16 = .ok (.invokevirtual 61, 3) := by decide +kernel
theorem dX10_sideWord_19 : decode cX10_sideWord 19 = .ok (.ifCond .eq 7, 3) := by decide +kernel
theorem dX10_sideWord_22 : decode cX10_sideWord 22 = .ok (.iconst 1, 1) := by decide +kernel
theorem dX10_sideWord_23 : decode cX10_sideWord 23 = .ok (.goto 4, 3) := by decide +kernel
theorem dX10_sideWord_26 : decode cX10_sideWord 26 = .ok (.iconst (-1), 1) := by decide +kernel
theorem dX10_sideWord_27 : decode cX10_sideWord 27 = .ok (.ireturn, 1) := by decide +kernel
theorem dX10_isWord_0 : decode cX10_isWord 0 = .ok (.aload_n 0, 1) := by decide +kernel
theorem dX10_isWord_1 : decode cX10_isWord 1 = .ok (.getfield 46, 3) := by decide +kernel
theorem dX10_isWord_4 : decode cX10_isWord 4 = .ok (.iconst 1, 1) := by decide +kernel
theorem dX10_isWord_5 : decode cX10_isWord 5 = .ok (.if_icmp .ne 19, 3) := by decide +kernel
theorem dX10_isWord_8 : decode cX10_isWord 8 = .ok (.aload_n 0, 1) := by decide +kernel
theorem dX10_isWord_9 : decode cX10_isWord 9 = .ok (.getfield 37, 3) := by decide +kernel
theorem dX10_isWord_12 : decode cX10_isWord 12 = .ok (.aload_n 0, 1) := by decide +kernel
theorem dX10_isWord_13 : decode cX10_isWord 13 = .ok (.getfield 52, 3) := by decide +kernel
theorem dX10_isWord_16 : decode cX10_isWord 16 = .ok (.isub, 1) := by decide +kernel
theorem dX10_isWord_17 : decode cX10_isWord 17 = .ok (.aload_n 1, 1) := by decide +kernel
theorem dX10_isWord_18 : decode cX10_isWord 18 = .ok (.invokevirtual 139, 3) := by decide +kernel
theorem dX10_isWord_21 : decode cX10_isWord 21 = .ok (.if_icmp .eq 5, 3) := by decide +kernel
theorem dX10_isWord_24 : decode cX10_isWord 24 = .ok (.iconst 0, 1) := by decide +kernel
theorem dX10_isWord_25 : decode cX10_isWord 25 = .ok (.ireturn, 1) := by decide +kernel
theorem dX10_isWord_26 : decode cX10_isWord 26 = .ok (.iconst 0, 1) := by decide +kernel
theorem dX10_isWord_27 : decode cX10_isWord 27 = .ok (.istore_n 2, 1) := by decide +kernel
theorem dX10_isWord_28 : decode cX10_isWord 28 = .ok (.iload_n 2, 1) := by decide +kernel
theorem dX10_isWord_29 : decode cX10_isWord 29 = .ok (.aload_n 1, 1) := by decide +kernel
theorem dX10_isWord_30 : decode cX10_isWord 30 = .ok (.invokevirtual 139, 3) := by decide +kernel
theorem dX10_isWord_33 : decode cX10_isWord 33 = .ok (.if_icmp .ge 32, 3) := by decide +kernel
theorem dX10_isWord_36 : decode cX10_isWord 36 = .ok (.aload_n 0, 1) := by decide +kernel
theorem dX10_isWord_37 : decode cX10_isWord 37 = .ok (.getfield 9, 3) := by decide +kernel
theorem dX10_isWord_40 : decode cX10_isWord 40 = .ok (.aload_n 0, 1) := by decide +kernel
theorem dX10_isWord_41 : decode cX10_isWord 41 = .ok (.getfield 52, 3) := by decide +kernel
theorem dX10_isWord_44 : decode cX10_isWord 44 = .ok (.iload_n 2, 1) := by decide +kernel
theorem dX10_isWord_45 : decode cX10_isWord 45 = .ok (.iadd, 1) := by decide +kernel
theorem dX10_isWord_46 : decode cX10_isWord 46 = .ok (.invokevirtual 125, 3) := by decide +kernel
theorem dX10_isWord_49 : decode cX10_isWord 49 = .ok (.aload_n 1, 1) := by decide +kernel
theorem dX10_isWord_50 : decode cX10_isWord 50 = .ok (.iload_n 2, 1) := by decide +kernel
theorem dX10_isWord_51 : decode cX10_isWord 51 = .ok (.invokevirtual 144, 3) := by decide +kernel
theorem dX10_isWord_54 : decode cX10_isWord 54 = .ok (.if_icmp .eq 5, 3) := by decide +kernel
theorem dX10_isWord_57 : decode cX10_isWord 57 = .ok (.iconst 0, 1) := by decide +kernel
theorem dX10_isWord_58 : decode cX10_isWord 58 = .ok (.ireturn, 1) := by decide +kernel
theorem dX10_isWord_59 : decode cX10_isWord 59 = .ok (.iinc 2 1, 3) := by decide +kernel
theorem dX10_isWord_62 : decode cX10_isWord 62 = .ok (.goto (-34), 3) := by decide +kernel
theorem dX10_isWord_65 : decode cX10_isWord 65 = .ok (.iconst 1, 1) := by decide +kernel
theorem dX10_isWord_66 : decode cX10_isWord 66 = .ok (.ireturn, 1) := by decide +kernel
theorem dX10_advance_0 : decode cX10_advance 0 = .ok (.aload_n 0, 1) := by decide +kernel
theorem dX10_advance_1 : decode cX10_advance 1 = .ok (.aload_n 0, 1) := by decide +kernel
theorem dX10_advance_2 : decode cX10_advance 2 = .ok (.aload_n 0, 1) := by decide +kernel
theorem dX10_advance_3 : decode cX10_advance 3 = .ok (.getfield 37, 3) := by decide +kernel
theorem dX10_advance_6 : decode cX10_advance 6 = .ok (.bipush 32, 2) := by decide +kernel
theorem dX10_advance_8 : decode cX10_advance 8 = .ok (.bipush 32, 2) := by decide +kernel
theorem dX10_advance_10 : decode cX10_advance 10 = .ok (.invokevirtual 148, 3) := by decide +kernel
theorem dX10_advance_13 : decode cX10_advance 13 = .ok (.putfield 52, 3) := by decide +kernel
theorem dX10_advance_16 : decode cX10_advance 16 = .ok (.aload_n 0, 1) := by decide +kernel
theorem dX10_advance_17 : decode cX10_advance 17 = .ok (.getfield 9, 3) := by decide +kernel
theorem dX10_advance_20 : decode cX10_advance 20 = .ok (.aload_n 0, 1) := by decide +kernel
theorem dX10_advance_21 : decode cX10_advance 21 = .ok (.getfield 52, 3) := by decide +kernel
theorem dX10_advance_24 : decode cX10_advance 24 = .ok (.invokevirtual 125, 3) := by decide +kernel
theorem dX10_advance_27 : decode cX10_advance 27 = .ok (.istore_n 1, 1) := by decide +kernel
theorem dX10_advance_28 : decode cX10_advance 28 = .ok (.iload_n 1, 1) := by decide +kernel
theorem dX10_advance_29 : decode cX10_advance 29 = .ok (.bipush 97, 2) := by decide +kernel
theorem dX10_advance_31 : decode cX10_advance 31 = .ok (.if_icmp .lt 33, 3) := by decide +kernel
theorem dX10_advance_34 : decode cX10_advance 34 = .ok (.iload_n 1, 1) := by decide +kernel
theorem dX10_advance_35 : decode cX10_advance 35 = .ok (.bipush 122, 2) := by decide +kernel
theorem dX10_advance_37 : decode cX10_advance 37 = .ok (.if_icmp .gt 27, 3) := by decide +kernel
theorem dX10_advance_40 : decode cX10_advance 40 = .ok (.aload_n 0, 1) := by decide +kernel
theorem dX10_advance_41 : decode cX10_advance 41 = .ok (.iconst 1, 1) := by decide +kernel
theorem dX10_advance_42 : decode cX10_advance 42 = .ok (.putfield 46, 3) := by decide +kernel
theorem dX10_advance_45 : decode cX10_advance 45 = .ok (.aload_n 0, 1) := by decide +kernel
theorem dX10_advance_46 : decode cX10_advance 46 = .ok (.aload_n 0, 1) := by decide +kernel
theorem dX10_advance_47 : decode cX10_advance 47 = .ok (.aload_n 0, 1) := by decide +kernel
theorem dX10_advance_48 : decode cX10_advance 48 = .ok (.getfield 52, 3) := by decide +kernel
theorem dX10_advance_51 : decode cX10_advance 51 = .ok (.bipush 97, 2) := by decide +kernel
theorem dX10_advance_53 : decode cX10_advance 53 = .ok (.bipush 122, 2) := by decide +kernel
theorem dX10_advance_55 : decode cX10_advance 55 = .ok (.invokevirtual 148, 3) := by decide +kernel
theorem dX10_advance_58 : decode cX10_advance 58 = .ok (.putfield 37, 3) := by decide +kernel
theorem dX10_advance_61 : decode cX10_advance 61 = .ok (.goto 93, 3) := by decide +kernel
theorem dX10_advance_64 : decode cX10_advance 64 = .ok (.iload_n 1, 1) := by decide +kernel
theorem dX10_advance_65 : decode cX10_advance 65 = .ok (.bipush 48, 2) := by decide +kernel
theorem dX10_advance_67 : decode cX10_advance 67 = .ok (.if_icmp .lt 41, 3) := by decide +kernel
theorem dX10_advance_70 : decode cX10_advance 70 = .ok (.iload_n 1, 1) := by decide +kernel
theorem dX10_advance_71 : decode cX10_advance 71 = .ok (.bipush 57, 2) := by decide +kernel
theorem dX10_advance_73 : decode cX10_advance 73 = .ok (.if_icmp .gt 35, 3) := by decide +kernel
theorem dX10_advance_76 : decode cX10_advance 76 = .ok (.aload_n 0, 1) := by decide +kernel
theorem dX10_advance_77 : decode cX10_advance 77 = .ok (.iconst 2, 1) := by decide +kernel
theorem dX10_advance_78 : decode cX10_advance 78 = .ok (.putfield 46, 3) := by decide +kernel
theorem dX10_advance_81 : decode cX10_advance 81 = .ok (.aload_n 0, 1) := by decide +kernel
theorem dX10_advance_82 : decode cX10_advance 82 = .ok (.aload_n 0, 1) := by decide +kernel
theorem dX10_advance_83 : decode cX10_advance 83 = .ok (.aload_n 0, 1) := by decide +kernel
theorem dX10_advance_84 : decode cX10_advance 84 = .ok (.getfield 52, 3) := by decide +kernel
theorem dX10_advance_87 : decode cX10_advance 87 = .ok (.bipush 48, 2) := by decide +kernel
theorem dX10_advance_89 : decode cX10_advance 89 = .ok (.bipush 57, 2) := by decide +kernel
theorem dX10_advance_91 : decode cX10_advance 91 = .ok (.invokevirtual 148, 3) := by decide +kernel
theorem dX10_advance_94 : decode cX10_advance 94 = .ok (.putfield 37, 3) := by decide +kernel
theorem dX10_advance_97 : decode cX10_advance 97 = .ok (.aload_n 0, 1) := by decide +kernel
theorem dX10_advance_98 : decode cX10_advance 98 = .ok (.aload_n 0, 1) := by decide +kernel
theorem dX10_advance_99 : decode cX10_advance 99 = .ok (.invokevirtual 152, 3) := by decide +kernel
theorem dX10_advance_102 : decode cX10_advance 102 = .ok (.putfield 65, 3) := by decide +kernel
theorem dX10_advance_105 : decode cX10_advance 105 = .ok (.goto 49, 3) := by decide +kernel
theorem dX10_advance_108 : decode cX10_advance 108 = .ok (.aload_n 0, 1) := by decide +kernel
theorem dX10_advance_109 : decode cX10_advance 109 = .ok (.iload_n 1, 1) := by decide +kernel
theorem dX10_advance_110 : decode cX10_advance 110 = .ok (.iconst (-1), 1) := by decide +kernel
theorem dX10_advance_111 : decode cX10_advance 111 = .ok (.if_icmp .ne 7, 3) := by decide +kernel
theorem dX10_advance_114 : decode cX10_advance 114 = .ok (.iconst 0, 1) := by decide +kernel
theorem dX10_advance_115 : decode cX10_advance 115 = .ok (.goto 14, 3) := by decide +kernel
theorem dX10_advance_118 : decode cX10_advance 118 = .ok (.iload_n 1, 1) := by decide +kernel
theorem dX10_advance_119 : decode cX10_advance 119 = .ok (.bipush 59, 2) := by decide +kernel
theorem dX10_advance_121 : decode cX10_advance 121 = .ok (.if_icmp .ne 7, 3) := by decide +kernel
theorem dX10_advance_124 : decode cX10_advance 124 = .ok (.iconst 3, 1) := by decide +kernel
theorem dX10_advance_125 : decode cX10_advance 125 = .ok (.goto 4, 3) := by decide +kernel
theorem dX10_advance_128 : decode cX10_advance 128 = .ok (.iconst 4, 1) := by decide +kernel
theorem dX10_advance_129 : decode cX10_advance 129 = .ok (.putfield 46, 3) := by decide +kernel
theorem dX10_advance_132 : decode cX10_advance 132 = .ok (.aload_n 0, 1) := by decide +kernel
theorem dX10_advance_133 : decode cX10_advance 133 = .ok (.iload_n 1, 1) := by decide +kernel
theorem dX10_advance_134 : decode cX10_advance 134 = .ok (.iconst (-1), 1) := by decide +kernel
theorem dX10_advance_135 : decode cX10_advance 135 = .ok (.if_icmp .ne 10, 3) := by decide +kernel
theorem dX10_advance_138 : decode cX10_advance 138 = .ok (.aload_n 0, 1) := by decide +kernel
theorem dX10_advance_139 : decode cX10_advance 139 = .ok (.getfield 52, 3) := by decide +kernel
theorem dX10_advance_142 : decode cX10_advance 142 = .ok (.goto 9, 3) := by decide +kernel
theorem dX10_advance_145 : decode cX10_advance 145 = .ok (.aload_n 0, 1) := by decide +kernel
theorem dX10_advance_146 : decode cX10_advance 146 = .ok (.getfield 52, 3) := by decide +kernel
theorem dX10_advance_149 : decode cX10_advance 149 = .ok (.iconst 1, 1) := by decide +kernel
theorem dX10_advance_150 : decode cX10_advance 150 = .ok (.iadd, 1) := by decide +kernel
theorem dX10_advance_151 : decode cX10_advance 151 = .ok (.putfield 37, 3) := by decide +kernel
theorem dX10_advance_154 : decode cX10_advance 154 = .ok (.return_, 1) := by decide +kernel
theorem dX10_runEnd_0 : decode cX10_runEnd 0 = .ok (.iload_n 1, 1) := by decide +kernel
theorem dX10_runEnd_1 : decode cX10_runEnd 1 = .ok (.istore 4, 2) := by decide +kernel
theorem dX10_runEnd_3 : decode cX10_runEnd 3 = .ok (.iload 4, 2) := by decide +kernel
theorem dX10_runEnd_5 : decode cX10_runEnd 5 = .ok (.aload_n 0, 1) := by decide +kernel
theorem dX10_runEnd_6 : decode cX10_runEnd 6 = .ok (.getfield 9, 3) := by decide +kernel
theorem dX10_runEnd_9 : decode cX10_runEnd 9 = .ok (.getfield 155, 3) := by decide +kernel
theorem dX10_runEnd_12 : decode cX10_runEnd 12 = .ok (.if_icmp .ge 35, 3) := by decide +kernel
theorem dX10_runEnd_15 : decode cX10_runEnd 15 = .ok (.aload_n 0, 1) := by decide +kernel
theorem dX10_runEnd_16 : decode cX10_runEnd 16 = .ok (.getfield 9, 3) := by decide +kernel
theorem dX10_runEnd_19 : decode cX10_runEnd 19 = .ok (.iload 4, 2) := by decide +kernel
theorem dX10_runEnd_21 : decode cX10_runEnd 21 = .ok (.invokevirtual 125, 3) := by decide +kernel
theorem dX10_runEnd_24 : decode cX10_runEnd 24 = .ok (.iload_n 2, 1) := by decide +kernel
theorem dX10_runEnd_25 : decode cX10_runEnd 25 = .ok (.if_icmp .lt 22, 3) := by decide +kernel
theorem dX10_runEnd_28 : decode cX10_runEnd 28 = .ok (.aload_n 0, 1) := by decide +kernel
theorem dX10_runEnd_29 : decode cX10_runEnd 29 = .ok (.getfield 9, 3) := by decide +kernel
theorem dX10_runEnd_32 : decode cX10_runEnd 32 = .ok (.iload 4, 2) := by decide +kernel
theorem dX10_runEnd_34 : decode cX10_runEnd 34 = .ok (.invokevirtual 125, 3) := by decide +kernel
theorem dX10_runEnd_37 : decode cX10_runEnd 37 = .ok (.iload_n 3, 1) := by decide +kernel
theorem dX10_runEnd_38 : decode cX10_runEnd 38 = .ok (.if_icmp .gt 9, 3) := by decide +kernel
theorem dX10_runEnd_41 : decode cX10_runEnd 41 = .ok (.iinc 4 1, 3) := by decide +kernel
theorem dX10_runEnd_44 : decode cX10_runEnd 44 = .ok (.goto (-41), 3) := by decide +kernel
theorem dX10_runEnd_47 : decode cX10_runEnd 47 = .ok (.iload 4, 2) := by decide +kernel
theorem dX10_runEnd_49 : decode cX10_runEnd 49 = .ok (.ireturn, 1) := by decide +kernel
theorem dX10_readNumber_0 : decode cX10_readNumber 0 = .ok (.iconst 0, 1) := by decide +kernel
theorem dX10_readNumber_1 : decode cX10_readNumber 1 = .ok (.istore_n 1, 1) := by decide +kernel
theorem dX10_readNumber_2 : decode cX10_readNumber 2 = .ok (.aload_n 0, 1) := by decide +kernel
theorem dX10_readNumber_3 : decode cX10_readNumber 3 = .ok (.getfield 52, 3) := by decide +kernel
theorem dX10_readNumber_6 : decode cX10_readNumber 6 = .ok (.istore_n 2, 1) := by decide +kernel
theorem dX10_readNumber_7 : decode cX10_readNumber 7 = .ok (.iload_n 2, 1) := by decide +kernel
theorem dX10_readNumber_8 : decode cX10_readNumber 8 = .ok (.aload_n 0, 1) := by decide +kernel
theorem dX10_readNumber_9 : decode cX10_readNumber 9 = .ok (.getfield 37, 3) := by decide +kernel
theorem dX10_readNumber_12 : decode cX10_readNumber 12 = .ok (.if_icmp .ge 32, 3) := by decide +kernel
theorem dX10_readNumber_15 : decode cX10_readNumber 15 = .ok (.sipush 1000, 3) := by decide +kernel
theorem dX10_readNumber_18 : decode cX10_readNumber 18 = .ok (.bipush 10, 2) := by decide +kernel
theorem dX10_readNumber_20 : decode cX10_readNumber 20 = .ok (.iload_n 1, 1) := by decide +kernel
theorem dX10_readNumber_21 : decode cX10_readNumber 21 = .ok (.imul, 1) := by decide +kernel
theorem dX10_readNumber_22 : decode cX10_readNumber 22 = .ok (.aload_n 0, 1) := by decide +kernel
theorem dX10_readNumber_23 : decode cX10_readNumber 23 = .ok (.getfield 9, 3) := by decide +kernel
theorem dX10_readNumber_26 : decode cX10_readNumber 26 = .ok (.iload_n 2, 1) := by decide +kernel
theorem dX10_readNumber_27 : decode cX10_readNumber 27 = .ok (.invokevirtual 125, 3) := by decide +kernel
theorem dX10_readNumber_30 : decode cX10_readNumber 30 = .ok (.iadd, 1) := by decide +kernel
theorem dX10_readNumber_31 : decode cX10_readNumber 31 = .ok (.bipush 48, 2) := by decide +kernel
theorem dX10_readNumber_33 : decode cX10_readNumber 33 = .ok (.isub, 1) := by decide +kernel
theorem dX10_readNumber_34 : decode cX10_readNumber 34 = .ok (.invokestatic 157, 3) := by decide +kernel
theorem dX10_readNumber_37 : decode cX10_readNumber 37 = .ok (.istore_n 1, 1) := by decide +kernel
theorem dX10_readNumber_38 : decode cX10_readNumber 38 = .ok (.iinc 2 1, 3) := by decide +kernel
theorem dX10_readNumber_41 : decode cX10_readNumber 41 = .ok (.goto (-34), 3) := by decide +kernel
theorem dX10_readNumber_44 : decode cX10_readNumber 44 = .ok (.iload_n 1, 1) := by decide +kernel
theorem dX10_readNumber_45 : decode cX10_readNumber 45 = .ok (.ireturn, 1) := by decide +kernel
theorem dX11_init_0 : decode cX11_init 0 = .ok (.aload_n 0, 1) := by decide +kernel
theorem dX11_init_1 : decode cX11_init 1 = .ok (.invokespecial 1, 3) := by decide +kernel
theorem dX11_init_4 : decode cX11_init 4 = .ok (.aload_n 0, 1) := by decide +kernel
theorem dX11_init_5 : decode cX11_init 5 = .ok (.new 7, 3) := by decide +kernel
theorem dX11_init_8 : decode cX11_init 8 = .ok (.dup, 1) := by decide +kernel
theorem dX11_init_9 : decode cX11_init 9 = .ok (.invokespecial 9, 3) := by decide +kernel
theorem dX11_init_12 : decode cX11_init 12 = .ok (.putfield 10, 3) := by decide +kernel
theorem dX11_init_15 : decode cX11_init 15 = .ok (.aload_n 0, 1) := by decide +kernel
theorem dX11_init_16 : decode cX11_init 16 = .ok (.new 16, 3) := by decide +kernel
theorem dX11_init_19 : decode cX11_init 19 = .ok (.dup, 1) := by decide +kernel
theorem dX11_init_20 : decode cX11_init 20 = .ok (.aload_n 0, 1) := by decide +kernel
theorem dX11_init_21 : decode cX11_init 21 = .ok (.getfield 10, 3) := by decide +kernel
theorem dX11_init_24 : decode cX11_init 24 = .ok (.invokespecial 18, 3) := by decide +kernel
theorem dX11_init_27 : decode cX11_init 27 = .ok (.putfield 21, 3) := by decide +kernel
theorem dX11_init_30 : decode cX11_init 30 = .ok (.aload_n 0, 1) := by decide +kernel
theorem dX11_init_31 : decode cX11_init 31 = .ok (.new 25, 3) := by decide +kernel
theorem dX11_init_34 : decode cX11_init 34 = .ok (.dup, 1) := by decide +kernel
theorem dX11_init_35 : decode cX11_init 35 = .ok (.invokespecial 27, 3) := by decide +kernel
theorem dX11_init_38 : decode cX11_init 38 = .ok (.putfield 28, 3) := by decide +kernel
theorem dX11_init_41 : decode cX11_init 41 = .ok (.aload_n 0, 1) := by decide +kernel
theorem dX11_init_42 : decode cX11_init 42 = .ok (.new 25, 3) := by decide +kernel
theorem dX11_init_45 : decode cX11_init 45 = .ok (.dup, 1) := by decide +kernel
theorem dX11_init_46 : decode cX11_init 46 = .ok (.invokespecial 27, 3) := by decide +kernel
theorem dX11_init_49 : decode cX11_init 49 = .ok (.putfield 32, 3) := by decide +kernel
theorem dX11_init_52 : decode cX11_init 52 = .ok (.aload_n 0, 1) := by decide +kernel
theorem dX11_init_53 : decode cX11_init 53 = .ok (.new 35, 3) := by decide +kernel
theorem dX11_init_56 : decode cX11_init 56 = .ok (.dup, 1) := by decide +kernel
theorem dX11_init_57 : decode cX11_init 57 = .ok (.invokespecial 37, 3) := by decide +kernel
theorem dX11_init_60 : decode cX11_init 60 = .ok (.putfield 38, 3) := by decide +kernel
theorem dX11_init_63 : decode cX11_init 63 = .ok (.aload_n 0, 1) := by decide +kernel
theorem dX11_init_64 : decode cX11_init 64 = .ok (.new 25, 3) := by decide +kernel
theorem dX11_init_67 : decode cX11_init 67 = .ok (.dup, 1) := by decide +kernel
theorem dX11_init_68 : decode cX11_init 68 = .ok (.invokespecial 27, 3) := by decide +kernel
theorem dX11_init_71 : decode cX11_init 71 = .ok (.putfield 42, 3) := by decide +kernel
theorem dX11_init_74 : decode cX11_init 74 = .ok (.aload_n 0, 1) := by decide +kernel
theorem dX11_init_75 : decode cX11_init 75 = .ok (.new 25, 3) := by decide +kernel
theorem dX11_init_78 : decode cX11_init 78 = .ok (.dup, 1) := by decide +kernel
theorem dX11_init_79 : decode cX11_init 79 = .ok (.invokespecial 27, 3) := by decide +kernel
theorem dX11_init_82 : decode cX11_init 82 = .ok (.putfield 45, 3) := by decide +kernel
theorem dX11_init_85 : decode cX11_init 85 = .ok (.aload_n 0, 1) := by decide +kernel
theorem dX11_init_86 : decode cX11_init 86 = .ok (.new 48, 3) := by decide +kernel
theorem dX11_init_89 : decode cX11_init 89 = .ok (.dup, 1) := by decide +kernel
theorem dX11_init_90 : decode cX11_init 90 = .ok (.sipush 400, 3) := by decide +kernel
theorem dX11_init_93 : decode cX11_init 93 = .ok (.invokespecial 50, 3) := by decide +kernel
theorem dX11_init_96 : decode cX11_init 96 = .ok (.putfield 53, 3) := by decide +kernel
theorem dX11_init_99 : decode cX11_init 99 = .ok (.aload_n 0, 1) := by decide +kernel
theorem dX11_init_100 : decode cX11_init 100 = .ok (.new 48, 3) := by decide +kernel
theorem dX11_init_103 : decode cX11_init 103 = .ok (.dup, 1) := by decide +kernel
theorem dX11_init_104 : decode cX11_init 104 = .ok (.bipush 9, 2) := by decide +kernel
theorem dX11_init_106 : decode cX11_init 106 = .ok (.invokespecial 50, 3) := by decide +kernel
theorem dX11_init_109 : decode cX11_init 109 = .ok (.putfield 57, 3) := by decide +kernel
theorem dX11_init_112 : decode cX11_init 112 = .ok (.aload_n 0, 1) := by decide +kernel
theorem dX11_init_113 : decode cX11_init 113 = .ok (.new 60, 3) := by decide +kernel
theorem dX11_init_116 : decode cX11_init 116 = .ok (.dup, 1) := by decide +kernel
theorem dX11_init_117 : decode cX11_init 117 = .ok (.aload_n 0, 1) := by decide +kernel
theorem dX11_init_118 : decode cX11_init 118 = .ok (.getfield 53, 3) := by decide +kernel
theorem dX11_init_121 : decode cX11_init 121 = .ok (.aload_n 0, 1) := by decide +kernel
theorem dX11_init_122 : decode cX11_init 122 = .ok (.getfield 10, 3) := by decide +kernel
theorem dX11_init_125 : decode cX11_init 125 = .ok (.aload_n 0, 1) := by decide +kernel
theorem dX11_init_126 : decode cX11_init 126 = .ok (.getfield 21, 3) := by decide +kernel
theorem dX11_init_129 : decode cX11_init 129 = .ok (.invokespecial 62, 3) := by decide +kernel
theorem dX11_init_132 : decode cX11_init 132 = .ok (.putfield 65, 3) := by decide +kernel
theorem dX11_init_135 : decode cX11_init 135 = .ok (.aload_n 0, 1) := by decide +kernel
theorem dX11_init_136 : decode cX11_init 136 = .ok (.new 69, 3) := by decide +kernel
theorem dX11_init_139 : decode cX11_init 139 = .ok (.dup, 1) := by decide +kernel
theorem dX11_init_140 : decode cX11_init 140 = .ok (.aload_n 0, 1) := by decide +kernel
theorem dX11_init_141 : decode cX11_init 141 = .ok (.getfield 10, 3) := by decide +kernel
theorem dX11_init_144 : decode cX11_init 144 = .ok (.invokespecial 71, 3) := by decide +kernel
theorem dX11_init_147 : decode cX11_init 147 = .ok (.putfield 72, 3) := by decide +kernel
theorem dX11_init_150 : decode cX11_init 150 = .ok (.aload_n 0, 1) := by decide +kernel
theorem dX11_init_151 : decode cX11_init 151 = .ok (.new 76, 3) := by decide +kernel
theorem dX11_init_154 : decode cX11_init 154 = .ok (.dup, 1) := by decide +kernel
theorem dX11_init_155 : decode cX11_init 155 = .ok (.aload_n 0, 1) := by decide +kernel
theorem dX11_init_156 : decode cX11_init 156 = .ok (.getfield 10, 3) := by decide +kernel
theorem dX11_init_159 : decode cX11_init 159 = .ok (.invokespecial 78, 3) := by decide +kernel
theorem dX11_init_162 : decode cX11_init 162 = .ok (.putfield 79, 3) := by decide +kernel
theorem dX11_init_165 : decode cX11_init 165 = .ok (.aload_n 0, 1) := by decide +kernel
theorem dX11_init_166 : decode cX11_init 166 = .ok (.new 76, 3) := by decide +kernel
theorem dX11_init_169 : decode cX11_init 169 = .ok (.dup, 1) := by decide +kernel
theorem dX11_init_170 : decode cX11_init 170 = .ok (.aload_n 0, 1) := by decide +kernel
theorem dX11_init_171 : decode cX11_init 171 = .ok (.getfield 10, 3) := by decide +kernel
theorem dX11_init_174 : decode cX11_init 174 = .ok (.invokespecial 78, 3) := by decide +kernel
theorem dX11_init_177 : decode cX11_init 177 = .ok (.putfield 83, 3) := by decide +kernel
theorem dX11_init_180 : decode cX11_init 180 = .ok (.aload_n 0, 1) := by decide +kernel
theorem dX11_init_181 : decode cX11_init 181 = .ok (.new 86, 3) := by decide +kernel
theorem dX11_init_184 : decode cX11_init 184 = .ok (.dup, 1) := by decide +kernel
theorem dX11_init_185 : decode cX11_init 185 = .ok (.aload_n 0, 1) := by decide +kernel
theorem dX11_init_186 : decode cX11_init 186 = .ok (.getfield 10, 3) := by decide +kernel
theorem dX11_init_189 : decode cX11_init 189 = .ok (.invokespecial 88, 3) := by decide +kernel
theorem dX11_init_192 : decode cX11_init 192 = .ok (.putfield 89, 3) := by decide +kernel
theorem dX11_init_195 : decode cX11_init 195 = .ok (.aload_n 0, 1) := by decide +kernel
theorem dX11_init_196 : decode cX11_init 196 = .ok (.new 93, 3) := by decide +kernel
theorem dX11_init_199 : decode cX11_init 199 = .ok (.dup, 1) := by decide +kernel
theorem dX11_init_200 : decode cX11_init 200 = .ok (.aload_n 0, 1) := by decide +kernel
theorem dX11_init_201 : decode cX11_init 201 = .ok (.getfield 10, 3) := by decide +kernel
theorem dX11_init_204 : decode cX11_init 204 = .ok (.aload_n 0, 1) := by decide +kernel
theorem dX11_init_205 : decode cX11_init 205 = .ok (.getfield 21, 3) := by decide +kernel
theorem dX11_init_208 : decode cX11_init 208 = .ok (.invokespecial 95, 3) := by decide +kernel
theorem dX11_init_211 : decode cX11_init 211 = .ok (.putfield 98, 3) := by decide +kernel
theorem dX11_init_214 : decode cX11_init 214 = .ok (.aload_n 0, 1) := by decide +kernel
theorem dX11_init_215 : decode cX11_init 215 = .ok (.new 102, 3) := by decide +kernel
theorem dX11_init_218 : decode cX11_init 218 = .ok (.dup, 1) := by decide +kernel
theorem dX11_init_219 : decode cX11_init 219 = .ok (.aload_n 0, 1) := by decide +kernel
theorem dX11_init_220 : decode cX11_init 220 = .ok (.getfield 10, 3) := by decide +kernel
theorem dX11_init_223 : decode cX11_init 223 = .ok (.aload_n 0, 1) := by decide +kernel
theorem dX11_init_224 : decode cX11_init 224 = .ok (.getfield 21, 3) := by decide +kernel
theorem dX11_init_227 : decode cX11_init 227 = .ok (.invokespecial 104, 3) := by decide +kernel
theorem dX11_init_230 : decode cX11_init 230 = .ok (.putfield 105, 3) := by decide +kernel
theorem dX11_init_233 : decode cX11_init 233 = .ok (.aload_n 0, 1) := by decide +kernel
theorem dX11_init_234 : decode cX11_init 234 = .ok (.getfield 10, 3) := by decide +kernel
theorem dX11_init_237 : decode cX11_init 237 = .ok (.iconst 2, 1) := by decide +kernel
theorem dX11_init_238 : decode cX11_init 238 = .ok (.invokevirtual 109, 3) := by decide +kernel
theorem dX11_init_241 : decode cX11_init 241 = .ok (.aload_n 0, 1) := by decide +kernel
theorem dX11_init_242 : decode cX11_init 242 = .ok (.getfield 28, 3) := by decide +kernel
theorem dX11_init_245 : decode cX11_init 245 = .ok (.iconst 2, 1) := by decide +kernel
theorem dX11_init_246 : decode cX11_init 246 = .ok (.invokevirtual 112, 3) := by decide +kernel
theorem dX11_init_249 : decode cX11_init 249 = .ok (.return_, 1) := by decide +kernel
theorem dX11_append_0 : decode cX11_append 0 = .ok (.iconst 0, 1) := by decide +kernel
theorem dX11_append_1 : decode cX11_append 1 = .ok (.istore_n 3, 1) := by decide +kernel
theorem dX11_append_2 : decode cX11_append 2 = .ok (.bipush 56, 2) := by decide +kernel
theorem dX11_append_4 : decode cX11_append 4 = .ok (.istore 4, 2) := by decide +kernel
theorem dX11_append_6 : decode cX11_append 6 = .ok (.iload 4, 2) := by decide +kernel
theorem dX11_append_8 : decode cX11_append 8 = .ok (.ifCond .lt 25, 3) := by decide +kernel
theorem dX11_append_11 : decode cX11_append 11 = .ok (.lload_n 1, 1) := by decide +kernel
theorem dX11_append_12 : decode cX11_append 12 = .ok (.iload 4, 2) := by decide +kernel
theorem dX11_append_14 : decode cX11_append 14 = .ok (.lushr, 1) := by decide +kernel
theorem dX11_append_15 : decode cX11_append 15 = .ok (.ldc2_w 115, 3) := by decide +kernel
theorem dX11_append_18 : decode cX11_append 18 = .ok (.land, 1) := by decide +kernel
theorem dX11_append_19 : decode cX11_append 19 = .ok (.lconst 0, 1) := by decide +kernel
theorem dX11_append_20 : decode cX11_append 20 = .ok (.lcmp, 1) := by decide +kernel
theorem dX11_append_21 : decode cX11_append 21 = .ok (.ifCond .eq 6, 3) := by decide +kernel
theorem dX11_append_24 : decode cX11_append 24 = .ok (.iinc 3 1, 3) := by decide +kernel
theorem dX11_append_27 : decode cX11_append 27 = .ok (.iinc 4 (-8), 3) := by decide +kernel
theorem dX11_append_30 : decode cX11_append 30 = .ok (.goto (-24), 3) := by decide +kernel
theorem dX11_append_33 : decode cX11_append 33 = .ok (.aload_n 0, 1) := by decide +kernel
theorem dX11_append_34 : decode cX11_append 34 = .ok (.getfield 53, 3) := by decide +kernel
theorem dX11_append_37 : decode cX11_append 37 = .ok (.getfield 117, 3) := by decide +kernel
theorem dX11_append_40 : decode cX11_append 40 = .ok (.iload_n 3, 1) := by decide +kernel
theorem dX11_append_41 : decode cX11_append 41 = .ok (.iadd, 1) := by decide +kernel
theorem dX11_append_42 : decode cX11_append 42 = .ok (.sipush 400, 3) := by decide +kernel
theorem dX11_append_45 : decode cX11_append 45 = .ok (.if_icmp .le 6, 3) := by decide +kernel
theorem dX11_append_48 : decode cX11_append 48 = .ok (.bipush (-2), 2) := by decide +kernel
theorem dX11_append_50 : decode cX11_append 50 = .ok (.ireturn, 1) := by decide +kernel
theorem dX11_append_51 : decode cX11_append 51 = .ok (.bipush 56, 2) := by decide +kernel
theorem dX11_append_53 : decode cX11_append 53 = .ok (.istore 4, 2) := by decide +kernel
theorem dX11_append_55 : decode cX11_append 55 = .ok (.iload 4, 2) := by decide +kernel
theorem dX11_append_57 : decode cX11_append 57 = .ok (.ifCond .lt 34, 3) := by decide +kernel
theorem dX11_append_60 : decode cX11_append 60 = .ok (.lload_n 1, 1) := by decide +kernel
theorem dX11_append_61 : decode cX11_append 61 = .ok (.iload 4, 2) := by decide +kernel
theorem dX11_append_63 : decode cX11_append 63 = .ok (.lushr, 1) := by decide +kernel
theorem dX11_append_64 : decode cX11_append 64 = .ok (.ldc2_w 115, 3) := by decide +kernel
theorem dX11_append_67 : decode cX11_append 67 = .ok (.land, 1) := by decide +kernel
theorem dX11_append_68 : decode cX11_append 68 = .ok (.l2i, 1) := by decide +kernel
theorem dX11_append_69 : decode cX11_append 69 = .ok (.istore 5, 2) := by decide +kernel
theorem dX11_append_71 : decode cX11_append 71 = .ok (.iload 5, 2) := by decide +kernel
theorem dX11_append_73 : decode cX11_append 73 = .ok (.ifCond .eq 12, 3) := by decide +kernel
theorem dX11_append_76 : decode cX11_append 76 = .ok (.aload_n 0, 1) := by decide +kernel
theorem dX11_append_77 : decode cX11_append 77 = .ok (.getfield 53, 3) := by decide +kernel
theorem dX11_append_80 : decode cX11_append 80 = .ok (.iload 5, 2) := by decide +kernel
theorem dX11_append_82 : decode cX11_append 82 = .ok (.invokevirtual 121, 3) := by decide +kernel
theorem dX11_append_85 : decode cX11_append 85 = .ok (.iinc 4 (-8), 3) := by decide +kernel
theorem dX11_append_88 : decode cX11_append 88 = .ok (.goto (-33), 3) := by decide +kernel
theorem dX11_append_91 : decode cX11_append 91 = .ok (.aload_n 0, 1) := by decide +kernel
theorem dX11_append_92 : decode cX11_append 92 = .ok (.getfield 53, 3) := by decide +kernel
theorem dX11_append_95 : decode cX11_append 95 = .ok (.getfield 117, 3) := by decide +kernel
theorem dX11_append_98 : decode cX11_append 98 = .ok (.ireturn, 1) := by decide +kernel
theorem dX11_load_0 : decode cX11_load 0 = .ok (.aload_n 0, 1) := by decide +kernel
theorem dX11_load_1 : decode cX11_load 1 = .ok (.getfield 65, 3) := by decide +kernel
theorem dX11_load_4 : decode cX11_load 4 = .ok (.invokevirtual 124, 3) := by decide +kernel
theorem dX11_load_7 : decode cX11_load 7 = .ok (.istore_n 1, 1) := by decide +kernel
theorem dX11_load_8 : decode cX11_load 8 = .ok (.aload_n 0, 1) := by decide +kernel
theorem dX11_load_9 : decode cX11_load 9 = .ok (.getfield 53, 3) := by decide +kernel
theorem dX11_load_12 : decode cX11_load 12 = .ok (.invokevirtual 128, 3) := by decide +kernel
theorem dX11_load_15 : decode cX11_load 15 = .ok (.iload_n 1, 1) := by decide +kernel
theorem dX11_load_16 : decode cX11_load 16 = .ok (.ifCond .ne 28, 3) := by decide +kernel
theorem dX11_load_19 : decode cX11_load 19 = .ok (.aload_n 0, 1) := by decide +kernel
theorem dX11_load_20 : decode cX11_load 20 = .ok (.getfield 10, 3) := by decide +kernel
theorem dX11_load_23 : decode cX11_load 23 = .ok (.aload_n 0, 1) := by decide +kernel
theorem dX11_load_24 : decode cX11_load 24 = .ok (.getfield 28, 3) := by decide +kernel
theorem dX11_load_27 : decode cX11_load 27 = .ok (.getfield 131, 3) := by decide +kernel
theorem dX11_load_30 : decode cX11_load 30 = .ok (.invokevirtual 109, 3) := by decide +kernel
theorem dX11_load_33 : decode cX11_load 33 = .ok (.bipush (-100), 2) := by decide +kernel
theorem dX11_load_35 : decode cX11_load 35 = .ok (.aload_n 0, 1) := by decide +kernel
theorem dX11_load_36 : decode cX11_load 36 = .ok (.getfield 65, 3) := by decide +kernel
theorem dX11_load_39 : decode cX11_load 39 = .ok (.getfield 134, 3) := by decide +kernel
theorem dX11_load_42 : decode cX11_load 42 = .ok (.isub, 1) := by decide +kernel
theorem dX11_load_43 : decode cX11_load 43 = .ok (.ireturn, 1) := by decide +kernel
theorem dX11_load_44 : decode cX11_load 44 = .ok (.aload_n 0, 1) := by decide +kernel
theorem dX11_load_45 : decode cX11_load 45 = .ok (.getfield 28, 3) := by decide +kernel
theorem dX11_load_48 : decode cX11_load 48 = .ok (.aload_n 0, 1) := by decide +kernel
theorem dX11_load_49 : decode cX11_load 49 = .ok (.getfield 65, 3) := by decide +kernel
theorem dX11_load_52 : decode cX11_load 52 = .ok (.getfield 137, 3) := by decide +kernel
theorem dX11_load_55 : decode cX11_load 55 = .ok (.invokevirtual 140, 3) := by decide +kernel
theorem dX11_load_58 : decode cX11_load 58 = .ok (.aload_n 0, 1) := by decide +kernel
theorem dX11_load_59 : decode cX11_load 59 = .ok (.getfield 10, 3) := by decide +kernel
theorem dX11_load_62 : decode cX11_load 62 = .ok (.aload_n 0, 1) := by decide +kernel
theorem dX11_load_63 : decode cX11_load 63 = .ok (.getfield 28, 3) := by decide +kernel
theorem dX11_load_66 : decode cX11_load 66 = .ok (.getfield 131, 3) := by decide +kernel
theorem dX11_load_69 : decode cX11_load 69 = .ok (.invokevirtual 109, 3) := by decide +kernel
theorem dX11_load_72 : decode cX11_load 72 = .ok (.aload_n 0, 1) := by decide +kernel
theorem dX11_load_73 : decode cX11_load 73 = .ok (.getfield 38, 3) := by decide +kernel
theorem dX11_load_76 : decode cX11_load 76 = .ok (.invokevirtual 144, 3) := by decide +kernel
theorem dX11_load_79 : decode cX11_load 79 = .ok (.aload_n 0, 1) := by decide +kernel
theorem dX11_load_80 : decode cX11_load 80 = .ok (.getfield 28, 3) := by decide +kernel
theorem dX11_load_83 : decode cX11_load 83 = .ok (.getfield 131, 3) := by decide +kernel
theorem dX11_load_86 : decode cX11_load 86 = .ok (.ireturn, 1) := by decide +kernel
theorem dX11_size_0 : decode cX11_size 0 = .ok (.iload_n 1, 1) := by decide +kernel
theorem dX11_size_1 : decode cX11_size 1 = .ok (.tableswitch 140 0 9 #[55, 63, 72, 81, 90, 98, 106, 111, 124, 132], 55) := by decide +kernel
theorem dX11_size_56 : decode cX11_size 56 = .ok (.aload_n 0, 1) := by decide +kernel
theorem dX11_size_57 : decode cX11_size 57 = .ok (.getfield 28, 3) := by decide +kernel
theorem dX11_size_60 : decode cX11_size 60 = .ok (.getfield 131, 3) := by decide +kernel
theorem dX11_size_63 : decode cX11_size 63 = .ok (.ireturn, 1) := by decide +kernel
theorem dX11_size_64 : decode cX11_size 64 = .ok (.aload_n 0, 1) := by decide +kernel
theorem dX11_size_65 : decode cX11_size 65 = .ok (.getfield 28, 3) := by decide +kernel
theorem dX11_size_68 : decode cX11_size 68 = .ok (.iconst 0, 1) := by decide +kernel
theorem dX11_size_69 : decode cX11_size 69 = .ok (.invokevirtual 151, 3) := by decide +kernel
theorem dX11_size_72 : decode cX11_size 72 = .ok (.ireturn, 1) := by decide +kernel
theorem dX11_size_73 : decode cX11_size 73 = .ok (.aload_n 0, 1) := by decide +kernel
theorem dX11_size_74 : decode cX11_size 74 = .ok (.getfield 28, 3) := by decide +kernel
theorem dX11_size_77 : decode cX11_size 77 = .ok (.iconst 1, 1) := by decide +kernel
theorem dX11_size_78 : decode cX11_size 78 = .ok (.invokevirtual 151, 3) := by decide +kernel
theorem dX11_size_81 : decode cX11_size 81 = .ok (.ireturn, 1) := by decide +kernel
theorem dX11_size_82 : decode cX11_size 82 = .ok (.aload_n 0, 1) := by decide +kernel
theorem dX11_size_83 : decode cX11_size 83 = .ok (.getfield 28, 3) := by decide +kernel
theorem dX11_size_86 : decode cX11_size 86 = .ok (.iconst (-1), 1) := by decide +kernel
theorem dX11_size_87 : decode cX11_size 87 = .ok (.invokevirtual 151, 3) := by decide +kernel
theorem dX11_size_90 : decode cX11_size 90 = .ok (.ireturn, 1) := by decide +kernel
theorem dX11_size_91 : decode cX11_size 91 = .ok (.aload_n 0, 1) := by decide +kernel
theorem dX11_size_92 : decode cX11_size 92 = .ok (.getfield 28, 3) := by decide +kernel
theorem dX11_size_95 : decode cX11_size 95 = .ok (.getfield 155, 3) := by decide +kernel
theorem dX11_size_98 : decode cX11_size 98 = .ok (.ireturn, 1) := by decide +kernel
theorem dX11_size_99 : decode cX11_size 99 = .ok (.aload_n 0, 1) := by decide +kernel
theorem dX11_size_100 : decode cX11_size 100 = .ok (.getfield 28, 3) := by decide +kernel
theorem dX11_size_103 : decode cX11_size 103 = .ok (.getfield 158, 3) := by decide +kernel
theorem dX11_size_106 : decode cX11_size 106 = .ok (.ireturn, 1) := by decide +kernel
theorem dX11_size_107 : decode cX11_size 107 = .ok (.aload_n 0, 1) := by decide +kernel
theorem dX11_size_108 : decode cX11_size 108 = .ok (.invokevirtual 161, 3) := by decide +kernel
theorem dX11_size_111 : decode cX11_size 111 = .ok (.ireturn, 1) := by decide +kernel
theorem dX11_size_112 : decode cX11_size 112 = .ok (.aload_n 0, 1) := by decide +kernel
theorem dX11_size_113 : decode cX11_size 113 = .ok (.invokevirtual 165, 3) := by decide +kernel
theorem dX11_size_116 : decode cX11_size 116 = .ok (.ifCond .eq 7, 3) := by decide +kernel
theorem dX11_size_119 : decode cX11_size 119 = .ok (.iconst 1, 1) := by decide +kernel
theorem dX11_size_120 : decode cX11_size 120 = .ok (.goto 4, 3) := by decide +kernel
theorem dX11_size_123 : decode cX11_size 123 = .ok (.iconst 0, 1) := by decide +kernel
theorem dX11_size_124 : decode cX11_size 124 = .ok (.ireturn, 1) := by decide +kernel
theorem dX11_size_125 : decode cX11_size 125 = .ok (.aload_n 0, 1) := by decide +kernel
theorem dX11_size_126 : decode cX11_size 126 = .ok (.getfield 28, 3) := by decide +kernel
theorem dX11_size_129 : decode cX11_size 129 = .ok (.getfield 168, 3) := by decide +kernel
theorem dX11_size_132 : decode cX11_size 132 = .ok (.ireturn, 1) := by decide +kernel
theorem dX11_size_133 : decode cX11_size 133 = .ok (.aload_n 0, 1) := by decide +kernel
theorem dX11_size_134 : decode cX11_size 134 = .ok (.getfield 38, 3) := by decide +kernel
theorem dX11_size_137 : decode cX11_size 137 = .ok (.getfield 171, 3) := by decide +kernel
theorem dX11_size_140 : decode cX11_size 140 = .ok (.ireturn, 1) := by decide +kernel
theorem dX11_size_141 : decode cX11_size 141 = .ok (.new 173, 3) := by decide +kernel
theorem dX11_size_144 : decode cX11_size 144 = .ok (.dup, 1) := by decide +kernel
theorem dX11_size_145 : decode cX11_size 145 = .ok (.ldc 175, 2) := by decide +kernel
theorem dX11_size_147 : decode cX11_size 147 = .ok (.invokespecial 177, 3) := by decide +kernel
theorem dX11_size_150 : decode cX11_size 150 = .ok (.athrow, 1) := by decide +kernel
theorem dX11_cell_0 : decode cX11_cell 0 = .ok (.aload_n 0, 1) := by decide +kernel
theorem dX11_cell_1 : decode cX11_cell 1 = .ok (.iload_n 1, 1) := by decide +kernel
theorem dX11_cell_2 : decode cX11_cell 2 = .ok (.invokevirtual 180, 3) := by decide +kernel
theorem dX11_cell_5 : decode cX11_cell 5 = .ok (.aload_n 0, 1) := by decide +kernel
theorem dX11_cell_6 : decode cX11_cell 6 = .ok (.getfield 28, 3) := by decide +kernel
theorem dX11_cell_9 : decode cX11_cell 9 = .ok (.iload_n 1, 1) := by decide +kernel
theorem dX11_cell_10 : decode cX11_cell 10 = .ok (.invokevirtual 183, 3) := by decide +kernel
theorem dX11_cell_13 : decode cX11_cell 13 = .ok (.ireturn, 1) := by decide +kernel
theorem dX11_neighbour_0 : decode cX11_neighbour 0 = .ok (.aload_n 0, 1) := by decide +kernel
theorem dX11_neighbour_1 : decode cX11_neighbour 1 = .ok (.iload_n 1, 1) := by decide +kernel
theorem dX11_neighbour_2 : decode cX11_neighbour 2 = .ok (.invokevirtual 180, 3) := by decide +kernel
theorem dX11_neighbour_5 : decode cX11_neighbour 5 = .ok (.aload_n 0, 1) := by decide +kernel
theorem dX11_neighbour_6 : decode cX11_neighbour 6 = .ok (.getfield 10, 3) := by decide +kernel
theorem dX11_neighbour_9 : decode cX11_neighbour 9 = .ok (.iload_n 1, 1) := by decide +kernel
theorem dX11_neighbour_10 : decode cX11_neighbour 10 = .ok (.iload_n 2, 1) := by decide +kernel
theorem dX11_neighbour_11 : decode cX11_neighbour 11 = .ok (.invokevirtual 186, 3) := by decide +kernel
theorem dX11_neighbour_14 : decode cX11_neighbour 14 = .ok (.ireturn, 1) := by decide +kernel
theorem dX11_group_0 : decode cX11_group 0 = .ok (.aload_n 0, 1) := by decide +kernel
theorem dX11_group_1 : decode cX11_group 1 = .ok (.iload_n 1, 1) := by decide +kernel
theorem dX11_group_2 : decode cX11_group 2 = .ok (.invokevirtual 180, 3) := by decide +kernel
theorem dX11_group_5 : decode cX11_group 5 = .ok (.iload_n 2, 1) := by decide +kernel
theorem dX11_group_6 : decode cX11_group 6 = .ok (.iconst 0, 1) := by decide +kernel
theorem dX11_group_7 : decode cX11_group 7 = .ok (.iconst 3, 1) := by decide +kernel
theorem dX11_group_8 : decode cX11_group 8 = .ok (.invokestatic 190, 3) := by decide +kernel
theorem dX11_group_11 : decode cX11_group 11 = .ok (.aload_n 0, 1) := by decide +kernel
theorem dX11_group_12 : decode cX11_group 12 = .ok (.getfield 28, 3) := by decide +kernel
theorem dX11_group_15 : decode cX11_group 15 = .ok (.iload_n 1, 1) := by decide +kernel
theorem dX11_group_16 : decode cX11_group 16 = .ok (.invokevirtual 183, 3) := by decide +kernel
theorem dX11_group_19 : decode cX11_group 19 = .ok (.istore_n 3, 1) := by decide +kernel
theorem dX11_group_20 : decode cX11_group 20 = .ok (.iload_n 3, 1) := by decide +kernel
theorem dX11_group_21 : decode cX11_group 21 = .ok (.iconst (-1), 1) := by decide +kernel
theorem dX11_group_22 : decode cX11_group 22 = .ok (.if_icmp .ne 5, 3) := by decide +kernel
theorem dX11_group_25 : decode cX11_group 25 = .ok (.iconst (-1), 1) := by decide +kernel
theorem dX11_group_26 : decode cX11_group 26 = .ok (.ireturn, 1) := by decide +kernel
theorem dX11_group_27 : decode cX11_group 27 = .ok (.aload_n 0, 1) := by decide +kernel
theorem dX11_group_28 : decode cX11_group 28 = .ok (.getfield 21, 3) := by decide +kernel
theorem dX11_group_31 : decode cX11_group 31 = .ok (.aload_n 0, 1) := by decide +kernel
theorem dX11_group_32 : decode cX11_group 32 = .ok (.getfield 28, 3) := by decide +kernel
theorem dX11_group_35 : decode cX11_group 35 = .ok (.getfield 194, 3) := by decide +kernel
theorem dX11_group_38 : decode cX11_group 38 = .ok (.iload_n 3, 1) := by decide +kernel
theorem dX11_group_39 : decode cX11_group 39 = .ok (.invokevirtual 198, 3) := by decide +kernel
theorem dX11_group_42 : decode cX11_group 42 = .ok (.iload_n 2, 1) := by decide +kernel
theorem dX11_group_43 : decode cX11_group 43 = .ok (.iconst 2, 1) := by decide +kernel
theorem dX11_group_44 : decode cX11_group 44 = .ok (.if_icmp .ne 18, 3) := by decide +kernel
theorem dX11_group_47 : decode cX11_group 47 = .ok (.aload_n 0, 1) := by decide +kernel
theorem dX11_group_48 : decode cX11_group 48 = .ok (.aload_n 0, 1) := by decide +kernel
theorem dX11_group_49 : decode cX11_group 49 = .ok (.getfield 21, 3) := by decide +kernel
theorem dX11_group_52 : decode cX11_group 52 = .ok (.iload_n 1, 1) := by decide +kernel
theorem dX11_group_53 : decode cX11_group 53 = .ok (.invokevirtual 202, 3) := by decide +kernel
theorem dX11_group_56 : decode cX11_group 56 = .ok (.invokevirtual 205, 3) := by decide +kernel
theorem dX11_group_59 : decode cX11_group 59 = .ok (.goto 12, 3) := by decide +kernel
theorem dX11_group_62 : decode cX11_group 62 = .ok (.aload_n 0, 1) := by decide +kernel
theorem dX11_group_63 : decode cX11_group 63 = .ok (.getfield 21, 3) := by decide +kernel
theorem dX11_group_66 : decode cX11_group 66 = .ok (.iload_n 1, 1) := by decide +kernel
theorem dX11_group_67 : decode cX11_group 67 = .ok (.iload_n 2, 1) := by decide +kernel
theorem dX11_group_68 : decode cX11_group 68 = .ok (.invokevirtual 208, 3) := by decide +kernel
theorem dX11_group_71 : decode cX11_group 71 = .ok (.ireturn, 1) := by decide +kernel
theorem dX11_groups_0 : decode cX11_groups 0 = .ok (.iload_n 1, 1) := by decide +kernel
theorem dX11_groups_1 : decode cX11_groups 1 = .ok (.invokestatic 211, 3) := by decide +kernel
theorem dX11_groups_4 : decode cX11_groups 4 = .ok (.aload_n 0, 1) := by decide +kernel
theorem dX11_groups_5 : decode cX11_groups 5 = .ok (.getfield 21, 3) := by decide +kernel
theorem dX11_groups_8 : decode cX11_groups 8 = .ok (.aload_n 0, 1) := by decide +kernel
theorem dX11_groups_9 : decode cX11_groups 9 = .ok (.getfield 28, 3) := by decide +kernel
theorem dX11_groups_12 : decode cX11_groups 12 = .ok (.getfield 194, 3) := by decide +kernel
theorem dX11_groups_15 : decode cX11_groups 15 = .ok (.iload_n 1, 1) := by decide +kernel
theorem dX11_groups_16 : decode cX11_groups 16 = .ok (.invokevirtual 198, 3) := by decide +kernel
theorem dX11_groups_19 : decode cX11_groups 19 = .ok (.aload_n 0, 1) := by decide +kernel
theorem dX11_groups_20 : decode cX11_groups 20 = .ok (.getfield 21, 3) := by decide +kernel
theorem dX11_groups_23 : decode cX11_groups 23 = .ok (.invokevirtual 214, 3) := by decide +kernel
theorem dX11_groups_26 : decode cX11_groups 26 = .ok (.ireturn, 1) := by decide +kernel
theorem dX11_largest_0 : decode cX11_largest 0 = .ok (.iload_n 1, 1) := by decide +kernel
theorem dX11_largest_1 : decode cX11_largest 1 = .ok (.invokestatic 211, 3) := by decide +kernel
theorem dX11_largest_4 : decode cX11_largest 4 = .ok (.aload_n 0, 1) := by decide +kernel
theorem dX11_largest_5 : decode cX11_largest 5 = .ok (.getfield 21, 3) := by decide +kernel
theorem dX11_largest_8 : decode cX11_largest 8 = .ok (.aload_n 0, 1) := by decide +kernel
theorem dX11_largest_9 : decode cX11_largest 9 = .ok (.getfield 28, 3) := by decide +kernel
theorem dX11_largest_12 : decode cX11_largest 12 = .ok (.getfield 194, 3) := by decide +kernel
theorem dX11_largest_15 : decode cX11_largest 15 = .ok (.iload_n 1, 1) := by decide +kernel
theorem dX11_largest_16 : decode cX11_largest 16 = .ok (.invokevirtual 198, 3) := by decide +kernel
theorem dX11_largest_19 : decode cX11_largest 19 = .ok (.aload_n 0, 1) := by decide +kernel
theorem dX11_largest_20 : decode cX11_largest 20 = .ok (.getfield 21, 3) := by decide +kernel
theorem dX11_largest_23 : decode cX11_largest 23 = .ok (.invokevirtual 217, 3) := by decide +kernel
theorem dX11_largest_26 : decode cX11_largest 26 = .ok (.ireturn, 1) := by decide +kernel
theorem dX11_isBridge_0 : decode cX11_isBridge 0 = .ok (.aload_n 0, 1) := by decide +kernel
theorem dX11_isBridge_1 : decode cX11_isBridge 1 = .ok (.iload_n 1, 1) := by decide +kernel
theorem dX11_isBridge_2 : decode cX11_isBridge 2 = .ok (.invokevirtual 180, 3) := by decide +kernel
theorem dX11_isBridge_5 : decode cX11_isBridge 5 = .ok (.aload_n 0, 1) := by decide +kernel
theorem dX11_isBridge_6 : decode cX11_isBridge 6 = .ok (.iload_n 2, 1) := by decide +kernel
theorem dX11_isBridge_7 : decode cX11_isBridge 7 = .ok (.invokevirtual 180, 3) := by decide +kernel
theorem dX11_isBridge_10 : decode cX11_isBridge 10 = .ok (.aload_n 0, 1) := by decide +kernel
theorem dX11_isBridge_11 : decode cX11_isBridge 11 = .ok (.getfield 28, 3) := by decide +kernel
theorem dX11_isBridge_14 : decode cX11_isBridge 14 = .ok (.iload_n 1, 1) := by decide +kernel
theorem dX11_isBridge_15 : decode cX11_isBridge 15 = .ok (.invokevirtual 183, 3) := by decide +kernel
theorem dX11_isBridge_18 : decode cX11_isBridge 18 = .ok (.istore_n 3, 1) := by decide +kernel
theorem dX11_isBridge_19 : decode cX11_isBridge 19 = .ok (.iload_n 3, 1) := by decide +kernel
theorem dX11_isBridge_20 : decode cX11_isBridge 20 = .ok (.iconst (-1), 1) := by decide +kernel
theorem dX11_isBridge_21 : decode cX11_isBridge 21 = .ok (.if_icmp .ne 5, 3) := by decide +kernel
theorem dX11_isBridge_24 : decode cX11_isBridge 24 = .ok (.iconst 0, 1) := by decide +kernel
theorem dX11_isBridge_25 : decode cX11_isBridge 25 = .ok (.ireturn, 1) := by decide +kernel
theorem dX11_isBridge_26 : decode cX11_isBridge 26 = .ok (.aload_n 0, 1) := by decide +kernel
theorem dX11_isBridge_27 : decode cX11_isBridge 27 = .ok (.getfield 72, 3) := by decide +kernel
theorem dX11_isBridge_30 : decode cX11_isBridge 30 = .ok (.aload_n 0, 1) := by decide +kernel
theorem dX11_isBridge_31 : decode cX11_isBridge 31 = .ok (.getfield 28, 3) := by decide +kernel
theorem dX11_isBridge_34 : decode cX11_isBridge 34 = .ok (.getfield 194, 3) := by decide +kernel
theorem dX11_isBridge_37 : decode cX11_isBridge 37 = .ok (.iload_n 3, 1) := by decide +kernel
theorem dX11_isBridge_38 : decode cX11_isBridge 38 = .ok (.invokevirtual 220, 3) := by decide +kernel
theorem dX11_isBridge_41 : decode cX11_isBridge 41 = .ok (.aload_n 0, 1) := by decide +kernel
theorem dX11_isBridge_42 : decode cX11_isBridge 42 = .ok (.getfield 72, 3) := by decide +kernel
theorem dX11_isBridge_45 : decode cX11_isBridge 45 = .ok (.iload_n 1, 1) := by decide +kernel
theorem dX11_isBridge_46 : decode cX11_isBridge 46 = .ok (.iload_n 2, 1) := by decide +kernel
theorem dX11_isBridge_47 : decode cX11_isBridge 47 = .ok (.invokestatic 223, 3) := by decide +kernel
theorem dX11_isBridge_50 : decode cX11_isBridge 50 = .ok (.iload_n 1, 1) := by decide +kernel
theorem dX11_isBridge_51 : decode cX11_isBridge 51 = .ok (.iload_n 2, 1) := by decide +kernel
theorem dX11_isBridge_52 : decode cX11_isBridge 52 = .ok (.invokestatic 228, 3) := by decide +kernel
theorem dX11_isBridge_55 : decode cX11_isBridge 55 = .ok (.invokevirtual 231, 3) := by decide +kernel
theorem dX11_isBridge_58 : decode cX11_isBridge 58 = .ok (.ireturn, 1) := by decide +kernel
theorem dX11_bridges_0 : decode cX11_bridges 0 = .ok (.iload_n 1, 1) := by decide +kernel
theorem dX11_bridges_1 : decode cX11_bridges 1 = .ok (.invokestatic 211, 3) := by decide +kernel
theorem dX11_bridges_4 : decode cX11_bridges 4 = .ok (.aload_n 0, 1) := by decide +kernel
theorem dX11_bridges_5 : decode cX11_bridges 5 = .ok (.getfield 72, 3) := by decide +kernel
theorem dX11_bridges_8 : decode cX11_bridges 8 = .ok (.aload_n 0, 1) := by decide +kernel
theorem dX11_bridges_9 : decode cX11_bridges 9 = .ok (.getfield 28, 3) := by decide +kernel
theorem dX11_bridges_12 : decode cX11_bridges 12 = .ok (.getfield 194, 3) := by decide +kernel
theorem dX11_bridges_15 : decode cX11_bridges 15 = .ok (.iload_n 1, 1) := by decide +kernel
theorem dX11_bridges_16 : decode cX11_bridges 16 = .ok (.invokevirtual 220, 3) := by decide +kernel
theorem dX11_bridges_19 : decode cX11_bridges 19 = .ok (.iload_n 2, 1) := by decide +kernel
theorem dX11_bridges_20 : decode cX11_bridges 20 = .ok (.ifCond .eq 13, 3) := by decide +kernel
theorem dX11_bridges_23 : decode cX11_bridges 23 = .ok (.aload_n 0, 1) := by decide +kernel
theorem dX11_bridges_24 : decode cX11_bridges 24 = .ok (.getfield 72, 3) := by decide +kernel
theorem dX11_bridges_27 : decode cX11_bridges 27 = .ok (.invokevirtual 235, 3) := by decide +kernel
theorem dX11_bridges_30 : decode cX11_bridges 30 = .ok (.goto 10, 3) := by decide +kernel
theorem dX11_bridges_33 : decode cX11_bridges 33 = .ok (.aload_n 0, 1) := by decide +kernel
theorem dX11_bridges_34 : decode cX11_bridges 34 = .ok (.getfield 72, 3) := by decide +kernel
theorem dX11_bridges_37 : decode cX11_bridges 37 = .ok (.getfield 238, 3) := by decide +kernel
theorem dX11_bridges_40 : decode cX11_bridges 40 = .ok (.ireturn, 1) := by decide +kernel
theorem dX11_bridge_0 : decode cX11_bridge 0 = .ok (.iload_n 1, 1) := by decide +kernel
theorem dX11_bridge_1 : decode cX11_bridge 1 = .ok (.invokestatic 211, 3) := by decide +kernel
theorem dX11_bridge_4 : decode cX11_bridge 4 = .ok (.iload_n 3, 1) := by decide +kernel
theorem dX11_bridge_5 : decode cX11_bridge 5 = .ok (.iconst 0, 1) := by decide +kernel
theorem dX11_bridge_6 : decode cX11_bridge 6 = .ok (.iconst 4, 1) := by decide +kernel
theorem dX11_bridge_7 : decode cX11_bridge 7 = .ok (.invokestatic 190, 3) := by decide +kernel
theorem dX11_bridge_10 : decode cX11_bridge 10 = .ok (.aload_n 0, 1) := by decide +kernel
theorem dX11_bridge_11 : decode cX11_bridge 11 = .ok (.getfield 72, 3) := by decide +kernel
theorem dX11_bridge_14 : decode cX11_bridge 14 = .ok (.aload_n 0, 1) := by decide +kernel
theorem dX11_bridge_15 : decode cX11_bridge 15 = .ok (.getfield 28, 3) := by decide +kernel
theorem dX11_bridge_18 : decode cX11_bridge 18 = .ok (.getfield 194, 3) := by decide +kernel
theorem dX11_bridge_21 : decode cX11_bridge 21 = .ok (.iload_n 1, 1) := by decide +kernel
theorem dX11_bridge_22 : decode cX11_bridge 22 = .ok (.invokevirtual 220, 3) := by decide +kernel
theorem dX11_bridge_25 : decode cX11_bridge 25 = .ok (.aload_n 0, 1) := by decide +kernel
theorem dX11_bridge_26 : decode cX11_bridge 26 = .ok (.getfield 72, 3) := by decide +kernel
theorem dX11_bridge_29 : decode cX11_bridge 29 = .ok (.iload_n 2, 1) := by decide +kernel
theorem dX11_bridge_30 : decode cX11_bridge 30 = .ok (.iload_n 3, 1) := by decide +kernel
theorem dX11_bridge_31 : decode cX11_bridge 31 = .ok (.invokevirtual 239, 3) := by decide +kernel
theorem dX11_bridge_34 : decode cX11_bridge 34 = .ok (.ireturn, 1) := by decide +kernel
theorem dX11_chain_0 : decode cX11_chain 0 = .ok (.aload_n 0, 1) := by decide +kernel
theorem dX11_chain_1 : decode cX11_chain 1 = .ok (.iload_n 1, 1) := by decide +kernel
theorem dX11_chain_2 : decode cX11_chain 2 = .ok (.invokevirtual 180, 3) := by decide +kernel
theorem dX11_chain_5 : decode cX11_chain 5 = .ok (.iload_n 2, 1) := by decide +kernel
theorem dX11_chain_6 : decode cX11_chain 6 = .ok (.iconst 0, 1) := by decide +kernel
theorem dX11_chain_7 : decode cX11_chain 7 = .ok (.iconst 3, 1) := by decide +kernel
theorem dX11_chain_8 : decode cX11_chain 8 = .ok (.invokestatic 190, 3) := by decide +kernel
theorem dX11_chain_11 : decode cX11_chain 11 = .ok (.aload_n 0, 1) := by decide +kernel
theorem dX11_chain_12 : decode cX11_chain 12 = .ok (.getfield 28, 3) := by decide +kernel
theorem dX11_chain_15 : decode cX11_chain 15 = .ok (.iload_n 1, 1) := by decide +kernel
theorem dX11_chain_16 : decode cX11_chain 16 = .ok (.invokevirtual 183, 3) := by decide +kernel
theorem dX11_chain_19 : decode cX11_chain 19 = .ok (.istore_n 3, 1) := by decide +kernel
theorem dX11_chain_20 : decode cX11_chain 20 = .ok (.iload_n 3, 1) := by decide +kernel
theorem dX11_chain_21 : decode cX11_chain 21 = .ok (.iconst (-1), 1) := by decide +kernel
theorem dX11_chain_22 : decode cX11_chain 22 = .ok (.if_icmp .ne 5, 3) := by decide +kernel
theorem dX11_chain_25 : decode cX11_chain 25 = .ok (.iconst (-1), 1) := by decide +kernel
theorem dX11_chain_26 : decode cX11_chain 26 = .ok (.ireturn, 1) := by decide +kernel
theorem dX11_chain_27 : decode cX11_chain 27 = .ok (.aload_n 0, 1) := by decide +kernel
theorem dX11_chain_28 : decode cX11_chain 28 = .ok (.iload_n 3, 1) := by decide +kernel
theorem dX11_chain_29 : decode cX11_chain 29 = .ok (.invokevirtual 240, 3) := by decide +kernel
theorem dX11_chain_32 : decode cX11_chain 32 = .ok (.iload_n 2, 1) := by decide +kernel
theorem dX11_chain_33 : decode cX11_chain 33 = .ok (.iconst 2, 1) := by decide +kernel
theorem dX11_chain_34 : decode cX11_chain 34 = .ok (.if_icmp .ne 25, 3) := by decide +kernel
theorem dX11_chain_37 : decode cX11_chain 37 = .ok (.aload_n 0, 1) := by decide +kernel
theorem dX11_chain_38 : decode cX11_chain 38 = .ok (.getfield 72, 3) := by decide +kernel
theorem dX11_chain_41 : decode cX11_chain 41 = .ok (.aload_n 0, 1) := by decide +kernel
theorem dX11_chain_42 : decode cX11_chain 42 = .ok (.getfield 21, 3) := by decide +kernel
theorem dX11_chain_45 : decode cX11_chain 45 = .ok (.aload_n 0, 1) := by decide +kernel
theorem dX11_chain_46 : decode cX11_chain 46 = .ok (.getfield 21, 3) := by decide +kernel
theorem dX11_chain_49 : decode cX11_chain 49 = .ok (.iload_n 1, 1) := by decide +kernel
theorem dX11_chain_50 : decode cX11_chain 50 = .ok (.invokevirtual 202, 3) := by decide +kernel
theorem dX11_chain_53 : decode cX11_chain 53 = .ok (.invokevirtual 243, 3) := by decide +kernel
theorem dX11_chain_56 : decode cX11_chain 56 = .ok (.goto 12, 3) := by decide +kernel
theorem dX11_chain_59 : decode cX11_chain 59 = .ok (.aload_n 0, 1) := by decide +kernel
theorem dX11_chain_60 : decode cX11_chain 60 = .ok (.getfield 21, 3) := by decide +kernel
theorem dX11_chain_63 : decode cX11_chain 63 = .ok (.iload_n 1, 1) := by decide +kernel
theorem dX11_chain_64 : decode cX11_chain 64 = .ok (.iload_n 2, 1) := by decide +kernel
theorem dX11_chain_65 : decode cX11_chain 65 = .ok (.invokevirtual 208, 3) := by decide +kernel
theorem dX11_chain_68 : decode cX11_chain 68 = .ok (.ireturn, 1) := by decide +kernel
theorem dX11_chains_0 : decode cX11_chains 0 = .ok (.iload_n 1, 1) := by decide +kernel
theorem dX11_chains_1 : decode cX11_chains 1 = .ok (.invokestatic 211, 3) := by decide +kernel
theorem dX11_chains_4 : decode cX11_chains 4 = .ok (.aload_n 0, 1) := by decide +kernel
theorem dX11_chains_5 : decode cX11_chains 5 = .ok (.iload_n 1, 1) := by decide +kernel
theorem dX11_chains_6 : decode cX11_chains 6 = .ok (.invokevirtual 240, 3) := by decide +kernel
theorem dX11_chains_9 : decode cX11_chains 9 = .ok (.aload_n 0, 1) := by decide +kernel
theorem dX11_chains_10 : decode cX11_chains 10 = .ok (.getfield 21, 3) := by decide +kernel
theorem dX11_chains_13 : decode cX11_chains 13 = .ok (.invokevirtual 214, 3) := by decide +kernel
theorem dX11_chains_16 : decode cX11_chains 16 = .ok (.ireturn, 1) := by decide +kernel
theorem dX11_isSafe_0 : decode cX11_isSafe 0 = .ok (.iload_n 1, 1) := by decide +kernel
theorem dX11_isSafe_1 : decode cX11_isSafe 1 = .ok (.invokestatic 211, 3) := by decide +kernel
theorem dX11_isSafe_4 : decode cX11_isSafe 4 = .ok (.aload_n 0, 1) := by decide +kernel
theorem dX11_isSafe_5 : decode cX11_isSafe 5 = .ok (.iload_n 1, 1) := by decide +kernel
theorem dX11_isSafe_6 : decode cX11_isSafe 6 = .ok (.invokevirtual 240, 3) := by decide +kernel
theorem dX11_isSafe_9 : decode cX11_isSafe 9 = .ok (.aload_n 0, 1) := by decide +kernel
theorem dX11_isSafe_10 : decode cX11_isSafe 10 = .ok (.getfield 21, 3) := by decide +kernel
theorem dX11_isSafe_13 : decode cX11_isSafe 13 = .ok (.invokevirtual 247, 3) := by decide +kernel
theorem dX11_isSafe_16 : decode cX11_isSafe 16 = .ok (.ireturn, 1) := by decide +kernel
theorem dX11_answer_0 : decode cX11_answer 0 = .ok (.aload_n 0, 1) := by decide +kernel
theorem dX11_answer_1 : decode cX11_answer 1 = .ok (.iload_n 1, 1) := by decide +kernel
theorem dX11_answer_2 : decode cX11_answer 2 = .ok (.invokevirtual 180, 3) := by decide +kernel
theorem dX11_answer_5 : decode cX11_answer 5 = .ok (.aload_n 0, 1) := by decide +kernel
theorem dX11_answer_6 : decode cX11_answer 6 = .ok (.getfield 72, 3) := by decide +kernel
theorem dX11_answer_9 : decode cX11_answer 9 = .ok (.aload_n 0, 1) := by decide +kernel
theorem dX11_answer_10 : decode cX11_answer 10 = .ok (.getfield 28, 3) := by decide +kernel
theorem dX11_answer_13 : decode cX11_answer 13 = .ok (.getfield 194, 3) := by decide +kernel
theorem dX11_answer_16 : decode cX11_answer 16 = .ok (.aload_n 0, 1) := by decide +kernel
theorem dX11_answer_17 : decode cX11_answer 17 = .ok (.getfield 28, 3) := by decide +kernel
theorem dX11_answer_20 : decode cX11_answer 20 = .ok (.getfield 158, 3) := by decide +kernel
theorem dX11_answer_23 : decode cX11_answer 23 = .ok (.invokestatic 250, 3) := by decide +kernel
theorem dX11_answer_26 : decode cX11_answer 26 = .ok (.invokevirtual 220, 3) := by decide +kernel
theorem dX11_answer_29 : decode cX11_answer 29 = .ok (.aload_n 0, 1) := by decide +kernel
theorem dX11_answer_30 : decode cX11_answer 30 = .ok (.getfield 72, 3) := by decide +kernel
theorem dX11_answer_33 : decode cX11_answer 33 = .ok (.iload_n 1, 1) := by decide +kernel
theorem dX11_answer_34 : decode cX11_answer 34 = .ok (.invokevirtual 253, 3) := by decide +kernel
theorem dX11_answer_37 : decode cX11_answer 37 = .ok (.ireturn, 1) := by decide +kernel
theorem dX11_threats_0 : decode cX11_threats 0 = .ok (.iload_n 1, 1) := by decide +kernel
theorem dX11_threats_1 : decode cX11_threats 1 = .ok (.invokestatic 211, 3) := by decide +kernel
theorem dX11_threats_4 : decode cX11_threats 4 = .ok (.aload_n 0, 1) := by decide +kernel
theorem dX11_threats_5 : decode cX11_threats 5 = .ok (.iload_n 1, 1) := by decide +kernel
theorem dX11_threats_6 : decode cX11_threats 6 = .ok (.invokevirtual 256, 3) := by decide +kernel
theorem dX11_threats_9 : decode cX11_threats 9 = .ok (.ireturn, 1) := by decide +kernel
theorem dX11_threat_0 : decode cX11_threat 0 = .ok (.iload_n 1, 1) := by decide +kernel
theorem dX11_threat_1 : decode cX11_threat 1 = .ok (.invokestatic 211, 3) := by decide +kernel
theorem dX11_threat_4 : decode cX11_threat 4 = .ok (.aload_n 0, 1) := by decide +kernel
theorem dX11_threat_5 : decode cX11_threat 5 = .ok (.iload_n 1, 1) := by decide +kernel
theorem dX11_threat_6 : decode cX11_threat 6 = .ok (.iload_n 2, 1) := by decide +kernel
theorem dX11_threat_7 : decode cX11_threat 7 = .ok (.invokevirtual 259, 3) := by decide +kernel
theorem dX11_threat_10 : decode cX11_threat 10 = .ok (.ireturn, 1) := by decide +kernel
theorem dX11_forced_0 : decode cX11_forced 0 = .ok (.aload_n 0, 1) := by decide +kernel
theorem dX11_forced_1 : decode cX11_forced 1 = .ok (.invokevirtual 262, 3) := by decide +kernel
theorem dX11_forced_4 : decode cX11_forced 4 = .ok (.ireturn, 1) := by decide +kernel
theorem dX11_distance_0 : decode cX11_distance 0 = .ok (.iload_n 1, 1) := by decide +kernel
theorem dX11_distance_1 : decode cX11_distance 1 = .ok (.invokestatic 211, 3) := by decide +kernel
theorem dX11_distance_4 : decode cX11_distance 4 = .ok (.aload_n 0, 1) := by decide +kernel
theorem dX11_distance_5 : decode cX11_distance 5 = .ok (.iload_n 1, 1) := by decide +kernel
theorem dX11_distance_6 : decode cX11_distance 6 = .ok (.invokevirtual 265, 3) := by decide +kernel
theorem dX11_distance_9 : decode cX11_distance 9 = .ok (.invokevirtual 269, 3) := by decide +kernel
theorem dX11_distance_12 : decode cX11_distance 12 = .ok (.ireturn, 1) := by decide +kernel
theorem dX11_through_0 : decode cX11_through 0 = .ok (.iload_n 1, 1) := by decide +kernel
theorem dX11_through_1 : decode cX11_through 1 = .ok (.invokestatic 211, 3) := by decide +kernel
theorem dX11_through_4 : decode cX11_through 4 = .ok (.aload_n 0, 1) := by decide +kernel
theorem dX11_through_5 : decode cX11_through 5 = .ok (.iload_n 2, 1) := by decide +kernel
theorem dX11_through_6 : decode cX11_through 6 = .ok (.invokevirtual 180, 3) := by decide +kernel
theorem dX11_through_9 : decode cX11_through 9 = .ok (.aload_n 0, 1) := by decide +kernel
theorem dX11_through_10 : decode cX11_through 10 = .ok (.iload_n 1, 1) := by decide +kernel
theorem dX11_through_11 : decode cX11_through 11 = .ok (.invokevirtual 265, 3) := by decide +kernel
theorem dX11_through_14 : decode cX11_through 14 = .ok (.iload_n 2, 1) := by decide +kernel
theorem dX11_through_15 : decode cX11_through 15 = .ok (.invokevirtual 272, 3) := by decide +kernel
theorem dX11_through_18 : decode cX11_through 18 = .ok (.ireturn, 1) := by decide +kernel
theorem dX11_useful_0 : decode cX11_useful 0 = .ok (.iload_n 1, 1) := by decide +kernel
theorem dX11_useful_1 : decode cX11_useful 1 = .ok (.invokestatic 211, 3) := by decide +kernel
theorem dX11_useful_4 : decode cX11_useful 4 = .ok (.aload_n 0, 1) := by decide +kernel
theorem dX11_useful_5 : decode cX11_useful 5 = .ok (.iload_n 1, 1) := by decide +kernel
theorem dX11_useful_6 : decode cX11_useful 6 = .ok (.invokevirtual 265, 3) := by decide +kernel
theorem dX11_useful_9 : decode cX11_useful 9 = .ok (.astore_n 2, 1) := by decide +kernel
theorem dX11_useful_10 : decode cX11_useful 10 = .ok (.aload_n 2, 1) := by decide +kernel
theorem dX11_useful_11 : decode cX11_useful 11 = .ok (.invokevirtual 269, 3) := by decide +kernel
theorem dX11_useful_14 : decode cX11_useful 14 = .ok (.istore_n 3, 1) := by decide +kernel
theorem dX11_useful_15 : decode cX11_useful 15 = .ok (.iconst 0, 1) := by decide +kernel
theorem dX11_useful_16 : decode cX11_useful 16 = .ok (.istore 4, 2) := by decide +kernel
theorem dX11_useful_18 : decode cX11_useful 18 = .ok (.iconst 0, 1) := by decide +kernel
theorem dX11_useful_19 : decode cX11_useful 19 = .ok (.istore 5, 2) := by decide +kernel
theorem dX11_useful_21 : decode cX11_useful 21 = .ok (.iload 5, 2) := by decide +kernel
theorem dX11_useful_23 : decode cX11_useful 23 = .ok (.aload_n 0, 1) := by decide +kernel
theorem dX11_useful_24 : decode cX11_useful 24 = .ok (.getfield 10, 3) := by decide +kernel
theorem dX11_useful_27 : decode cX11_useful 27 = .ok (.getfield 275, 3) := by decide +kernel
theorem dX11_useful_30 : decode cX11_useful 30 = .ok (.if_icmp .ge 40, 3) := by decide +kernel
theorem dX11_useful_33 : decode cX11_useful 33 = .ok (.iload_n 3, 1) := by decide +kernel
theorem dX11_useful_34 : decode cX11_useful 34 = .ok (.iconst (-1), 1) := by decide +kernel
theorem dX11_useful_35 : decode cX11_useful 35 = .ok (.if_icmp .eq 29, 3) := by decide +kernel
theorem dX11_useful_38 : decode cX11_useful 38 = .ok (.aload_n 0, 1) := by decide +kernel
theorem dX11_useful_39 : decode cX11_useful 39 = .ok (.getfield 28, 3) := by decide +kernel
theorem dX11_useful_42 : decode cX11_useful 42 = .ok (.iload 5, 2) := by decide +kernel
theorem dX11_useful_44 : decode cX11_useful 44 = .ok (.invokevirtual 183, 3) := by decide +kernel
theorem dX11_useful_47 : decode cX11_useful 47 = .ok (.iconst (-1), 1) := by decide +kernel
theorem dX11_useful_48 : decode cX11_useful 48 = .ok (.if_icmp .ne 16, 3) := by decide +kernel
theorem dX11_useful_51 : decode cX11_useful 51 = .ok (.aload_n 2, 1) := by decide +kernel
theorem dX11_useful_52 : decode cX11_useful 52 = .ok (.iload 5, 2) := by decide +kernel
theorem dX11_useful_54 : decode cX11_useful 54 = .ok (.invokevirtual 272, 3) := by decide +kernel
theorem dX11_useful_57 : decode cX11_useful 57 = .ok (.iload_n 3, 1) := by decide +kernel
theorem dX11_useful_58 : decode cX11_useful 58 = .ok (.if_icmp .ne 6, 3) := by decide +kernel
theorem dX11_useful_61 : decode cX11_useful 61 = .ok (.iinc 4 1, 3) := by decide +kernel
theorem dX11_useful_64 : decode cX11_useful 64 = .ok (.iinc 5 1, 3) := by decide +kernel
theorem dX11_useful_67 : decode cX11_useful 67 = .ok (.goto (-46), 3) := by decide +kernel
theorem dX11_useful_70 : decode cX11_useful 70 = .ok (.iload 4, 2) := by decide +kernel
theorem dX11_useful_72 : decode cX11_useful 72 = .ok (.ireturn, 1) := by decide +kernel
theorem dX11_potential_0 : decode cX11_potential 0 = .ok (.iload_n 1, 1) := by decide +kernel
theorem dX11_potential_1 : decode cX11_potential 1 = .ok (.invokestatic 211, 3) := by decide +kernel
theorem dX11_potential_4 : decode cX11_potential 4 = .ok (.iload_n 3, 1) := by decide +kernel
theorem dX11_potential_5 : decode cX11_potential 5 = .ok (.iconst 0, 1) := by decide +kernel
theorem dX11_potential_6 : decode cX11_potential 6 = .ok (.bipush 100, 2) := by decide +kernel
theorem dX11_potential_8 : decode cX11_potential 8 = .ok (.invokestatic 190, 3) := by decide +kernel
theorem dX11_potential_11 : decode cX11_potential 11 = .ok (.aload_n 0, 1) := by decide +kernel
theorem dX11_potential_12 : decode cX11_potential 12 = .ok (.iload_n 2, 1) := by decide +kernel
theorem dX11_potential_13 : decode cX11_potential 13 = .ok (.invokevirtual 180, 3) := by decide +kernel
theorem dX11_potential_16 : decode cX11_potential 16 = .ok (.aload_n 0, 1) := by decide +kernel
theorem dX11_potential_17 : decode cX11_potential 17 = .ok (.getfield 89, 3) := by decide +kernel
theorem dX11_potential_20 : decode cX11_potential 20 = .ok (.aload_n 0, 1) := by decide +kernel
theorem dX11_potential_21 : decode cX11_potential 21 = .ok (.getfield 28, 3) := by decide +kernel
theorem dX11_potential_24 : decode cX11_potential 24 = .ok (.getfield 194, 3) := by decide +kernel
theorem dX11_potential_27 : decode cX11_potential 27 = .ok (.iload_n 1, 1) := by decide +kernel
theorem dX11_potential_28 : decode cX11_potential 28 = .ok (.iload_n 3, 1) := by decide +kernel
theorem dX11_potential_29 : decode cX11_potential 29 = .ok (.invokevirtual 278, 3) := by decide +kernel
theorem dX11_potential_32 : decode cX11_potential 32 = .ok (.pop, 1) := by decide +kernel
theorem dX11_potential_33 : decode cX11_potential 33 = .ok (.aload_n 0, 1) := by decide +kernel
theorem dX11_potential_34 : decode cX11_potential 34 = .ok (.getfield 89, 3) := by decide +kernel
theorem dX11_potential_37 : decode cX11_potential 37 = .ok (.iload_n 2, 1) := by decide +kernel
theorem dX11_potential_38 : decode cX11_potential 38 = .ok (.invokevirtual 282, 3) := by decide +kernel
theorem dX11_potential_41 : decode cX11_potential 41 = .ok (.ireturn, 1) := by decide +kernel
theorem dX11_solved_0 : decode cX11_solved 0 = .ok (.aload_n 0, 1) := by decide +kernel
theorem dX11_solved_1 : decode cX11_solved 1 = .ok (.invokevirtual 161, 3) := by decide +kernel
theorem dX11_solved_4 : decode cX11_solved 4 = .ok (.istore_n 1, 1) := by decide +kernel
theorem dX11_solved_5 : decode cX11_solved 5 = .ok (.iload_n 1, 1) := by decide +kernel
theorem dX11_solved_6 : decode cX11_solved 6 = .ok (.iconst (-1), 1) := by decide +kernel
theorem dX11_solved_7 : decode cX11_solved 7 = .ok (.if_icmp .ne 16, 3) := by decide +kernel
theorem dX11_solved_10 : decode cX11_solved 10 = .ok (.aload_n 0, 1) := by decide +kernel
theorem dX11_solved_11 : decode cX11_solved 11 = .ok (.getfield 28, 3) := by decide +kernel
theorem dX11_solved_14 : decode cX11_solved 14 = .ok (.iconst (-1), 1) := by decide +kernel
theorem dX11_solved_15 : decode cX11_solved 15 = .ok (.invokevirtual 151, 3) := by decide +kernel
theorem dX11_solved_18 : decode cX11_solved 18 = .ok (.bipush 6, 2) := by decide +kernel
theorem dX11_solved_20 : decode cX11_solved 20 = .ok (.if_icmp .le 5, 3) := by decide +kernel
theorem dX11_solved_23 : decode cX11_solved 23 = .ok (.iload_n 1, 1) := by decide +kernel
theorem dX11_solved_24 : decode cX11_solved 24 = .ok (.ireturn, 1) := by decide +kernel
theorem dX11_solved_25 : decode cX11_solved 25 = .ok (.aload_n 0, 1) := by decide +kernel
theorem dX11_solved_26 : decode cX11_solved 26 = .ok (.getfield 98, 3) := by decide +kernel
theorem dX11_solved_29 : decode cX11_solved 29 = .ok (.aload_n 0, 1) := by decide +kernel
theorem dX11_solved_30 : decode cX11_solved 30 = .ok (.getfield 28, 3) := by decide +kernel
theorem dX11_solved_33 : decode cX11_solved 33 = .ok (.getfield 194, 3) := by decide +kernel
theorem dX11_solved_36 : decode cX11_solved 36 = .ok (.invokevirtual 288, 3) := by decide +kernel
theorem dX11_solved_39 : decode cX11_solved 39 = .ok (.aload_n 0, 1) := by decide +kernel
theorem dX11_solved_40 : decode cX11_solved 40 = .ok (.getfield 98, 3) := by decide +kernel
theorem dX11_solved_43 : decode cX11_solved 43 = .ok (.aload_n 0, 1) := by decide +kernel
theorem dX11_solved_44 : decode cX11_solved 44 = .ok (.getfield 28, 3) := by decide +kernel
theorem dX11_solved_47 : decode cX11_solved 47 = .ok (.getfield 158, 3) := by decide +kernel
theorem dX11_solved_50 : decode cX11_solved 50 = .ok (.invokevirtual 291, 3) := by decide +kernel
theorem dX11_solved_53 : decode cX11_solved 53 = .ok (.ireturn, 1) := by decide +kernel
theorem dX11_goodMoves_0 : decode cX11_goodMoves 0 = .ok (.aload_n 0, 1) := by decide +kernel
theorem dX11_goodMoves_1 : decode cX11_goodMoves 1 = .ok (.invokevirtual 161, 3) := by decide +kernel
theorem dX11_goodMoves_4 : decode cX11_goodMoves 4 = .ok (.iconst (-1), 1) := by decide +kernel
theorem dX11_goodMoves_5 : decode cX11_goodMoves 5 = .ok (.if_icmp .eq 5, 3) := by decide +kernel
theorem dX11_goodMoves_8 : decode cX11_goodMoves 8 = .ok (.iconst 0, 1) := by decide +kernel
theorem dX11_goodMoves_9 : decode cX11_goodMoves 9 = .ok (.ireturn, 1) := by decide +kernel
theorem dX11_goodMoves_10 : decode cX11_goodMoves 10 = .ok (.aload_n 0, 1) := by decide +kernel
theorem dX11_goodMoves_11 : decode cX11_goodMoves 11 = .ok (.getfield 28, 3) := by decide +kernel
theorem dX11_goodMoves_14 : decode cX11_goodMoves 14 = .ok (.iconst (-1), 1) := by decide +kernel
theorem dX11_goodMoves_15 : decode cX11_goodMoves 15 = .ok (.invokevirtual 151, 3) := by decide +kernel
theorem dX11_goodMoves_18 : decode cX11_goodMoves 18 = .ok (.bipush 6, 2) := by decide +kernel
theorem dX11_goodMoves_20 : decode cX11_goodMoves 20 = .ok (.if_icmp .le 5, 3) := by decide +kernel
theorem dX11_goodMoves_23 : decode cX11_goodMoves 23 = .ok (.iconst (-1), 1) := by decide +kernel
theorem dX11_goodMoves_24 : decode cX11_goodMoves 24 = .ok (.ireturn, 1) := by decide +kernel
theorem dX11_goodMoves_25 : decode cX11_goodMoves 25 = .ok (.aload_n 0, 1) := by decide +kernel
theorem dX11_goodMoves_26 : decode cX11_goodMoves 26 = .ok (.getfield 98, 3) := by decide +kernel
theorem dX11_goodMoves_29 : decode cX11_goodMoves 29 = .ok (.aload_n 0, 1) := by decide +kernel
theorem dX11_goodMoves_30 : decode cX11_goodMoves 30 = .ok (.getfield 28, 3) := by decide +kernel
theorem dX11_goodMoves_33 : decode cX11_goodMoves 33 = .ok (.getfield 194, 3) := by decide +kernel
theorem dX11_goodMoves_36 : decode cX11_goodMoves 36 = .ok (.invokevirtual 288, 3) := by decide +kernel
theorem dX11_goodMoves_39 : decode cX11_goodMoves 39 = .ok (.aload_n 0, 1) := by decide +kernel
theorem dX11_goodMoves_40 : decode cX11_goodMoves 40 = .ok (.getfield 98, 3) := by decide +kernel
theorem dX11_goodMoves_43 : decode cX11_goodMoves 43 = .ok (.aload_n 0, 1) := by decide +kernel
theorem dX11_goodMoves_44 : decode cX11_goodMoves 44 = .ok (.getfield 28, 3) := by decide +kernel
theorem dX11_goodMoves_47 : decode cX11_goodMoves 47 = .ok (.getfield 158, 3) := by decide +kernel
theorem dX11_goodMoves_50 : decode cX11_goodMoves 50 = .ok (.invokevirtual 293, 3) := by decide +kernel
theorem dX11_goodMoves_53 : decode cX11_goodMoves 53 = .ok (.ireturn, 1) := by decide +kernel
theorem dX11_bestMove_0 : decode cX11_bestMove 0 = .ok (.aload_n 0, 1) := by decide +kernel
theorem dX11_bestMove_1 : decode cX11_bestMove 1 = .ok (.invokevirtual 161, 3) := by decide +kernel
theorem dX11_bestMove_4 : decode cX11_bestMove 4 = .ok (.iconst (-1), 1) := by decide +kernel
theorem dX11_bestMove_5 : decode cX11_bestMove 5 = .ok (.if_icmp .ne 16, 3) := by decide +kernel
theorem dX11_bestMove_8 : decode cX11_bestMove 8 = .ok (.aload_n 0, 1) := by decide +kernel
theorem dX11_bestMove_9 : decode cX11_bestMove 9 = .ok (.getfield 28, 3) := by decide +kernel
theorem dX11_bestMove_12 : decode cX11_bestMove 12 = .ok (.iconst (-1), 1) := by decide +kernel
theorem dX11_bestMove_13 : decode cX11_bestMove 13 = .ok (.invokevirtual 151, 3) := by decide +kernel
theorem dX11_bestMove_16 : decode cX11_bestMove 16 = .ok (.bipush 6, 2) := by decide +kernel
theorem dX11_bestMove_18 : decode cX11_bestMove 18 = .ok (.if_icmp .le 5, 3) := by decide +kernel
theorem dX11_bestMove_21 : decode cX11_bestMove 21 = .ok (.iconst (-1), 1) := by decide +kernel
theorem dX11_bestMove_22 : decode cX11_bestMove 22 = .ok (.ireturn, 1) := by decide +kernel
theorem dX11_bestMove_23 : decode cX11_bestMove 23 = .ok (.aload_n 0, 1) := by decide +kernel
theorem dX11_bestMove_24 : decode cX11_bestMove 24 = .ok (.getfield 98, 3) := by decide +kernel
theorem dX11_bestMove_27 : decode cX11_bestMove 27 = .ok (.aload_n 0, 1) := by decide +kernel
theorem dX11_bestMove_28 : decode cX11_bestMove 28 = .ok (.getfield 28, 3) := by decide +kernel
theorem dX11_bestMove_31 : decode cX11_bestMove 31 = .ok (.getfield 194, 3) := by decide +kernel
theorem dX11_bestMove_34 : decode cX11_bestMove 34 = .ok (.invokevirtual 288, 3) := by decide +kernel
theorem dX11_bestMove_37 : decode cX11_bestMove 37 = .ok (.aload_n 0, 1) := by decide +kernel
theorem dX11_bestMove_38 : decode cX11_bestMove 38 = .ok (.getfield 98, 3) := by decide +kernel
theorem dX11_bestMove_41 : decode cX11_bestMove 41 = .ok (.aload_n 0, 1) := by decide +kernel
theorem dX11_bestMove_42 : decode cX11_bestMove 42 = .ok (.getfield 28, 3) := by decide +kernel
theorem dX11_bestMove_45 : decode cX11_bestMove 45 = .ok (.getfield 158, 3) := by decide +kernel
theorem dX11_bestMove_48 : decode cX11_bestMove 48 = .ok (.invokevirtual 296, 3) := by decide +kernel
theorem dX11_bestMove_51 : decode cX11_bestMove 51 = .ok (.ireturn, 1) := by decide +kernel
theorem dX11_filled_0 : decode cX11_filled 0 = .ok (.iload_n 1, 1) := by decide +kernel
theorem dX11_filled_1 : decode cX11_filled 1 = .ok (.iconst 0, 1) := by decide +kernel
theorem dX11_filled_2 : decode cX11_filled 2 = .ok (.ldc_w 299, 3) := by decide +kernel
theorem dX11_filled_5 : decode cX11_filled 5 = .ok (.invokestatic 190, 3) := by decide +kernel
theorem dX11_filled_8 : decode cX11_filled 8 = .ok (.aload_n 0, 1) := by decide +kernel
theorem dX11_filled_9 : decode cX11_filled 9 = .ok (.getfield 105, 3) := by decide +kernel
theorem dX11_filled_12 : decode cX11_filled 12 = .ok (.iload_n 1, 1) := by decide +kernel
theorem dX11_filled_13 : decode cX11_filled 13 = .ok (.invokevirtual 300, 3) := by decide +kernel
theorem dX11_filled_16 : decode cX11_filled 16 = .ok (.aload_n 0, 1) := by decide +kernel
theorem dX11_filled_17 : decode cX11_filled 17 = .ok (.getfield 105, 3) := by decide +kernel
theorem dX11_filled_20 : decode cX11_filled 20 = .ok (.aload_n 0, 1) := by decide +kernel
theorem dX11_filled_21 : decode cX11_filled 21 = .ok (.getfield 28, 3) := by decide +kernel
theorem dX11_filled_24 : decode cX11_filled 24 = .ok (.getfield 194, 3) := by decide +kernel
theorem dX11_filled_27 : decode cX11_filled 27 = .ok (.invokevirtual 301, 3) := by decide +kernel
theorem dX11_filled_30 : decode cX11_filled 30 = .ok (.ireturn, 1) := by decide +kernel
theorem dX11_fillings_0 : decode cX11_fillings 0 = .ok (.iload_n 1, 1) := by decide +kernel
theorem dX11_fillings_1 : decode cX11_fillings 1 = .ok (.invokestatic 211, 3) := by decide +kernel
theorem dX11_fillings_4 : decode cX11_fillings 4 = .ok (.iload_n 2, 1) := by decide +kernel
theorem dX11_fillings_5 : decode cX11_fillings 5 = .ok (.iconst 0, 1) := by decide +kernel
theorem dX11_fillings_6 : decode cX11_fillings 6 = .ok (.ldc_w 299, 3) := by decide +kernel
theorem dX11_fillings_9 : decode cX11_fillings 9 = .ok (.invokestatic 190, 3) := by decide +kernel
theorem dX11_fillings_12 : decode cX11_fillings 12 = .ok (.iload_n 3, 1) := by decide +kernel
theorem dX11_fillings_13 : decode cX11_fillings 13 = .ok (.iconst 1, 1) := by decide +kernel
theorem dX11_fillings_14 : decode cX11_fillings 14 = .ok (.bipush 100, 2) := by decide +kernel
theorem dX11_fillings_16 : decode cX11_fillings 16 = .ok (.invokestatic 190, 3) := by decide +kernel
theorem dX11_fillings_19 : decode cX11_fillings 19 = .ok (.aload_n 0, 1) := by decide +kernel
theorem dX11_fillings_20 : decode cX11_fillings 20 = .ok (.getfield 105, 3) := by decide +kernel
theorem dX11_fillings_23 : decode cX11_fillings 23 = .ok (.iload_n 2, 1) := by decide +kernel
theorem dX11_fillings_24 : decode cX11_fillings 24 = .ok (.invokevirtual 300, 3) := by decide +kernel
theorem dX11_fillings_27 : decode cX11_fillings 27 = .ok (.iconst 0, 1) := by decide +kernel
theorem dX11_fillings_28 : decode cX11_fillings 28 = .ok (.istore 4, 2) := by decide +kernel
theorem dX11_fillings_30 : decode cX11_fillings 30 = .ok (.iconst 0, 1) := by decide +kernel
theorem dX11_fillings_31 : decode cX11_fillings 31 = .ok (.istore 5, 2) := by decide +kernel
theorem dX11_fillings_33 : decode cX11_fillings 33 = .ok (.iload 5, 2) := by decide +kernel
theorem dX11_fillings_35 : decode cX11_fillings 35 = .ok (.iload_n 3, 1) := by decide +kernel
theorem dX11_fillings_36 : decode cX11_fillings 36 = .ok (.if_icmp .ge 30, 3) := by decide +kernel
theorem dX11_fillings_39 : decode cX11_fillings 39 = .ok (.aload_n 0, 1) := by decide +kernel
theorem dX11_fillings_40 : decode cX11_fillings 40 = .ok (.getfield 105, 3) := by decide +kernel
theorem dX11_fillings_43 : decode cX11_fillings 43 = .ok (.aload_n 0, 1) := by decide +kernel
theorem dX11_fillings_44 : decode cX11_fillings 44 = .ok (.getfield 28, 3) := by decide +kernel
theorem dX11_fillings_47 : decode cX11_fillings 47 = .ok (.getfield 194, 3) := by decide +kernel
theorem dX11_fillings_50 : decode cX11_fillings 50 = .ok (.invokevirtual 301, 3) := by decide +kernel
theorem dX11_fillings_53 : decode cX11_fillings 53 = .ok (.iload_n 1, 1) := by decide +kernel
theorem dX11_fillings_54 : decode cX11_fillings 54 = .ok (.if_icmp .ne 6, 3) := by decide +kernel
theorem dX11_fillings_57 : decode cX11_fillings 57 = .ok (.iinc 4 1, 3) := by decide +kernel
theorem dX11_fillings_60 : decode cX11_fillings 60 = .ok (.iinc 5 1, 3) := by decide +kernel
theorem dX11_fillings_63 : decode cX11_fillings 63 = .ok (.goto (-30), 3) := by decide +kernel
theorem dX11_fillings_66 : decode cX11_fillings 66 = .ok (.iload 4, 2) := by decide +kernel
theorem dX11_fillings_68 : decode cX11_fillings 68 = .ok (.ireturn, 1) := by decide +kernel
theorem dX11_idle_0 : decode cX11_idle 0 = .ok (.iload_n 1, 1) := by decide +kernel
theorem dX11_idle_1 : decode cX11_idle 1 = .ok (.iconst 0, 1) := by decide +kernel
theorem dX11_idle_2 : decode cX11_idle 2 = .ok (.ldc_w 299, 3) := by decide +kernel
theorem dX11_idle_5 : decode cX11_idle 5 = .ok (.invokestatic 190, 3) := by decide +kernel
theorem dX11_idle_8 : decode cX11_idle 8 = .ok (.aload_n 0, 1) := by decide +kernel
theorem dX11_idle_9 : decode cX11_idle 9 = .ok (.getfield 105, 3) := by decide +kernel
theorem dX11_idle_12 : decode cX11_idle 12 = .ok (.iload_n 1, 1) := by decide +kernel
theorem dX11_idle_13 : decode cX11_idle 13 = .ok (.invokevirtual 300, 3) := by decide +kernel
theorem dX11_idle_16 : decode cX11_idle 16 = .ok (.aload_n 0, 1) := by decide +kernel
theorem dX11_idle_17 : decode cX11_idle 17 = .ok (.getfield 105, 3) := by decide +kernel
theorem dX11_idle_20 : decode cX11_idle 20 = .ok (.aload_n 0, 1) := by decide +kernel
theorem dX11_idle_21 : decode cX11_idle 21 = .ok (.getfield 28, 3) := by decide +kernel
theorem dX11_idle_24 : decode cX11_idle 24 = .ok (.getfield 194, 3) := by decide +kernel
theorem dX11_idle_27 : decode cX11_idle 27 = .ok (.invokevirtual 301, 3) := by decide +kernel
theorem dX11_idle_30 : decode cX11_idle 30 = .ok (.istore_n 2, 1) := by decide +kernel
theorem dX11_idle_31 : decode cX11_idle 31 = .ok (.aload_n 0, 1) := by decide +kernel
theorem dX11_idle_32 : decode cX11_idle 32 = .ok (.getfield 105, 3) := by decide +kernel
theorem dX11_idle_35 : decode cX11_idle 35 = .ok (.aload_n 0, 1) := by decide +kernel
theorem dX11_idle_36 : decode cX11_idle 36 = .ok (.getfield 28, 3) := by decide +kernel
theorem dX11_idle_39 : decode cX11_idle 39 = .ok (.getfield 194, 3) := by decide +kernel
theorem dX11_idle_42 : decode cX11_idle 42 = .ok (.iload_n 2, 1) := by decide +kernel
theorem dX11_idle_43 : decode cX11_idle 43 = .ok (.invokevirtual 305, 3) := by decide +kernel
theorem dX11_idle_46 : decode cX11_idle 46 = .ok (.ireturn, 1) := by decide +kernel
theorem dX11_moveAt_0 : decode cX11_moveAt 0 = .ok (.aload_n 0, 1) := by decide +kernel
theorem dX11_moveAt_1 : decode cX11_moveAt 1 = .ok (.getfield 28, 3) := by decide +kernel
theorem dX11_moveAt_4 : decode cX11_moveAt 4 = .ok (.iload_n 1, 1) := by decide +kernel
theorem dX11_moveAt_5 : decode cX11_moveAt 5 = .ok (.invokevirtual 309, 3) := by decide +kernel
theorem dX11_moveAt_8 : decode cX11_moveAt 8 = .ok (.ireturn, 1) := by decide +kernel
theorem dX11_move_0 : decode cX11_move 0 = .ok (.aload_n 0, 1) := by decide +kernel
theorem dX11_move_1 : decode cX11_move 1 = .ok (.iload_n 1, 1) := by decide +kernel
theorem dX11_move_2 : decode cX11_move 2 = .ok (.invokevirtual 180, 3) := by decide +kernel
theorem dX11_move_5 : decode cX11_move 5 = .ok (.aload_n 0, 1) := by decide +kernel
theorem dX11_move_6 : decode cX11_move 6 = .ok (.getfield 28, 3) := by decide +kernel
theorem dX11_move_9 : decode cX11_move 9 = .ok (.iload_n 1, 1) := by decide +kernel
theorem dX11_move_10 : decode cX11_move 10 = .ok (.invokevirtual 183, 3) := by decide +kernel
theorem dX11_move_13 : decode cX11_move 13 = .ok (.iconst (-1), 1) := by decide +kernel
theorem dX11_move_14 : decode cX11_move 14 = .ok (.if_icmp .ne 11, 3) := by decide +kernel
theorem dX11_move_17 : decode cX11_move 17 = .ok (.aload_n 0, 1) := by decide +kernel
theorem dX11_move_18 : decode cX11_move 18 = .ok (.invokevirtual 161, 3) := by decide +kernel
theorem dX11_move_21 : decode cX11_move 21 = .ok (.iconst (-1), 1) := by decide +kernel
theorem dX11_move_22 : decode cX11_move 22 = .ok (.if_icmp .eq 6, 3) := by decide +kernel
theorem dX11_move_25 : decode cX11_move 25 = .ok (.bipush (-3), 2) := by decide +kernel
theorem dX11_move_27 : decode cX11_move 27 = .ok (.ireturn, 1) := by decide +kernel
theorem dX11_move_28 : decode cX11_move 28 = .ok (.aload_n 0, 1) := by decide +kernel
theorem dX11_move_29 : decode cX11_move 29 = .ok (.getfield 28, 3) := by decide +kernel
theorem dX11_move_32 : decode cX11_move 32 = .ok (.getfield 155, 3) := by decide +kernel
theorem dX11_move_35 : decode cX11_move 35 = .ok (.sipush 200, 3) := by decide +kernel
theorem dX11_move_38 : decode cX11_move 38 = .ok (.if_icmp .lt 6, 3) := by decide +kernel
theorem dX11_move_41 : decode cX11_move 41 = .ok (.bipush (-2), 2) := by decide +kernel
theorem dX11_move_43 : decode cX11_move 43 = .ok (.ireturn, 1) := by decide +kernel
theorem dX11_move_44 : decode cX11_move 44 = .ok (.aload_n 0, 1) := by decide +kernel
theorem dX11_move_45 : decode cX11_move 45 = .ok (.getfield 38, 3) := by decide +kernel
theorem dX11_move_48 : decode cX11_move 48 = .ok (.aload_n 0, 1) := by decide +kernel
theorem dX11_move_49 : decode cX11_move 49 = .ok (.getfield 28, 3) := by decide +kernel
theorem dX11_move_52 : decode cX11_move 52 = .ok (.invokevirtual 312, 3) := by decide +kernel
theorem dX11_move_55 : decode cX11_move 55 = .ok (.aload_n 0, 1) := by decide +kernel
theorem dX11_move_56 : decode cX11_move 56 = .ok (.getfield 28, 3) := by decide +kernel
theorem dX11_move_59 : decode cX11_move 59 = .ok (.iload_n 1, 1) := by decide +kernel
theorem dX11_move_60 : decode cX11_move 60 = .ok (.invokevirtual 315, 3) := by decide +kernel
theorem dX11_move_63 : decode cX11_move 63 = .ok (.aload_n 0, 1) := by decide +kernel
theorem dX11_move_64 : decode cX11_move 64 = .ok (.invokevirtual 161, 3) := by decide +kernel
theorem dX11_move_67 : decode cX11_move 67 = .ok (.ireturn, 1) := by decide +kernel
theorem dX11_swap_0 : decode cX11_swap 0 = .ok (.aload_n 0, 1) := by decide +kernel
theorem dX11_swap_1 : decode cX11_swap 1 = .ok (.invokevirtual 165, 3) := by decide +kernel
theorem dX11_swap_4 : decode cX11_swap 4 = .ok (.ifCond .ne 6, 3) := by decide +kernel
theorem dX11_swap_7 : decode cX11_swap 7 = .ok (.bipush (-3), 2) := by decide +kernel
theorem dX11_swap_9 : decode cX11_swap 9 = .ok (.ireturn, 1) := by decide +kernel
theorem dX11_swap_10 : decode cX11_swap 10 = .ok (.aload_n 0, 1) := by decide +kernel
theorem dX11_swap_11 : decode cX11_swap 11 = .ok (.getfield 38, 3) := by decide +kernel
theorem dX11_swap_14 : decode cX11_swap 14 = .ok (.aload_n 0, 1) := by decide +kernel
theorem dX11_swap_15 : decode cX11_swap 15 = .ok (.getfield 28, 3) := by decide +kernel
theorem dX11_swap_18 : decode cX11_swap 18 = .ok (.invokevirtual 312, 3) := by decide +kernel
theorem dX11_swap_21 : decode cX11_swap 21 = .ok (.aload_n 0, 1) := by decide +kernel
theorem dX11_swap_22 : decode cX11_swap 22 = .ok (.getfield 28, 3) := by decide +kernel
theorem dX11_swap_25 : decode cX11_swap 25 = .ok (.iconst 0, 1) := by decide +kernel
theorem dX11_swap_26 : decode cX11_swap 26 = .ok (.invokevirtual 309, 3) := by decide +kernel
theorem dX11_swap_29 : decode cX11_swap 29 = .ok (.istore_n 1, 1) := by decide +kernel
theorem dX11_swap_30 : decode cX11_swap 30 = .ok (.aload_n 0, 1) := by decide +kernel
theorem dX11_swap_31 : decode cX11_swap 31 = .ok (.getfield 28, 3) := by decide +kernel
theorem dX11_swap_34 : decode cX11_swap 34 = .ok (.iload_n 1, 1) := by decide +kernel
theorem dX11_swap_35 : decode cX11_swap 35 = .ok (.iconst (-1), 1) := by decide +kernel
theorem dX11_swap_36 : decode cX11_swap 36 = .ok (.invokevirtual 318, 3) := by decide +kernel
theorem dX11_swap_39 : decode cX11_swap 39 = .ok (.aload_n 0, 1) := by decide +kernel
theorem dX11_swap_40 : decode cX11_swap 40 = .ok (.getfield 10, 3) := by decide +kernel
theorem dX11_swap_43 : decode cX11_swap 43 = .ok (.iload_n 1, 1) := by decide +kernel
theorem dX11_swap_44 : decode cX11_swap 44 = .ok (.invokevirtual 321, 3) := by decide +kernel
theorem dX11_swap_47 : decode cX11_swap 47 = .ok (.istore_n 2, 1) := by decide +kernel
theorem dX11_swap_48 : decode cX11_swap 48 = .ok (.aload_n 0, 1) := by decide +kernel
theorem dX11_swap_49 : decode cX11_swap 49 = .ok (.getfield 28, 3) := by decide +kernel
theorem dX11_swap_52 : decode cX11_swap 52 = .ok (.iload_n 2, 1) := by decide +kernel
theorem dX11_swap_53 : decode cX11_swap 53 = .ok (.invokevirtual 315, 3) := by decide +kernel
theorem dX11_swap_56 : decode cX11_swap 56 = .ok (.iload_n 2, 1) := by decide +kernel
theorem dX11_swap_57 : decode cX11_swap 57 = .ok (.ireturn, 1) := by decide +kernel
theorem dX11_giveUp_0 : decode cX11_giveUp 0 = .ok (.aload_n 0, 1) := by decide +kernel
theorem dX11_giveUp_1 : decode cX11_giveUp 1 = .ok (.invokevirtual 161, 3) := by decide +kernel
theorem dX11_giveUp_4 : decode cX11_giveUp 4 = .ok (.iconst (-1), 1) := by decide +kernel
theorem dX11_giveUp_5 : decode cX11_giveUp 5 = .ok (.if_icmp .eq 6, 3) := by decide +kernel
theorem dX11_giveUp_8 : decode cX11_giveUp 8 = .ok (.bipush (-3), 2) := by decide +kernel
theorem dX11_giveUp_10 : decode cX11_giveUp 10 = .ok (.ireturn, 1) := by decide +kernel
theorem dX11_giveUp_11 : decode cX11_giveUp 11 = .ok (.aload_n 0, 1) := by decide +kernel
theorem dX11_giveUp_12 : decode cX11_giveUp 12 = .ok (.getfield 38, 3) := by decide +kernel
theorem dX11_giveUp_15 : decode cX11_giveUp 15 = .ok (.aload_n 0, 1) := by decide +kernel
theorem dX11_giveUp_16 : decode cX11_giveUp 16 = .ok (.getfield 28, 3) := by decide +kernel
theorem dX11_giveUp_19 : decode cX11_giveUp 19 = .ok (.invokevirtual 312, 3) := by decide +kernel
theorem dX11_giveUp_22 : decode cX11_giveUp 22 = .ok (.aload_n 0, 1) := by decide +kernel
theorem dX11_giveUp_23 : decode cX11_giveUp 23 = .ok (.getfield 28, 3) := by decide +kernel
theorem dX11_giveUp_26 : decode cX11_giveUp 26 = .ok (.aload_n 0, 1) := by decide +kernel
theorem dX11_giveUp_27 : decode cX11_giveUp 27 = .ok (.getfield 28, 3) := by decide +kernel
theorem dX11_giveUp_30 : decode cX11_giveUp 30 = .ok (.getfield 158, 3) := by decide +kernel
theorem dX11_giveUp_33 : decode cX11_giveUp 33 = .ok (.putfield 168, 3) := by decide +kernel
theorem dX11_giveUp_36 : decode cX11_giveUp 36 = .ok (.aload_n 0, 1) := by decide +kernel
theorem dX11_giveUp_37 : decode cX11_giveUp 37 = .ok (.invokevirtual 161, 3) := by decide +kernel
theorem dX11_giveUp_40 : decode cX11_giveUp 40 = .ok (.ireturn, 1) := by decide +kernel
theorem dX11_put_0 : decode cX11_put 0 = .ok (.aload_n 0, 1) := by decide +kernel
theorem dX11_put_1 : decode cX11_put 1 = .ok (.iload_n 1, 1) := by decide +kernel
theorem dX11_put_2 : decode cX11_put 2 = .ok (.invokevirtual 180, 3) := by decide +kernel
theorem dX11_put_5 : decode cX11_put 5 = .ok (.iload_n 2, 1) := by decide +kernel
theorem dX11_put_6 : decode cX11_put 6 = .ok (.iconst (-1), 1) := by decide +kernel
theorem dX11_put_7 : decode cX11_put 7 = .ok (.iconst 1, 1) := by decide +kernel
theorem dX11_put_8 : decode cX11_put 8 = .ok (.invokestatic 190, 3) := by decide +kernel
theorem dX11_put_11 : decode cX11_put 11 = .ok (.aload_n 0, 1) := by decide +kernel
theorem dX11_put_12 : decode cX11_put 12 = .ok (.getfield 38, 3) := by decide +kernel
theorem dX11_put_15 : decode cX11_put 15 = .ok (.aload_n 0, 1) := by decide +kernel
theorem dX11_put_16 : decode cX11_put 16 = .ok (.getfield 28, 3) := by decide +kernel
theorem dX11_put_19 : decode cX11_put 19 = .ok (.invokevirtual 312, 3) := by decide +kernel
theorem dX11_put_22 : decode cX11_put 22 = .ok (.aload_n 0, 1) := by decide +kernel
theorem dX11_put_23 : decode cX11_put 23 = .ok (.getfield 28, 3) := by decide +kernel
theorem dX11_put_26 : decode cX11_put 26 = .ok (.iload_n 1, 1) := by decide +kernel
theorem dX11_put_27 : decode cX11_put 27 = .ok (.invokevirtual 183, 3) := by decide +kernel
theorem dX11_put_30 : decode cX11_put 30 = .ok (.istore_n 3, 1) := by decide +kernel
theorem dX11_put_31 : decode cX11_put 31 = .ok (.aload_n 0, 1) := by decide +kernel
theorem dX11_put_32 : decode cX11_put 32 = .ok (.getfield 28, 3) := by decide +kernel
theorem dX11_put_35 : decode cX11_put 35 = .ok (.iload_n 1, 1) := by decide +kernel
theorem dX11_put_36 : decode cX11_put 36 = .ok (.iload_n 2, 1) := by decide +kernel
theorem dX11_put_37 : decode cX11_put 37 = .ok (.invokevirtual 318, 3) := by decide +kernel
theorem dX11_put_40 : decode cX11_put 40 = .ok (.iload_n 3, 1) := by decide +kernel
theorem dX11_put_41 : decode cX11_put 41 = .ok (.ireturn, 1) := by decide +kernel
theorem dX11_setTurn_0 : decode cX11_setTurn 0 = .ok (.iload_n 1, 1) := by decide +kernel
theorem dX11_setTurn_1 : decode cX11_setTurn 1 = .ok (.invokestatic 211, 3) := by decide +kernel
theorem dX11_setTurn_4 : decode cX11_setTurn 4 = .ok (.aload_n 0, 1) := by decide +kernel
theorem dX11_setTurn_5 : decode cX11_setTurn 5 = .ok (.getfield 38, 3) := by decide +kernel
theorem dX11_setTurn_8 : decode cX11_setTurn 8 = .ok (.aload_n 0, 1) := by decide +kernel
theorem dX11_setTurn_9 : decode cX11_setTurn 9 = .ok (.getfield 28, 3) := by decide +kernel
theorem dX11_setTurn_12 : decode cX11_setTurn 12 = .ok (.invokevirtual 312, 3) := by decide +kernel
theorem dX11_setTurn_15 : decode cX11_setTurn 15 = .ok (.aload_n 0, 1) := by decide +kernel
theorem dX11_setTurn_16 : decode cX11_setTurn 16 = .ok (.getfield 28, 3) := by decide +kernel
theorem dX11_setTurn_19 : decode cX11_setTurn 19 = .ok (.getfield 158, 3) := by decide +kernel
theorem dX11_setTurn_22 : decode cX11_setTurn 22 = .ok (.istore_n 2, 1) := by decide +kernel
theorem dX11_setTurn_23 : decode cX11_setTurn 23 = .ok (.aload_n 0, 1) := by decide +kernel
theorem dX11_setTurn_24 : decode cX11_setTurn 24 = .ok (.getfield 28, 3) := by decide +kernel
theorem dX11_setTurn_27 : decode cX11_setTurn 27 = .ok (.iload_n 1, 1) := by decide +kernel
theorem dX11_setTurn_28 : decode cX11_setTurn 28 = .ok (.putfield 158, 3) := by decide +kernel
theorem dX11_setTurn_31 : decode cX11_setTurn 31 = .ok (.iload_n 2, 1) := by decide +kernel
theorem dX11_setTurn_32 : decode cX11_setTurn 32 = .ok (.ireturn, 1) := by decide +kernel
theorem dX11_turnOver_0 : decode cX11_turnOver 0 = .ok (.aload_n 0, 1) := by decide +kernel
theorem dX11_turnOver_1 : decode cX11_turnOver 1 = .ok (.getfield 38, 3) := by decide +kernel
theorem dX11_turnOver_4 : decode cX11_turnOver 4 = .ok (.aload_n 0, 1) := by decide +kernel
theorem dX11_turnOver_5 : decode cX11_turnOver 5 = .ok (.getfield 28, 3) := by decide +kernel
theorem dX11_turnOver_8 : decode cX11_turnOver 8 = .ok (.invokevirtual 312, 3) := by decide +kernel
theorem dX11_turnOver_11 : decode cX11_turnOver 11 = .ok (.aload_n 0, 1) := by decide +kernel
theorem dX11_turnOver_12 : decode cX11_turnOver 12 = .ok (.getfield 28, 3) := by decide +kernel
theorem dX11_turnOver_15 : decode cX11_turnOver 15 = .ok (.aload_n 0, 1) := by decide +kernel
theorem dX11_turnOver_16 : decode cX11_turnOver 16 = .ok (.getfield 10, 3) := by decide +kernel
theorem dX11_turnOver_19 : decode cX11_turnOver 19 = .ok (.invokevirtual 324, 3) := by decide +kernel
theorem dX11_turnOver_22 : decode cX11_turnOver 22 = .ok (.aload_n 0, 1) := by decide +kernel
theorem dX11_turnOver_23 : decode cX11_turnOver 23 = .ok (.getfield 28, 3) := by decide +kernel
theorem dX11_turnOver_26 : decode cX11_turnOver 26 = .ok (.getfield 131, 3) := by decide +kernel
theorem dX11_turnOver_29 : decode cX11_turnOver 29 = .ok (.ireturn, 1) := by decide +kernel
theorem dX11_playForced_0 : decode cX11_playForced 0 = .ok (.iload_n 1, 1) := by decide +kernel
theorem dX11_playForced_1 : decode cX11_playForced 1 = .ok (.iconst 1, 1) := by decide +kernel
theorem dX11_playForced_2 : decode cX11_playForced 2 = .ok (.bipush 81, 2) := by decide +kernel
theorem dX11_playForced_4 : decode cX11_playForced 4 = .ok (.invokestatic 190, 3) := by decide +kernel
theorem dX11_playForced_7 : decode cX11_playForced 7 = .ok (.aload_n 0, 1) := by decide +kernel
theorem dX11_playForced_8 : decode cX11_playForced 8 = .ok (.getfield 38, 3) := by decide +kernel
theorem dX11_playForced_11 : decode cX11_playForced 11 = .ok (.aload_n 0, 1) := by decide +kernel
theorem dX11_playForced_12 : decode cX11_playForced 12 = .ok (.getfield 28, 3) := by decide +kernel
theorem dX11_playForced_15 : decode cX11_playForced 15 = .ok (.invokevirtual 312, 3) := by decide +kernel
theorem dX11_playForced_18 : decode cX11_playForced 18 = .ok (.aload_n 0, 1) := by decide +kernel
theorem dX11_playForced_19 : decode cX11_playForced 19 = .ok (.iload_n 1, 1) := by decide +kernel
theorem dX11_playForced_20 : decode cX11_playForced 20 = .ok (.invokevirtual 326, 3) := by decide +kernel
theorem dX11_playForced_23 : decode cX11_playForced 23 = .ok (.ireturn, 1) := by decide +kernel
theorem dX11_forcedWinner_0 : decode cX11_forcedWinner 0 = .ok (.aload_n 0, 1) := by decide +kernel
theorem dX11_forcedWinner_1 : decode cX11_forcedWinner 1 = .ok (.getfield 32, 3) := by decide +kernel
theorem dX11_forcedWinner_4 : decode cX11_forcedWinner 4 = .ok (.aload_n 0, 1) := by decide +kernel
theorem dX11_forcedWinner_5 : decode cX11_forcedWinner 5 = .ok (.getfield 28, 3) := by decide +kernel
theorem dX11_forcedWinner_8 : decode cX11_forcedWinner 8 = .ok (.invokevirtual 140, 3) := by decide +kernel
theorem dX11_forcedWinner_11 : decode cX11_forcedWinner 11 = .ok (.aload_n 0, 1) := by decide +kernel
theorem dX11_forcedWinner_12 : decode cX11_forcedWinner 12 = .ok (.bipush 81, 2) := by decide +kernel
theorem dX11_forcedWinner_14 : decode cX11_forcedWinner 14 = .ok (.invokevirtual 326, 3) := by decide +kernel
theorem dX11_forcedWinner_17 : decode cX11_forcedWinner 17 = .ok (.pop, 1) := by decide +kernel
theorem dX11_forcedWinner_18 : decode cX11_forcedWinner 18 = .ok (.aload_n 0, 1) := by decide +kernel
theorem dX11_forcedWinner_19 : decode cX11_forcedWinner 19 = .ok (.invokevirtual 161, 3) := by decide +kernel
theorem dX11_forcedWinner_22 : decode cX11_forcedWinner 22 = .ok (.istore_n 1, 1) := by decide +kernel
theorem dX11_forcedWinner_23 : decode cX11_forcedWinner 23 = .ok (.aload_n 0, 1) := by decide +kernel
theorem dX11_forcedWinner_24 : decode cX11_forcedWinner 24 = .ok (.getfield 28, 3) := by decide +kernel
theorem dX11_forcedWinner_27 : decode cX11_forcedWinner 27 = .ok (.aload_n 0, 1) := by decide +kernel
theorem dX11_forcedWinner_28 : decode cX11_forcedWinner 28 = .ok (.getfield 32, 3) := by decide +kernel
theorem dX11_forcedWinner_31 : decode cX11_forcedWinner 31 = .ok (.invokevirtual 140, 3) := by decide +kernel
theorem dX11_forcedWinner_34 : decode cX11_forcedWinner 34 = .ok (.iload_n 1, 1) := by decide +kernel
theorem dX11_forcedWinner_35 : decode cX11_forcedWinner 35 = .ok (.ireturn, 1) := by decide +kernel
theorem dX11_forcedRow_0 : decode cX11_forcedRow 0 = .ok (.aload_n 0, 1) := by decide +kernel
theorem dX11_forcedRow_1 : decode cX11_forcedRow 1 = .ok (.getfield 32, 3) := by decide +kernel
theorem dX11_forcedRow_4 : decode cX11_forcedRow 4 = .ok (.aload_n 0, 1) := by decide +kernel
theorem dX11_forcedRow_5 : decode cX11_forcedRow 5 = .ok (.getfield 28, 3) := by decide +kernel
theorem dX11_forcedRow_8 : decode cX11_forcedRow 8 = .ok (.invokevirtual 140, 3) := by decide +kernel
theorem dX11_forcedRow_11 : decode cX11_forcedRow 11 = .ok (.aload_n 0, 1) := by decide +kernel
theorem dX11_forcedRow_12 : decode cX11_forcedRow 12 = .ok (.bipush 81, 2) := by decide +kernel
theorem dX11_forcedRow_14 : decode cX11_forcedRow 14 = .ok (.invokevirtual 326, 3) := by decide +kernel
theorem dX11_forcedRow_17 : decode cX11_forcedRow 17 = .ok (.istore_n 1, 1) := by decide +kernel
theorem dX11_forcedRow_18 : decode cX11_forcedRow 18 = .ok (.aload_n 0, 1) := by decide +kernel
theorem dX11_forcedRow_19 : decode cX11_forcedRow 19 = .ok (.getfield 28, 3) := by decide +kernel
theorem dX11_forcedRow_22 : decode cX11_forcedRow 22 = .ok (.aload_n 0, 1) := by decide +kernel
theorem dX11_forcedRow_23 : decode cX11_forcedRow 23 = .ok (.getfield 32, 3) := by decide +kernel
theorem dX11_forcedRow_26 : decode cX11_forcedRow 26 = .ok (.invokevirtual 140, 3) := by decide +kernel
theorem dX11_forcedRow_29 : decode cX11_forcedRow 29 = .ok (.iload_n 1, 1) := by decide +kernel
theorem dX11_forcedRow_30 : decode cX11_forcedRow 30 = .ok (.ireturn, 1) := by decide +kernel
theorem dX11_undo_0 : decode cX11_undo 0 = .ok (.aload_n 0, 1) := by decide +kernel
theorem dX11_undo_1 : decode cX11_undo 1 = .ok (.getfield 38, 3) := by decide +kernel
theorem dX11_undo_4 : decode cX11_undo 4 = .ok (.aload_n 0, 1) := by decide +kernel
theorem dX11_undo_5 : decode cX11_undo 5 = .ok (.getfield 28, 3) := by decide +kernel
theorem dX11_undo_8 : decode cX11_undo 8 = .ok (.invokevirtual 346, 3) := by decide +kernel
theorem dX11_undo_11 : decode cX11_undo 11 = .ok (.ifCond .eq 13, 3) := by decide +kernel
theorem dX11_undo_14 : decode cX11_undo 14 = .ok (.aload_n 0, 1) := by decide +kernel
theorem dX11_undo_15 : decode cX11_undo 15 = .ok (.getfield 38, 3) := by decide +kernel
theorem dX11_undo_18 : decode cX11_undo 18 = .ok (.getfield 171, 3) := by decide +kernel
theorem dX11_undo_21 : decode cX11_undo 21 = .ok (.goto 4, 3) := by decide +kernel
theorem dX11_undo_24 : decode cX11_undo 24 = .ok (.iconst (-1), 1) := by decide +kernel
theorem dX11_undo_25 : decode cX11_undo 25 = .ok (.ireturn, 1) := by decide +kernel
theorem dX11_saveSnapshot_0 : decode cX11_saveSnapshot 0 = .ok (.iload_n 1, 1) := by decide +kernel
theorem dX11_saveSnapshot_1 : decode cX11_saveSnapshot 1 = .ok (.iconst 0, 1) := by decide +kernel
theorem dX11_saveSnapshot_2 : decode cX11_saveSnapshot 2 = .ok (.iconst 1, 1) := by decide +kernel
theorem dX11_saveSnapshot_3 : decode cX11_saveSnapshot 3 = .ok (.invokestatic 190, 3) := by decide +kernel
theorem dX11_saveSnapshot_6 : decode cX11_saveSnapshot 6 = .ok (.iload_n 1, 1) := by decide +kernel
theorem dX11_saveSnapshot_7 : decode cX11_saveSnapshot 7 = .ok (.ifCond .ne 10, 3) := by decide +kernel
theorem dX11_saveSnapshot_10 : decode cX11_saveSnapshot 10 = .ok (.aload_n 0, 1) := by decide +kernel
theorem dX11_saveSnapshot_11 : decode cX11_saveSnapshot 11 = .ok (.getfield 42, 3) := by decide +kernel
theorem dX11_saveSnapshot_14 : decode cX11_saveSnapshot 14 = .ok (.goto 7, 3) := by decide +kernel
theorem dX11_saveSnapshot_17 : decode cX11_saveSnapshot 17 = .ok (.aload_n 0, 1) := by decide +kernel
theorem dX11_saveSnapshot_18 : decode cX11_saveSnapshot 18 = .ok (.getfield 45, 3) := by decide +kernel
theorem dX11_saveSnapshot_21 : decode cX11_saveSnapshot 21 = .ok (.astore_n 2, 1) := by decide +kernel
theorem dX11_saveSnapshot_22 : decode cX11_saveSnapshot 22 = .ok (.aload_n 2, 1) := by decide +kernel
theorem dX11_saveSnapshot_23 : decode cX11_saveSnapshot 23 = .ok (.aload_n 0, 1) := by decide +kernel
theorem dX11_saveSnapshot_24 : decode cX11_saveSnapshot 24 = .ok (.getfield 28, 3) := by decide +kernel
theorem dX11_saveSnapshot_27 : decode cX11_saveSnapshot 27 = .ok (.invokevirtual 140, 3) := by decide +kernel
theorem dX11_saveSnapshot_30 : decode cX11_saveSnapshot 30 = .ok (.aload_n 0, 1) := by decide +kernel
theorem dX11_saveSnapshot_31 : decode cX11_saveSnapshot 31 = .ok (.getfield 28, 3) := by decide +kernel
theorem dX11_saveSnapshot_34 : decode cX11_saveSnapshot 34 = .ok (.iconst (-1), 1) := by decide +kernel
theorem dX11_saveSnapshot_35 : decode cX11_saveSnapshot 35 = .ok (.invokevirtual 151, 3) := by decide +kernel
theorem dX11_saveSnapshot_38 : decode cX11_saveSnapshot 38 = .ok (.ireturn, 1) := by decide +kernel
theorem dX11_restoreSnapshot_0 : decode cX11_restoreSnapshot 0 = .ok (.iload_n 1, 1) := by decide +kernel
theorem dX11_restoreSnapshot_1 : decode cX11_restoreSnapshot 1 = .ok (.iconst 0, 1) := by decide +kernel
theorem dX11_restoreSnapshot_2 : decode cX11_restoreSnapshot 2 = .ok (.iconst 1, 1) := by decide +kernel
theorem dX11_restoreSnapshot_3 : decode cX11_restoreSnapshot 3 = .ok (.invokestatic 190, 3) := by decide +kernel
theorem dX11_restoreSnapshot_6 : decode cX11_restoreSnapshot 6 = .ok (.iload_n 1, 1) := by decide +kernel
theorem dX11_restoreSnapshot_7 : decode cX11_restoreSnapshot 7 = .ok (.ifCond .ne 10, 3) := by decide +kernel
theorem dX11_restoreSnapshot_10 : decode cX11_restoreSnapshot 10 = .ok (.aload_n 0, 1) := by decide +kernel
theorem dX11_restoreSnapshot_11 : decode cX11_restoreSnapshot 11 = .ok (.getfield 42, 3) := by decide +kernel
theorem dX11_restoreSnapshot_14 : decode cX11_restoreSnapshot 14 = .ok (.goto 7, 3) := by decide +kernel
theorem dX11_restoreSnapshot_17 : decode cX11_restoreSnapshot 17 = .ok (.aload_n 0, 1) := by decide +kernel
theorem dX11_restoreSnapshot_18 : decode cX11_restoreSnapshot 18 = .ok (.getfield 45, 3) := by decide +kernel
theorem dX11_restoreSnapshot_21 : decode cX11_restoreSnapshot 21 = .ok (.astore_n 2, 1) := by decide +kernel
theorem dX11_restoreSnapshot_22 : decode cX11_restoreSnapshot 22 = .ok (.aload_n 2, 1) := by decide +kernel
theorem dX11_restoreSnapshot_23 : decode cX11_restoreSnapshot 23 = .ok (.invokevirtual 350, 3) := by decide +kernel
theorem dX11_restoreSnapshot_26 : decode cX11_restoreSnapshot 26 = .ok (.ifCond .ne 5, 3) := by decide +kernel
theorem dX11_restoreSnapshot_29 : decode cX11_restoreSnapshot 29 = .ok (.iconst (-1), 1) := by decide +kernel
theorem dX11_restoreSnapshot_30 : decode cX11_restoreSnapshot 30 = .ok (.ireturn, 1) := by decide +kernel
theorem dX11_restoreSnapshot_31 : decode cX11_restoreSnapshot 31 = .ok (.aload_n 0, 1) := by decide +kernel
theorem dX11_restoreSnapshot_32 : decode cX11_restoreSnapshot 32 = .ok (.getfield 28, 3) := by decide +kernel
theorem dX11_restoreSnapshot_35 : decode cX11_restoreSnapshot 35 = .ok (.aload_n 2, 1) := by decide +kernel
theorem dX11_restoreSnapshot_36 : decode cX11_restoreSnapshot 36 = .ok (.invokevirtual 140, 3) := by decide +kernel
theorem dX11_restoreSnapshot_39 : decode cX11_restoreSnapshot 39 = .ok (.aload_n 0, 1) := by decide +kernel
theorem dX11_restoreSnapshot_40 : decode cX11_restoreSnapshot 40 = .ok (.getfield 10, 3) := by decide +kernel
theorem dX11_restoreSnapshot_43 : decode cX11_restoreSnapshot 43 = .ok (.aload_n 0, 1) := by decide +kernel
theorem dX11_restoreSnapshot_44 : decode cX11_restoreSnapshot 44 = .ok (.getfield 28, 3) := by decide +kernel
theorem dX11_restoreSnapshot_47 : decode cX11_restoreSnapshot 47 = .ok (.getfield 131, 3) := by decide +kernel
theorem dX11_restoreSnapshot_50 : decode cX11_restoreSnapshot 50 = .ok (.invokevirtual 109, 3) := by decide +kernel
theorem dX11_restoreSnapshot_53 : decode cX11_restoreSnapshot 53 = .ok (.aload_n 0, 1) := by decide +kernel
theorem dX11_restoreSnapshot_54 : decode cX11_restoreSnapshot 54 = .ok (.getfield 38, 3) := by decide +kernel
theorem dX11_restoreSnapshot_57 : decode cX11_restoreSnapshot 57 = .ok (.invokevirtual 144, 3) := by decide +kernel
theorem dX11_restoreSnapshot_60 : decode cX11_restoreSnapshot 60 = .ok (.aload_n 0, 1) := by decide +kernel
theorem dX11_restoreSnapshot_61 : decode cX11_restoreSnapshot 61 = .ok (.getfield 28, 3) := by decide +kernel
theorem dX11_restoreSnapshot_64 : decode cX11_restoreSnapshot 64 = .ok (.iconst (-1), 1) := by decide +kernel
theorem dX11_restoreSnapshot_65 : decode cX11_restoreSnapshot 65 = .ok (.invokevirtual 151, 3) := by decide +kernel
theorem dX11_restoreSnapshot_68 : decode cX11_restoreSnapshot 68 = .ok (.ireturn, 1) := by decide +kernel
theorem dX11_requireCell_0 : decode cX11_requireCell 0 = .ok (.iload_n 1, 1) := by decide +kernel
theorem dX11_requireCell_1 : decode cX11_requireCell 1 = .ok (.ifCond .lt 14, 3) := by decide +kernel
theorem dX11_requireCell_4 : decode cX11_requireCell 4 = .ok (.iload_n 1, 1) := by decide +kernel
theorem dX11_requireCell_5 : decode cX11_requireCell 5 = .ok (.aload_n 0, 1) := by decide +kernel
theorem dX11_requireCell_6 : decode cX11_requireCell 6 = .ok (.getfield 10, 3) := by decide +kernel
theorem dX11_requireCell_9 : decode cX11_requireCell 9 = .ok (.getfield 275, 3) := by decide +kernel
theorem dX11_requireCell_12 : decode cX11_requireCell 12 = .ok (.if_icmp .lt 14, 3) := by decide +kernel
theorem dX11_requireCell_15 : decode cX11_requireCell 15 = .ok (.new 329, 3) := by decide +kernel
theorem dX11_requireCell_18 : decode cX11_requireCell 18 = .ok (.dup, 1) := by decide +kernel
theorem dX11_requireCell_19 : decode cX11_requireCell 19 = .ok (.ldc_w 353, 3) := by decide +kernel
theorem dX11_requireCell_22 : decode cX11_requireCell 22 = .ok (.invokespecial 333, 3) := by decide +kernel
theorem dX11_requireCell_25 : decode cX11_requireCell 25 = .ok (.athrow, 1) := by decide +kernel
theorem dX11_requireCell_26 : decode cX11_requireCell 26 = .ok (.return_, 1) := by decide +kernel
theorem dX11_requireSide_0 : decode cX11_requireSide 0 = .ok (.iload_n 0, 1) := by decide +kernel
theorem dX11_requireSide_1 : decode cX11_requireSide 1 = .ok (.ifCond .eq 19, 3) := by decide +kernel
theorem dX11_requireSide_4 : decode cX11_requireSide 4 = .ok (.iload_n 0, 1) := by decide +kernel
theorem dX11_requireSide_5 : decode cX11_requireSide 5 = .ok (.iconst 1, 1) := by decide +kernel
theorem dX11_requireSide_6 : decode cX11_requireSide 6 = .ok (.if_icmp .eq 14, 3) := by decide +kernel
theorem dX11_requireSide_9 : decode cX11_requireSide 9 = .ok (.new 173, 3) := by decide +kernel
theorem dX11_requireSide_12 : decode cX11_requireSide 12 = .ok (.dup, 1) := by decide +kernel
theorem dX11_requireSide_13 : decode cX11_requireSide 13 = .ok (.ldc_w 355, 3) := by decide +kernel
theorem dX11_requireSide_16 : decode cX11_requireSide 16 = .ok (.invokespecial 177, 3) := by decide +kernel
theorem dX11_requireSide_19 : decode cX11_requireSide 19 = .ok (.athrow, 1) := by decide +kernel
theorem dX11_requireSide_20 : decode cX11_requireSide 20 = .ok (.return_, 1) := by decide +kernel
theorem dX11_requireRange_0 : decode cX11_requireRange 0 = .ok (.iload_n 0, 1) := by decide +kernel
theorem dX11_requireRange_1 : decode cX11_requireRange 1 = .ok (.iload_n 1, 1) := by decide +kernel
theorem dX11_requireRange_2 : decode cX11_requireRange 2 = .ok (.if_icmp .lt 8, 3) := by decide +kernel
theorem dX11_requireRange_5 : decode cX11_requireRange 5 = .ok (.iload_n 0, 1) := by decide +kernel
theorem dX11_requireRange_6 : decode cX11_requireRange 6 = .ok (.iload_n 2, 1) := by decide +kernel
theorem dX11_requireRange_7 : decode cX11_requireRange 7 = .ok (.if_icmp .le 14, 3) := by decide +kernel
theorem dX11_requireRange_10 : decode cX11_requireRange 10 = .ok (.new 173, 3) := by decide +kernel
theorem dX11_requireRange_13 : decode cX11_requireRange 13 = .ok (.dup, 1) := by decide +kernel
theorem dX11_requireRange_14 : decode cX11_requireRange 14 = .ok (.ldc_w 357, 3) := by decide +kernel
theorem dX11_requireRange_17 : decode cX11_requireRange 17 = .ok (.invokespecial 177, 3) := by decide +kernel
theorem dX11_requireRange_20 : decode cX11_requireRange 20 = .ok (.athrow, 1) := by decide +kernel
theorem dX11_requireRange_21 : decode cX11_requireRange 21 = .ok (.return_, 1) := by decide +kernel
theorem dX11_otherSide_0 : decode cX11_otherSide 0 = .ok (.iload_n 0, 1) := by decide +kernel
theorem dX11_otherSide_1 : decode cX11_otherSide 1 = .ok (.ifCond .ne 7, 3) := by decide +kernel
theorem dX11_otherSide_4 : decode cX11_otherSide 4 = .ok (.iconst 1, 1) := by decide +kernel
theorem dX11_otherSide_5 : decode cX11_otherSide 5 = .ok (.goto 4, 3) := by decide +kernel
theorem dX11_otherSide_8 : decode cX11_otherSide 8 = .ok (.iconst 0, 1) := by decide +kernel
theorem dX11_otherSide_9 : decode cX11_otherSide 9 = .ok (.ireturn, 1) := by decide +kernel
theorem dX11_at_0 : decode cX11_at 0 = .ok (.iload_n 1, 1) := by decide +kernel
theorem dX11_at_1 : decode cX11_at 1 = .ok (.ifCond .lt 9, 3) := by decide +kernel
theorem dX11_at_4 : decode cX11_at 4 = .ok (.iload_n 1, 1) := by decide +kernel
theorem dX11_at_5 : decode cX11_at 5 = .ok (.aload_n 0, 1) := by decide +kernel
theorem dX11_at_6 : decode cX11_at 6 = .ok (.arraylength, 1) := by decide +kernel
theorem dX11_at_7 : decode cX11_at 7 = .ok (.if_icmp .lt 7, 3) := by decide +kernel
theorem dX11_at_10 : decode cX11_at 10 = .ok (.iconst (-1), 1) := by decide +kernel
theorem dX11_at_11 : decode cX11_at 11 = .ok (.goto 6, 3) := by decide +kernel
theorem dX11_at_14 : decode cX11_at 14 = .ok (.aload_n 0, 1) := by decide +kernel
theorem dX11_at_15 : decode cX11_at 15 = .ok (.iload_n 1, 1) := by decide +kernel
theorem dX11_at_16 : decode cX11_at 16 = .ok (.iaload, 1) := by decide +kernel
theorem dX11_at_17 : decode cX11_at 17 = .ok (.ireturn, 1) := by decide +kernel
theorem dX11_set_0 : decode cX11_set 0 = .ok (.iload_n 1, 1) := by decide +kernel
theorem dX11_set_1 : decode cX11_set 1 = .ok (.ifCond .lt 13, 3) := by decide +kernel
theorem dX11_set_4 : decode cX11_set 4 = .ok (.iload_n 1, 1) := by decide +kernel
theorem dX11_set_5 : decode cX11_set 5 = .ok (.aload_n 0, 1) := by decide +kernel
theorem dX11_set_6 : decode cX11_set 6 = .ok (.arraylength, 1) := by decide +kernel
theorem dX11_set_7 : decode cX11_set 7 = .ok (.if_icmp .ge 7, 3) := by decide +kernel
theorem dX11_set_10 : decode cX11_set 10 = .ok (.aload_n 0, 1) := by decide +kernel
theorem dX11_set_11 : decode cX11_set 11 = .ok (.iload_n 1, 1) := by decide +kernel
theorem dX11_set_12 : decode cX11_set 12 = .ok (.iload_n 2, 1) := by decide +kernel
theorem dX11_set_13 : decode cX11_set 13 = .ok (.iastore, 1) := by decide +kernel
theorem dX11_set_14 : decode cX11_set 14 = .ok (.return_, 1) := by decide +kernel
theorem dX11_winner_0 : decode cX11_winner 0 = .ok (.aload_n 0, 1) := by decide +kernel
theorem dX11_winner_1 : decode cX11_winner 1 = .ok (.getfield 28, 3) := by decide +kernel
theorem dX11_winner_4 : decode cX11_winner 4 = .ok (.aload_n 0, 1) := by decide +kernel
theorem dX11_winner_5 : decode cX11_winner 5 = .ok (.getfield 21, 3) := by decide +kernel
theorem dX11_winner_8 : decode cX11_winner 8 = .ok (.invokevirtual 359, 3) := by decide +kernel
theorem dX11_winner_11 : decode cX11_winner 11 = .ok (.ireturn, 1) := by decide +kernel
theorem dX11_canSwap_0 : decode cX11_canSwap 0 = .ok (.aload_n 0, 1) := by decide +kernel
theorem dX11_canSwap_1 : decode cX11_canSwap 1 = .ok (.getfield 10, 3) := by decide +kernel
theorem dX11_canSwap_4 : decode cX11_canSwap 4 = .ok (.getfield 275, 3) := by decide +kernel
theorem dX11_canSwap_7 : decode cX11_canSwap 7 = .ok (.aload_n 0, 1) := by decide +kernel
theorem dX11_canSwap_8 : decode cX11_canSwap 8 = .ok (.getfield 28, 3) := by decide +kernel
theorem dX11_canSwap_11 : decode cX11_canSwap 11 = .ok (.iconst (-1), 1) := by decide +kernel
theorem dX11_canSwap_12 : decode cX11_canSwap 12 = .ok (.invokevirtual 151, 3) := by decide +kernel
theorem dX11_canSwap_15 : decode cX11_canSwap 15 = .ok (.isub, 1) := by decide +kernel
theorem dX11_canSwap_16 : decode cX11_canSwap 16 = .ok (.iconst 1, 1) := by decide +kernel
theorem dX11_canSwap_17 : decode cX11_canSwap 17 = .ok (.if_icmp .ne 7, 3) := by decide +kernel
theorem dX11_canSwap_20 : decode cX11_canSwap 20 = .ok (.iconst 1, 1) := by decide +kernel
theorem dX11_canSwap_21 : decode cX11_canSwap 21 = .ok (.goto 4, 3) := by decide +kernel
theorem dX11_canSwap_24 : decode cX11_canSwap 24 = .ok (.iconst 0, 1) := by decide +kernel
theorem dX11_canSwap_25 : decode cX11_canSwap 25 = .ok (.istore_n 1, 1) := by decide +kernel
theorem dX11_canSwap_26 : decode cX11_canSwap 26 = .ok (.aload_n 0, 1) := by decide +kernel
theorem dX11_canSwap_27 : decode cX11_canSwap 27 = .ok (.getfield 28, 3) := by decide +kernel
theorem dX11_canSwap_30 : decode cX11_canSwap 30 = .ok (.getfield 362, 3) := by decide +kernel
theorem dX11_canSwap_33 : decode cX11_canSwap 33 = .ok (.ifCond .eq 58, 3) := by decide +kernel
theorem dX11_canSwap_36 : decode cX11_canSwap 36 = .ok (.aload_n 0, 1) := by decide +kernel
theorem dX11_canSwap_37 : decode cX11_canSwap 37 = .ok (.getfield 28, 3) := by decide +kernel
theorem dX11_canSwap_40 : decode cX11_canSwap 40 = .ok (.getfield 155, 3) := by decide +kernel
theorem dX11_canSwap_43 : decode cX11_canSwap 43 = .ok (.iconst 1, 1) := by decide +kernel
theorem dX11_canSwap_44 : decode cX11_canSwap 44 = .ok (.if_icmp .ne 47, 3) := by decide +kernel
theorem dX11_canSwap_47 : decode cX11_canSwap 47 = .ok (.iload_n 1, 1) := by decide +kernel
theorem dX11_canSwap_48 : decode cX11_canSwap 48 = .ok (.ifCond .eq 43, 3) := by decide +kernel
theorem dX11_canSwap_51 : decode cX11_canSwap 51 = .ok (.aload_n 0, 1) := by decide +kernel
theorem dX11_canSwap_52 : decode cX11_canSwap 52 = .ok (.getfield 28, 3) := by decide +kernel
theorem dX11_canSwap_55 : decode cX11_canSwap 55 = .ok (.aload_n 0, 1) := by decide +kernel
theorem dX11_canSwap_56 : decode cX11_canSwap 56 = .ok (.getfield 28, 3) := by decide +kernel
theorem dX11_canSwap_59 : decode cX11_canSwap 59 = .ok (.iconst 0, 1) := by decide +kernel
theorem dX11_canSwap_60 : decode cX11_canSwap 60 = .ok (.invokevirtual 309, 3) := by decide +kernel
theorem dX11_canSwap_63 : decode cX11_canSwap 63 = .ok (.invokevirtual 183, 3) := by decide +kernel
theorem dX11_canSwap_66 : decode cX11_canSwap 66 = .ok (.aload_n 0, 1) := by decide +kernel
theorem dX11_canSwap_67 : decode cX11_canSwap 67 = .ok (.getfield 28, 3) := by decide +kernel
theorem dX11_canSwap_70 : decode cX11_canSwap 70 = .ok (.getfield 158, 3) := by decide +kernel
theorem dX11_canSwap_73 : decode cX11_canSwap 73 = .ok (.invokestatic 250, 3) := by decide +kernel
theorem dX11_canSwap_76 : decode cX11_canSwap 76 = .ok (.if_icmp .ne 15, 3) := by decide +kernel
theorem dX11_canSwap_79 : decode cX11_canSwap 79 = .ok (.aload_n 0, 1) := by decide +kernel
theorem dX11_canSwap_80 : decode cX11_canSwap 80 = .ok (.invokevirtual 161, 3) := by decide +kernel
theorem dX11_canSwap_83 : decode cX11_canSwap 83 = .ok (.iconst (-1), 1) := by decide +kernel
theorem dX11_canSwap_84 : decode cX11_canSwap 84 = .ok (.if_icmp .ne 7, 3) := by decide +kernel
theorem dX11_canSwap_87 : decode cX11_canSwap 87 = .ok (.iconst 1, 1) := by decide +kernel
theorem dX11_canSwap_88 : decode cX11_canSwap 88 = .ok (.goto 4, 3) := by decide +kernel
theorem dX11_canSwap_91 : decode cX11_canSwap 91 = .ok (.iconst 0, 1) := by decide +kernel
theorem dX11_canSwap_92 : decode cX11_canSwap 92 = .ok (.ireturn, 1) := by decide +kernel
theorem dX11_liberties_0 : decode cX11_liberties 0 = .ok (.iconst 0, 1) := by decide +kernel
theorem dX11_liberties_1 : decode cX11_liberties 1 = .ok (.istore_n 2, 1) := by decide +kernel
theorem dX11_liberties_2 : decode cX11_liberties 2 = .ok (.iconst 0, 1) := by decide +kernel
theorem dX11_liberties_3 : decode cX11_liberties 3 = .ok (.istore_n 3, 1) := by decide +kernel
theorem dX11_liberties_4 : decode cX11_liberties 4 = .ok (.iload_n 3, 1) := by decide +kernel
theorem dX11_liberties_5 : decode cX11_liberties 5 = .ok (.aload_n 0, 1) := by decide +kernel
theorem dX11_liberties_6 : decode cX11_liberties 6 = .ok (.getfield 10, 3) := by decide +kernel
theorem dX11_liberties_9 : decode cX11_liberties 9 = .ok (.getfield 275, 3) := by decide +kernel
theorem dX11_liberties_12 : decode cX11_liberties 12 = .ok (.if_icmp .ge 36, 3) := by decide +kernel
theorem dX11_liberties_15 : decode cX11_liberties 15 = .ok (.aload_n 0, 1) := by decide +kernel
theorem dX11_liberties_16 : decode cX11_liberties 16 = .ok (.getfield 28, 3) := by decide +kernel
theorem dX11_liberties_19 : decode cX11_liberties 19 = .ok (.iload_n 3, 1) := by decide +kernel
theorem dX11_liberties_20 : decode cX11_liberties 20 = .ok (.invokevirtual 183, 3) := by decide +kernel
theorem dX11_liberties_23 : decode cX11_liberties 23 = .ok (.iconst (-1), 1) := by decide +kernel
theorem dX11_liberties_24 : decode cX11_liberties 24 = .ok (.if_icmp .ne 18, 3) := by decide +kernel
theorem dX11_liberties_27 : decode cX11_liberties 27 = .ok (.aload_n 0, 1) := by decide +kernel
theorem dX11_liberties_28 : decode cX11_liberties 28 = .ok (.getfield 21, 3) := by decide +kernel
theorem dX11_liberties_31 : decode cX11_liberties 31 = .ok (.iload_n 3, 1) := by decide +kernel
theorem dX11_liberties_32 : decode cX11_liberties 32 = .ok (.iload_n 1, 1) := by decide +kernel
theorem dX11_liberties_33 : decode cX11_liberties 33 = .ok (.invokevirtual 366, 3) := by decide +kernel
theorem dX11_liberties_36 : decode cX11_liberties 36 = .ok (.ifCond .eq 6, 3) := by decide +kernel
theorem dX11_liberties_39 : decode cX11_liberties 39 = .ok (.iinc 2 1, 3) := by decide +kernel
theorem dX11_liberties_42 : decode cX11_liberties 42 = .ok (.iinc 3 1, 3) := by decide +kernel
theorem dX11_liberties_45 : decode cX11_liberties 45 = .ok (.goto (-41), 3) := by decide +kernel
theorem dX11_liberties_48 : decode cX11_liberties 48 = .ok (.iload_n 2, 1) := by decide +kernel
theorem dX11_liberties_49 : decode cX11_liberties 49 = .ok (.ireturn, 1) := by decide +kernel
theorem dX11_gatherChains_0 : decode cX11_gatherChains 0 = .ok (.aload_n 0, 1) := by decide +kernel
theorem dX11_gatherChains_1 : decode cX11_gatherChains 1 = .ok (.getfield 21, 3) := by decide +kernel
theorem dX11_gatherChains_4 : decode cX11_gatherChains 4 = .ok (.aload_n 0, 1) := by decide +kernel
theorem dX11_gatherChains_5 : decode cX11_gatherChains 5 = .ok (.getfield 28, 3) := by decide +kernel
theorem dX11_gatherChains_8 : decode cX11_gatherChains 8 = .ok (.getfield 194, 3) := by decide +kernel
theorem dX11_gatherChains_11 : decode cX11_gatherChains 11 = .ok (.iload_n 1, 1) := by decide +kernel
theorem dX11_gatherChains_12 : decode cX11_gatherChains 12 = .ok (.invokevirtual 198, 3) := by decide +kernel
theorem dX11_gatherChains_15 : decode cX11_gatherChains 15 = .ok (.aload_n 0, 1) := by decide +kernel
theorem dX11_gatherChains_16 : decode cX11_gatherChains 16 = .ok (.getfield 72, 3) := by decide +kernel
theorem dX11_gatherChains_19 : decode cX11_gatherChains 19 = .ok (.aload_n 0, 1) := by decide +kernel
theorem dX11_gatherChains_20 : decode cX11_gatherChains 20 = .ok (.getfield 28, 3) := by decide +kernel
theorem dX11_gatherChains_23 : decode cX11_gatherChains 23 = .ok (.getfield 194, 3) := by decide +kernel
theorem dX11_gatherChains_26 : decode cX11_gatherChains 26 = .ok (.iload_n 1, 1) := by decide +kernel
theorem dX11_gatherChains_27 : decode cX11_gatherChains 27 = .ok (.invokevirtual 220, 3) := by decide +kernel
theorem dX11_gatherChains_30 : decode cX11_gatherChains 30 = .ok (.aload_n 0, 1) := by decide +kernel
theorem dX11_gatherChains_31 : decode cX11_gatherChains 31 = .ok (.getfield 72, 3) := by decide +kernel
theorem dX11_gatherChains_34 : decode cX11_gatherChains 34 = .ok (.aload_n 0, 1) := by decide +kernel
theorem dX11_gatherChains_35 : decode cX11_gatherChains 35 = .ok (.getfield 21, 3) := by decide +kernel
theorem dX11_gatherChains_38 : decode cX11_gatherChains 38 = .ok (.invokevirtual 369, 3) := by decide +kernel
theorem dX11_gatherChains_41 : decode cX11_gatherChains 41 = .ok (.return_, 1) := by decide +kernel
theorem dX11_countThreats_0 : decode cX11_countThreats 0 = .ok (.aload_n 0, 1) := by decide +kernel
theorem dX11_countThreats_1 : decode cX11_countThreats 1 = .ok (.getfield 21, 3) := by decide +kernel
theorem dX11_countThreats_4 : decode cX11_countThreats 4 = .ok (.aload_n 0, 1) := by decide +kernel
theorem dX11_countThreats_5 : decode cX11_countThreats 5 = .ok (.getfield 28, 3) := by decide +kernel
theorem dX11_countThreats_8 : decode cX11_countThreats 8 = .ok (.getfield 194, 3) := by decide +kernel
theorem dX11_countThreats_11 : decode cX11_countThreats 11 = .ok (.iload_n 1, 1) := by decide +kernel
theorem dX11_countThreats_12 : decode cX11_countThreats 12 = .ok (.invokevirtual 198, 3) := by decide +kernel
theorem dX11_countThreats_15 : decode cX11_countThreats 15 = .ok (.aload_n 0, 1) := by decide +kernel
theorem dX11_countThreats_16 : decode cX11_countThreats 16 = .ok (.getfield 21, 3) := by decide +kernel
theorem dX11_countThreats_19 : decode cX11_countThreats 19 = .ok (.invokevirtual 247, 3) := by decide +kernel
theorem dX11_countThreats_22 : decode cX11_countThreats 22 = .ok (.ifCond .eq 5, 3) := by decide +kernel
theorem dX11_countThreats_25 : decode cX11_countThreats 25 = .ok (.iconst 0, 1) := by decide +kernel
theorem dX11_countThreats_26 : decode cX11_countThreats 26 = .ok (.ireturn, 1) := by decide +kernel
theorem dX11_countThreats_27 : decode cX11_countThreats 27 = .ok (.iconst 0, 1) := by decide +kernel
theorem dX11_countThreats_28 : decode cX11_countThreats 28 = .ok (.istore_n 2, 1) := by decide +kernel
theorem dX11_countThreats_29 : decode cX11_countThreats 29 = .ok (.iconst 0, 1) := by decide +kernel
theorem dX11_countThreats_30 : decode cX11_countThreats 30 = .ok (.istore_n 3, 1) := by decide +kernel
theorem dX11_countThreats_31 : decode cX11_countThreats 31 = .ok (.iload_n 3, 1) := by decide +kernel
theorem dX11_countThreats_32 : decode cX11_countThreats 32 = .ok (.aload_n 0, 1) := by decide +kernel
theorem dX11_countThreats_33 : decode cX11_countThreats 33 = .ok (.getfield 10, 3) := by decide +kernel
theorem dX11_countThreats_36 : decode cX11_countThreats 36 = .ok (.getfield 275, 3) := by decide +kernel
theorem dX11_countThreats_39 : decode cX11_countThreats 39 = .ok (.if_icmp .ge 35, 3) := by decide +kernel
theorem dX11_countThreats_42 : decode cX11_countThreats 42 = .ok (.aload_n 0, 1) := by decide +kernel
theorem dX11_countThreats_43 : decode cX11_countThreats 43 = .ok (.getfield 28, 3) := by decide +kernel
theorem dX11_countThreats_46 : decode cX11_countThreats 46 = .ok (.iload_n 3, 1) := by decide +kernel
theorem dX11_countThreats_47 : decode cX11_countThreats 47 = .ok (.invokevirtual 183, 3) := by decide +kernel
theorem dX11_countThreats_50 : decode cX11_countThreats 50 = .ok (.iconst (-1), 1) := by decide +kernel
theorem dX11_countThreats_51 : decode cX11_countThreats 51 = .ok (.if_icmp .ne 17, 3) := by decide +kernel
theorem dX11_countThreats_54 : decode cX11_countThreats 54 = .ok (.aload_n 0, 1) := by decide +kernel
theorem dX11_countThreats_55 : decode cX11_countThreats 55 = .ok (.getfield 21, 3) := by decide +kernel
theorem dX11_countThreats_58 : decode cX11_countThreats 58 = .ok (.iload_n 3, 1) := by decide +kernel
theorem dX11_countThreats_59 : decode cX11_countThreats 59 = .ok (.invokevirtual 373, 3) := by decide +kernel
theorem dX11_countThreats_62 : decode cX11_countThreats 62 = .ok (.ifCond .eq 6, 3) := by decide +kernel
theorem dX11_countThreats_65 : decode cX11_countThreats 65 = .ok (.iinc 2 1, 3) := by decide +kernel
theorem dX11_countThreats_68 : decode cX11_countThreats 68 = .ok (.iinc 3 1, 3) := by decide +kernel
theorem dX11_countThreats_71 : decode cX11_countThreats 71 = .ok (.goto (-40), 3) := by decide +kernel
theorem dX11_countThreats_74 : decode cX11_countThreats 74 = .ok (.iload_n 2, 1) := by decide +kernel
theorem dX11_countThreats_75 : decode cX11_countThreats 75 = .ok (.ireturn, 1) := by decide +kernel
theorem dX11_findThreat_0 : decode cX11_findThreat 0 = .ok (.aload_n 0, 1) := by decide +kernel
theorem dX11_findThreat_1 : decode cX11_findThreat 1 = .ok (.getfield 21, 3) := by decide +kernel
theorem dX11_findThreat_4 : decode cX11_findThreat 4 = .ok (.aload_n 0, 1) := by decide +kernel
theorem dX11_findThreat_5 : decode cX11_findThreat 5 = .ok (.getfield 28, 3) := by decide +kernel
theorem dX11_findThreat_8 : decode cX11_findThreat 8 = .ok (.getfield 194, 3) := by decide +kernel
theorem dX11_findThreat_11 : decode cX11_findThreat 11 = .ok (.iload_n 1, 1) := by decide +kernel
theorem dX11_findThreat_12 : decode cX11_findThreat 12 = .ok (.invokevirtual 198, 3) := by decide +kernel
theorem dX11_findThreat_15 : decode cX11_findThreat 15 = .ok (.aload_n 0, 1) := by decide +kernel
theorem dX11_findThreat_16 : decode cX11_findThreat 16 = .ok (.getfield 21, 3) := by decide +kernel
theorem dX11_findThreat_19 : decode cX11_findThreat 19 = .ok (.invokevirtual 247, 3) := by decide +kernel
theorem dX11_findThreat_22 : decode cX11_findThreat 22 = .ok (.ifCond .eq 5, 3) := by decide +kernel
theorem dX11_findThreat_25 : decode cX11_findThreat 25 = .ok (.iconst (-1), 1) := by decide +kernel
theorem dX11_findThreat_26 : decode cX11_findThreat 26 = .ok (.ireturn, 1) := by decide +kernel
theorem dX11_findThreat_27 : decode cX11_findThreat 27 = .ok (.iconst 0, 1) := by decide +kernel
theorem dX11_findThreat_28 : decode cX11_findThreat 28 = .ok (.istore_n 3, 1) := by decide +kernel
theorem dX11_findThreat_29 : decode cX11_findThreat 29 = .ok (.iconst 0, 1) := by decide +kernel
theorem dX11_findThreat_30 : decode cX11_findThreat 30 = .ok (.istore 4, 2) := by decide +kernel
theorem dX11_findThreat_32 : decode cX11_findThreat 32 = .ok (.iload 4, 2) := by decide +kernel
theorem dX11_findThreat_34 : decode cX11_findThreat 34 = .ok (.aload_n 0, 1) := by decide +kernel
theorem dX11_findThreat_35 : decode cX11_findThreat 35 = .ok (.getfield 10, 3) := by decide +kernel
theorem dX11_findThreat_38 : decode cX11_findThreat 38 = .ok (.getfield 275, 3) := by decide +kernel
theorem dX11_findThreat_41 : decode cX11_findThreat 41 = .ok (.if_icmp .ge 45, 3) := by decide +kernel
theorem dX11_findThreat_44 : decode cX11_findThreat 44 = .ok (.aload_n 0, 1) := by decide +kernel
theorem dX11_findThreat_45 : decode cX11_findThreat 45 = .ok (.getfield 28, 3) := by decide +kernel
theorem dX11_findThreat_48 : decode cX11_findThreat 48 = .ok (.iload 4, 2) := by decide +kernel
theorem dX11_findThreat_50 : decode cX11_findThreat 50 = .ok (.invokevirtual 183, 3) := by decide +kernel
theorem dX11_findThreat_53 : decode cX11_findThreat 53 = .ok (.iconst (-1), 1) := by decide +kernel
theorem dX11_findThreat_54 : decode cX11_findThreat 54 = .ok (.if_icmp .ne 26, 3) := by decide +kernel
theorem dX11_findThreat_57 : decode cX11_findThreat 57 = .ok (.aload_n 0, 1) := by decide +kernel
theorem dX11_findThreat_58 : decode cX11_findThreat 58 = .ok (.getfield 21, 3) := by decide +kernel
theorem dX11_findThreat_61 : decode cX11_findThreat 61 = .ok (.iload 4, 2) := by decide +kernel
theorem dX11_findThreat_63 : decode cX11_findThreat 63 = .ok (.invokevirtual 373, 3) := by decide +kernel
theorem dX11_findThreat_66 : decode cX11_findThreat 66 = .ok (.ifCond .eq 14, 3) := by decide +kernel
theorem dX11_findThreat_69 : decode cX11_findThreat 69 = .ok (.iload_n 3, 1) := by decide +kernel
theorem dX11_findThreat_70 : decode cX11_findThreat 70 = .ok (.iload_n 2, 1) := by decide +kernel
theorem dX11_findThreat_71 : decode cX11_findThreat 71 = .ok (.if_icmp .ne 6, 3) := by decide +kernel
theorem dX11_findThreat_74 : decode cX11_findThreat 74 = .ok (.iload 4, 2) := by decide +kernel
theorem dX11_findThreat_76 : decode cX11_findThreat 76 = .ok (.ireturn, 1) := by decide +kernel
theorem dX11_findThreat_77 : decode cX11_findThreat 77 = .ok (.iinc 3 1, 3) := by decide +kernel
theorem dX11_findThreat_80 : decode cX11_findThreat 80 = .ok (.iinc 4 1, 3) := by decide +kernel
theorem dX11_findThreat_83 : decode cX11_findThreat 83 = .ok (.goto (-51), 3) := by decide +kernel
theorem dX11_findThreat_86 : decode cX11_findThreat 86 = .ok (.iconst (-1), 1) := by decide +kernel
theorem dX11_findThreat_87 : decode cX11_findThreat 87 = .ok (.ireturn, 1) := by decide +kernel
theorem dX11_forcedCell_0 : decode cX11_forcedCell 0 = .ok (.aload_n 0, 1) := by decide +kernel
theorem dX11_forcedCell_1 : decode cX11_forcedCell 1 = .ok (.invokevirtual 161, 3) := by decide +kernel
theorem dX11_forcedCell_4 : decode cX11_forcedCell 4 = .ok (.iconst (-1), 1) := by decide +kernel
theorem dX11_forcedCell_5 : decode cX11_forcedCell 5 = .ok (.if_icmp .eq 5, 3) := by decide +kernel
theorem dX11_forcedCell_8 : decode cX11_forcedCell 8 = .ok (.iconst (-1), 1) := by decide +kernel
theorem dX11_forcedCell_9 : decode cX11_forcedCell 9 = .ok (.ireturn, 1) := by decide +kernel
theorem dX11_forcedCell_10 : decode cX11_forcedCell 10 = .ok (.aload_n 0, 1) := by decide +kernel
theorem dX11_forcedCell_11 : decode cX11_forcedCell 11 = .ok (.aload_n 0, 1) := by decide +kernel
theorem dX11_forcedCell_12 : decode cX11_forcedCell 12 = .ok (.getfield 28, 3) := by decide +kernel
theorem dX11_forcedCell_15 : decode cX11_forcedCell 15 = .ok (.getfield 158, 3) := by decide +kernel
theorem dX11_forcedCell_18 : decode cX11_forcedCell 18 = .ok (.iconst 0, 1) := by decide +kernel
theorem dX11_forcedCell_19 : decode cX11_forcedCell 19 = .ok (.invokevirtual 259, 3) := by decide +kernel
theorem dX11_forcedCell_22 : decode cX11_forcedCell 22 = .ok (.istore_n 1, 1) := by decide +kernel
theorem dX11_forcedCell_23 : decode cX11_forcedCell 23 = .ok (.iload_n 1, 1) := by decide +kernel
theorem dX11_forcedCell_24 : decode cX11_forcedCell 24 = .ok (.iconst (-1), 1) := by decide +kernel
theorem dX11_forcedCell_25 : decode cX11_forcedCell 25 = .ok (.if_icmp .eq 5, 3) := by decide +kernel
theorem dX11_forcedCell_28 : decode cX11_forcedCell 28 = .ok (.iload_n 1, 1) := by decide +kernel
theorem dX11_forcedCell_29 : decode cX11_forcedCell 29 = .ok (.ireturn, 1) := by decide +kernel
theorem dX11_forcedCell_30 : decode cX11_forcedCell 30 = .ok (.aload_n 0, 1) := by decide +kernel
theorem dX11_forcedCell_31 : decode cX11_forcedCell 31 = .ok (.getfield 28, 3) := by decide +kernel
theorem dX11_forcedCell_34 : decode cX11_forcedCell 34 = .ok (.getfield 158, 3) := by decide +kernel
theorem dX11_forcedCell_37 : decode cX11_forcedCell 37 = .ok (.invokestatic 250, 3) := by decide +kernel
theorem dX11_forcedCell_40 : decode cX11_forcedCell 40 = .ok (.istore_n 2, 1) := by decide +kernel
theorem dX11_forcedCell_41 : decode cX11_forcedCell 41 = .ok (.aload_n 0, 1) := by decide +kernel
theorem dX11_forcedCell_42 : decode cX11_forcedCell 42 = .ok (.iload_n 2, 1) := by decide +kernel
theorem dX11_forcedCell_43 : decode cX11_forcedCell 43 = .ok (.invokevirtual 256, 3) := by decide +kernel
theorem dX11_forcedCell_46 : decode cX11_forcedCell 46 = .ok (.istore_n 3, 1) := by decide +kernel
theorem dX11_forcedCell_47 : decode cX11_forcedCell 47 = .ok (.iload_n 3, 1) := by decide +kernel
theorem dX11_forcedCell_48 : decode cX11_forcedCell 48 = .ok (.ifCond .le 19, 3) := by decide +kernel
theorem dX11_forcedCell_51 : decode cX11_forcedCell 51 = .ok (.iload_n 3, 1) := by decide +kernel
theorem dX11_forcedCell_52 : decode cX11_forcedCell 52 = .ok (.iconst 1, 1) := by decide +kernel
theorem dX11_forcedCell_53 : decode cX11_forcedCell 53 = .ok (.if_icmp .ne 12, 3) := by decide +kernel
theorem dX11_forcedCell_56 : decode cX11_forcedCell 56 = .ok (.aload_n 0, 1) := by decide +kernel
theorem dX11_forcedCell_57 : decode cX11_forcedCell 57 = .ok (.iload_n 2, 1) := by decide +kernel
theorem dX11_forcedCell_58 : decode cX11_forcedCell 58 = .ok (.iconst 0, 1) := by decide +kernel
theorem dX11_forcedCell_59 : decode cX11_forcedCell 59 = .ok (.invokevirtual 259, 3) := by decide +kernel
theorem dX11_forcedCell_62 : decode cX11_forcedCell 62 = .ok (.goto 4, 3) := by decide +kernel
theorem dX11_forcedCell_65 : decode cX11_forcedCell 65 = .ok (.iconst (-1), 1) := by decide +kernel
theorem dX11_forcedCell_66 : decode cX11_forcedCell 66 = .ok (.ireturn, 1) := by decide +kernel
theorem dX11_forcedCell_67 : decode cX11_forcedCell 67 = .ok (.aload_n 0, 1) := by decide +kernel
theorem dX11_forcedCell_68 : decode cX11_forcedCell 68 = .ok (.iload_n 2, 1) := by decide +kernel
theorem dX11_forcedCell_69 : decode cX11_forcedCell 69 = .ok (.invokevirtual 377, 3) := by decide +kernel
theorem dX11_forcedCell_72 : decode cX11_forcedCell 72 = .ok (.ireturn, 1) := by decide +kernel
theorem dX11_answerToLatestMove_0 : decode cX11_answerToLatestMove 0 = .ok (.aload_n 0, 1) := by decide +kernel
theorem dX11_answerToLatestMove_1 : decode cX11_answerToLatestMove 1 = .ok (.getfield 28, 3) := by decide +kernel
theorem dX11_answerToLatestMove_4 : decode cX11_answerToLatestMove 4 = .ok (.aload_n 0, 1) := by decide +kernel
theorem dX11_answerToLatestMove_5 : decode cX11_answerToLatestMove 5 = .ok (.getfield 28, 3) := by decide +kernel
theorem dX11_answerToLatestMove_8 : decode cX11_answerToLatestMove 8 = .ok (.getfield 155, 3) := by decide +kernel
theorem dX11_answerToLatestMove_11 : decode cX11_answerToLatestMove 11 = .ok (.iconst 1, 1) := by decide +kernel
theorem dX11_answerToLatestMove_12 : decode cX11_answerToLatestMove 12 = .ok (.isub, 1) := by decide +kernel
theorem dX11_answerToLatestMove_13 : decode cX11_answerToLatestMove 13 = .ok (.invokevirtual 309, 3) := by decide +kernel
theorem dX11_answerToLatestMove_16 : decode cX11_answerToLatestMove 16 = .ok (.istore_n 2, 1) := by decide +kernel
theorem dX11_answerToLatestMove_17 : decode cX11_answerToLatestMove 17 = .ok (.iload_n 2, 1) := by decide +kernel
theorem dX11_answerToLatestMove_18 : decode cX11_answerToLatestMove 18 = .ok (.iconst (-1), 1) := by decide +kernel
theorem dX11_answerToLatestMove_19 : decode cX11_answerToLatestMove 19 = .ok (.if_icmp .eq 15, 3) := by decide +kernel
theorem dX11_answerToLatestMove_22 : decode cX11_answerToLatestMove 22 = .ok (.aload_n 0, 1) := by decide +kernel
theorem dX11_answerToLatestMove_23 : decode cX11_answerToLatestMove 23 = .ok (.getfield 28, 3) := by decide +kernel
theorem dX11_answerToLatestMove_26 : decode cX11_answerToLatestMove 26 = .ok (.iload_n 2, 1) := by decide +kernel
theorem dX11_answerToLatestMove_27 : decode cX11_answerToLatestMove 27 = .ok (.invokevirtual 183, 3) := by decide +kernel
theorem dX11_answerToLatestMove_30 : decode cX11_answerToLatestMove 30 = .ok (.iload_n 1, 1) := by decide +kernel
theorem dX11_answerToLatestMove_31 : decode cX11_answerToLatestMove 31 = .ok (.if_icmp .eq 5, 3) := by decide +kernel
theorem dX11_answerToLatestMove_34 : decode cX11_answerToLatestMove 34 = .ok (.iconst (-1), 1) := by decide +kernel
theorem dX11_answerToLatestMove_35 : decode cX11_answerToLatestMove 35 = .ok (.ireturn, 1) := by decide +kernel
theorem dX11_answerToLatestMove_36 : decode cX11_answerToLatestMove 36 = .ok (.aload_n 0, 1) := by decide +kernel
theorem dX11_answerToLatestMove_37 : decode cX11_answerToLatestMove 37 = .ok (.getfield 28, 3) := by decide +kernel
theorem dX11_answerToLatestMove_40 : decode cX11_answerToLatestMove 40 = .ok (.iload_n 2, 1) := by decide +kernel
theorem dX11_answerToLatestMove_41 : decode cX11_answerToLatestMove 41 = .ok (.iconst (-1), 1) := by decide +kernel
theorem dX11_answerToLatestMove_42 : decode cX11_answerToLatestMove 42 = .ok (.invokevirtual 318, 3) := by decide +kernel
theorem dX11_answerToLatestMove_45 : decode cX11_answerToLatestMove 45 = .ok (.aload_n 0, 1) := by decide +kernel
theorem dX11_answerToLatestMove_46 : decode cX11_answerToLatestMove 46 = .ok (.getfield 72, 3) := by decide +kernel
theorem dX11_answerToLatestMove_49 : decode cX11_answerToLatestMove 49 = .ok (.aload_n 0, 1) := by decide +kernel
theorem dX11_answerToLatestMove_50 : decode cX11_answerToLatestMove 50 = .ok (.getfield 28, 3) := by decide +kernel
theorem dX11_answerToLatestMove_53 : decode cX11_answerToLatestMove 53 = .ok (.getfield 194, 3) := by decide +kernel
theorem dX11_answerToLatestMove_56 : decode cX11_answerToLatestMove 56 = .ok (.aload_n 0, 1) := by decide +kernel
theorem dX11_answerToLatestMove_57 : decode cX11_answerToLatestMove 57 = .ok (.getfield 28, 3) := by decide +kernel
theorem dX11_answerToLatestMove_60 : decode cX11_answerToLatestMove 60 = .ok (.getfield 158, 3) := by decide +kernel
theorem dX11_answerToLatestMove_63 : decode cX11_answerToLatestMove 63 = .ok (.invokevirtual 220, 3) := by decide +kernel
theorem dX11_answerToLatestMove_66 : decode cX11_answerToLatestMove 66 = .ok (.aload_n 0, 1) := by decide +kernel
theorem dX11_answerToLatestMove_67 : decode cX11_answerToLatestMove 67 = .ok (.getfield 72, 3) := by decide +kernel
theorem dX11_answerToLatestMove_70 : decode cX11_answerToLatestMove 70 = .ok (.iload_n 2, 1) := by decide +kernel
theorem dX11_answerToLatestMove_71 : decode cX11_answerToLatestMove 71 = .ok (.invokevirtual 253, 3) := by decide +kernel
theorem dX11_answerToLatestMove_74 : decode cX11_answerToLatestMove 74 = .ok (.istore_n 3, 1) := by decide +kernel
theorem dX11_answerToLatestMove_75 : decode cX11_answerToLatestMove 75 = .ok (.aload_n 0, 1) := by decide +kernel
theorem dX11_answerToLatestMove_76 : decode cX11_answerToLatestMove 76 = .ok (.getfield 28, 3) := by decide +kernel
theorem dX11_answerToLatestMove_79 : decode cX11_answerToLatestMove 79 = .ok (.iload_n 2, 1) := by decide +kernel
theorem dX11_answerToLatestMove_80 : decode cX11_answerToLatestMove 80 = .ok (.iload_n 1, 1) := by decide +kernel
theorem dX11_answerToLatestMove_81 : decode cX11_answerToLatestMove 81 = .ok (.invokevirtual 318, 3) := by decide +kernel
theorem dX11_answerToLatestMove_84 : decode cX11_answerToLatestMove 84 = .ok (.iload_n 3, 1) := by decide +kernel
theorem dX11_answerToLatestMove_85 : decode cX11_answerToLatestMove 85 = .ok (.ireturn, 1) := by decide +kernel
theorem dX11_makeForced_0 : decode cX11_makeForced 0 = .ok (.iconst 0, 1) := by decide +kernel
theorem dX11_makeForced_1 : decode cX11_makeForced 1 = .ok (.istore_n 2, 1) := by decide +kernel
theorem dX11_makeForced_2 : decode cX11_makeForced 2 = .ok (.iload_n 2, 1) := by decide +kernel
theorem dX11_makeForced_3 : decode cX11_makeForced 3 = .ok (.iload_n 1, 1) := by decide +kernel
theorem dX11_makeForced_4 : decode cX11_makeForced 4 = .ok (.if_icmp .ge 42, 3) := by decide +kernel
theorem dX11_makeForced_7 : decode cX11_makeForced 7 = .ok (.aload_n 0, 1) := by decide +kernel
theorem dX11_makeForced_8 : decode cX11_makeForced 8 = .ok (.getfield 28, 3) := by decide +kernel
theorem dX11_makeForced_11 : decode cX11_makeForced 11 = .ok (.getfield 155, 3) := by decide +kernel
theorem dX11_makeForced_14 : decode cX11_makeForced 14 = .ok (.sipush 200, 3) := by decide +kernel
theorem dX11_makeForced_17 : decode cX11_makeForced 17 = .ok (.if_icmp .ge 29, 3) := by decide +kernel
theorem dX11_makeForced_20 : decode cX11_makeForced 20 = .ok (.aload_n 0, 1) := by decide +kernel
theorem dX11_makeForced_21 : decode cX11_makeForced 21 = .ok (.invokevirtual 262, 3) := by decide +kernel
theorem dX11_makeForced_24 : decode cX11_makeForced 24 = .ok (.istore_n 3, 1) := by decide +kernel
theorem dX11_makeForced_25 : decode cX11_makeForced 25 = .ok (.iload_n 3, 1) := by decide +kernel
theorem dX11_makeForced_26 : decode cX11_makeForced 26 = .ok (.iconst (-1), 1) := by decide +kernel
theorem dX11_makeForced_27 : decode cX11_makeForced 27 = .ok (.if_icmp .ne 5, 3) := by decide +kernel
theorem dX11_makeForced_30 : decode cX11_makeForced 30 = .ok (.iload_n 2, 1) := by decide +kernel
theorem dX11_makeForced_31 : decode cX11_makeForced 31 = .ok (.ireturn, 1) := by decide +kernel
theorem dX11_makeForced_32 : decode cX11_makeForced 32 = .ok (.aload_n 0, 1) := by decide +kernel
theorem dX11_makeForced_33 : decode cX11_makeForced 33 = .ok (.getfield 28, 3) := by decide +kernel
theorem dX11_makeForced_36 : decode cX11_makeForced 36 = .ok (.iload_n 3, 1) := by decide +kernel
theorem dX11_makeForced_37 : decode cX11_makeForced 37 = .ok (.invokevirtual 315, 3) := by decide +kernel
theorem dX11_makeForced_40 : decode cX11_makeForced 40 = .ok (.iinc 2 1, 3) := by decide +kernel
theorem dX11_makeForced_43 : decode cX11_makeForced 43 = .ok (.goto (-41), 3) := by decide +kernel
theorem dX11_makeForced_46 : decode cX11_makeForced 46 = .ok (.iload_n 2, 1) := by decide +kernel
theorem dX11_makeForced_47 : decode cX11_makeForced 47 = .ok (.ireturn, 1) := by decide +kernel
theorem dX11_pathsOf_0 : decode cX11_pathsOf 0 = .ok (.iload_n 1, 1) := by decide +kernel
theorem dX11_pathsOf_1 : decode cX11_pathsOf 1 = .ok (.ifCond .ne 10, 3) := by decide +kernel
theorem dX11_pathsOf_4 : decode cX11_pathsOf 4 = .ok (.aload_n 0, 1) := by decide +kernel
theorem dX11_pathsOf_5 : decode cX11_pathsOf 5 = .ok (.getfield 79, 3) := by decide +kernel
theorem dX11_pathsOf_8 : decode cX11_pathsOf 8 = .ok (.goto 7, 3) := by decide +kernel
theorem dX11_pathsOf_11 : decode cX11_pathsOf 11 = .ok (.aload_n 0, 1) := by decide +kernel
theorem dX11_pathsOf_12 : decode cX11_pathsOf 12 = .ok (.getfield 83, 3) := by decide +kernel
theorem dX11_pathsOf_15 : decode cX11_pathsOf 15 = .ok (.astore_n 2, 1) := by decide +kernel
theorem dX11_pathsOf_16 : decode cX11_pathsOf 16 = .ok (.aload_n 2, 1) := by decide +kernel
theorem dX11_pathsOf_17 : decode cX11_pathsOf 17 = .ok (.aload_n 0, 1) := by decide +kernel
theorem dX11_pathsOf_18 : decode cX11_pathsOf 18 = .ok (.getfield 28, 3) := by decide +kernel
theorem dX11_pathsOf_21 : decode cX11_pathsOf 21 = .ok (.getfield 194, 3) := by decide +kernel
theorem dX11_pathsOf_24 : decode cX11_pathsOf 24 = .ok (.iload_n 1, 1) := by decide +kernel
theorem dX11_pathsOf_25 : decode cX11_pathsOf 25 = .ok (.invokevirtual 380, 3) := by decide +kernel
theorem dX11_pathsOf_28 : decode cX11_pathsOf 28 = .ok (.aload_n 2, 1) := by decide +kernel
theorem dX11_pathsOf_29 : decode cX11_pathsOf 29 = .ok (.areturn, 1) := by decide +kernel
