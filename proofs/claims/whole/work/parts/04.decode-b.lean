theorem dX8_init_0 : decode cX8_init 0 = .ok (.aload_n 0, 1) := by decide +kernel
theorem dX8_init_1 : decode cX8_init 1 = .ok (.invokespecial 1, 3) := by decide +kernel
theorem dX8_init_4 : decode cX8_init 4 = .ok (.aload_n 0, 1) := by decide +kernel
theorem dX8_init_5 : decode cX8_init 5 = .ok (.sipush 770, 3) := by decide +kernel
theorem dX8_init_8 : decode cX8_init 8 = .ok (.newarray .int, 2) := by decide +kernel
theorem dX8_init_10 : decode cX8_init 10 = .ok (.putfield 7, 3) := by decide +kernel
theorem dX8_init_13 : decode cX8_init 13 = .ok (.aload_n 0, 1) := by decide +kernel
theorem dX8_init_14 : decode cX8_init 14 = .ok (.sipush 4620, 3) := by decide +kernel
theorem dX8_init_17 : decode cX8_init 17 = .ok (.newarray .int, 2) := by decide +kernel
theorem dX8_init_19 : decode cX8_init 19 = .ok (.putfield 13, 3) := by decide +kernel
theorem dX8_init_22 : decode cX8_init 22 = .ok (.aload_n 0, 1) := by decide +kernel
theorem dX8_init_23 : decode cX8_init 23 = .ok (.sipush 1540, 3) := by decide +kernel
theorem dX8_init_26 : decode cX8_init 26 = .ok (.newarray .int, 2) := by decide +kernel
theorem dX8_init_28 : decode cX8_init 28 = .ok (.putfield 16, 3) := by decide +kernel
theorem dX8_init_31 : decode cX8_init 31 = .ok (.aload_n 0, 1) := by decide +kernel
theorem dX8_init_32 : decode cX8_init 32 = .ok (.iconst 2, 1) := by decide +kernel
theorem dX8_init_33 : decode cX8_init 33 = .ok (.newarray .boolean, 2) := by decide +kernel
theorem dX8_init_35 : decode cX8_init 35 = .ok (.putfield 19, 3) := by decide +kernel
theorem dX8_init_38 : decode cX8_init 38 = .ok (.aload_n 0, 1) := by decide +kernel
theorem dX8_init_39 : decode cX8_init 39 = .ok (.sipush 770, 3) := by decide +kernel
theorem dX8_init_42 : decode cX8_init 42 = .ok (.newarray .int, 2) := by decide +kernel
theorem dX8_init_44 : decode cX8_init 44 = .ok (.putfield 23, 3) := by decide +kernel
theorem dX8_init_47 : decode cX8_init 47 = .ok (.aload_n 0, 1) := by decide +kernel
theorem dX8_init_48 : decode cX8_init 48 = .ok (.bipush 80, 2) := by decide +kernel
theorem dX8_init_50 : decode cX8_init 50 = .ok (.newarray .int, 2) := by decide +kernel
theorem dX8_init_52 : decode cX8_init 52 = .ok (.putfield 26, 3) := by decide +kernel
theorem dX8_init_55 : decode cX8_init 55 = .ok (.aload_n 0, 1) := by decide +kernel
theorem dX8_init_56 : decode cX8_init 56 = .ok (.bipush 29, 2) := by decide +kernel
theorem dX8_init_58 : decode cX8_init 58 = .ok (.newarray .int, 2) := by decide +kernel
theorem dX8_init_60 : decode cX8_init 60 = .ok (.putfield 29, 3) := by decide +kernel
theorem dX8_init_63 : decode cX8_init 63 = .ok (.aload_n 0, 1) := by decide +kernel
theorem dX8_init_64 : decode cX8_init 64 = .ok (.bipush 30, 2) := by decide +kernel
theorem dX8_init_66 : decode cX8_init 66 = .ok (.newarray .int, 2) := by decide +kernel
theorem dX8_init_68 : decode cX8_init 68 = .ok (.putfield 32, 3) := by decide +kernel
theorem dX8_init_71 : decode cX8_init 71 = .ok (.aload_n 0, 1) := by decide +kernel
theorem dX8_init_72 : decode cX8_init 72 = .ok (.bipush 81, 2) := by decide +kernel
theorem dX8_init_74 : decode cX8_init 74 = .ok (.newarray .int, 2) := by decide +kernel
theorem dX8_init_76 : decode cX8_init 76 = .ok (.putfield 35, 3) := by decide +kernel
theorem dX8_init_79 : decode cX8_init 79 = .ok (.aload_n 0, 1) := by decide +kernel
theorem dX8_init_80 : decode cX8_init 80 = .ok (.getfield 7, 3) := by decide +kernel
theorem dX8_init_83 : decode cX8_init 83 = .ok (.iconst 0, 1) := by decide +kernel
theorem dX8_init_84 : decode cX8_init 84 = .ok (.bipush 10, 2) := by decide +kernel
theorem dX8_init_86 : decode cX8_init 86 = .ok (.iastore, 1) := by decide +kernel
theorem dX8_init_87 : decode cX8_init 87 = .ok (.aload_n 0, 1) := by decide +kernel
theorem dX8_init_88 : decode cX8_init 88 = .ok (.getfield 7, 3) := by decide +kernel
theorem dX8_init_91 : decode cX8_init 91 = .ok (.iconst 1, 1) := by decide +kernel
theorem dX8_init_92 : decode cX8_init 92 = .ok (.bipush 40, 2) := by decide +kernel
theorem dX8_init_94 : decode cX8_init 94 = .ok (.iastore, 1) := by decide +kernel
theorem dX8_init_95 : decode cX8_init 95 = .ok (.aload_n 0, 1) := by decide +kernel
theorem dX8_init_96 : decode cX8_init 96 = .ok (.getfield 7, 3) := by decide +kernel
theorem dX8_init_99 : decode cX8_init 99 = .ok (.iconst 2, 1) := by decide +kernel
theorem dX8_init_100 : decode cX8_init 100 = .ok (.bipush 20, 2) := by decide +kernel
theorem dX8_init_102 : decode cX8_init 102 = .ok (.iastore, 1) := by decide +kernel
theorem dX8_init_103 : decode cX8_init 103 = .ok (.aload_n 0, 1) := by decide +kernel
theorem dX8_init_104 : decode cX8_init 104 = .ok (.getfield 7, 3) := by decide +kernel
theorem dX8_init_107 : decode cX8_init 107 = .ok (.iconst 3, 1) := by decide +kernel
theorem dX8_init_108 : decode cX8_init 108 = .ok (.sipush 600, 3) := by decide +kernel
theorem dX8_init_111 : decode cX8_init 111 = .ok (.iastore, 1) := by decide +kernel
theorem dX8_init_112 : decode cX8_init 112 = .ok (.sipush 290, 3) := by decide +kernel
theorem dX8_init_115 : decode cX8_init 115 = .ok (.istore_n 1, 1) := by decide +kernel
theorem dX8_init_116 : decode cX8_init 116 = .ok (.iload_n 1, 1) := by decide +kernel
theorem dX8_init_117 : decode cX8_init 117 = .ok (.sipush 770, 3) := by decide +kernel
theorem dX8_init_120 : decode cX8_init 120 = .ok (.if_icmp .ge 17, 3) := by decide +kernel
theorem dX8_init_123 : decode cX8_init 123 = .ok (.aload_n 0, 1) := by decide +kernel
theorem dX8_init_124 : decode cX8_init 124 = .ok (.getfield 7, 3) := by decide +kernel
theorem dX8_init_127 : decode cX8_init 127 = .ok (.iload_n 1, 1) := by decide +kernel
theorem dX8_init_128 : decode cX8_init 128 = .ok (.bipush (-6), 2) := by decide +kernel
theorem dX8_init_130 : decode cX8_init 130 = .ok (.iastore, 1) := by decide +kernel
theorem dX8_init_131 : decode cX8_init 131 = .ok (.iinc 1 3, 3) := by decide +kernel
theorem dX8_init_134 : decode cX8_init 134 = .ok (.goto (-18), 3) := by decide +kernel
theorem dX8_init_137 : decode cX8_init 137 = .ok (.return_, 1) := by decide +kernel
theorem dX8_in_0 : decode cX8_in 0 = .ok (.iload_n 0, 1) := by decide +kernel
theorem dX8_in_1 : decode cX8_in 1 = .ok (.iload_n 1, 1) := by decide +kernel
theorem dX8_in_2 : decode cX8_in 2 = .ok (.if_icmp .lt 12, 3) := by decide +kernel
theorem dX8_in_5 : decode cX8_in 5 = .ok (.iload_n 0, 1) := by decide +kernel
theorem dX8_in_6 : decode cX8_in 6 = .ok (.iload_n 2, 1) := by decide +kernel
theorem dX8_in_7 : decode cX8_in 7 = .ok (.if_icmp .gt 7, 3) := by decide +kernel
theorem dX8_in_10 : decode cX8_in 10 = .ok (.iconst 1, 1) := by decide +kernel
theorem dX8_in_11 : decode cX8_in 11 = .ok (.goto 4, 3) := by decide +kernel
theorem dX8_in_14 : decode cX8_in 14 = .ok (.iconst 0, 1) := by decide +kernel
theorem dX8_in_15 : decode cX8_in 15 = .ok (.ireturn, 1) := by decide +kernel
theorem dX8_ofL_0 : decode cX8_ofL 0 = .ok (.aload_n 0, 1) := by decide +kernel
theorem dX8_ofL_1 : decode cX8_ofL 1 = .ok (.getfield 7, 3) := by decide +kernel
theorem dX8_ofL_4 : decode cX8_ofL 4 = .ok (.bipush 8, 2) := by decide +kernel
theorem dX8_ofL_6 : decode cX8_ofL 6 = .ok (.bipush 6, 2) := by decide +kernel
theorem dX8_ofL_8 : decode cX8_ofL 8 = .ok (.iload_n 1, 1) := by decide +kernel
theorem dX8_ofL_9 : decode cX8_ofL 9 = .ok (.imul, 1) := by decide +kernel
theorem dX8_ofL_10 : decode cX8_ofL 10 = .ok (.iadd, 1) := by decide +kernel
theorem dX8_ofL_11 : decode cX8_ofL 11 = .ok (.iload_n 2, 1) := by decide +kernel
theorem dX8_ofL_12 : decode cX8_ofL 12 = .ok (.iadd, 1) := by decide +kernel
theorem dX8_ofL_13 : decode cX8_ofL 13 = .ok (.iaload, 1) := by decide +kernel
theorem dX8_ofL_14 : decode cX8_ofL 14 = .ok (.ireturn, 1) := by decide +kernel
theorem dX8_moreL_0 : decode cX8_moreL 0 = .ok (.aload_n 0, 1) := by decide +kernel
theorem dX8_moreL_1 : decode cX8_moreL 1 = .ok (.getfield 7, 3) := by decide +kernel
theorem dX8_moreL_4 : decode cX8_moreL 4 = .ok (.bipush 8, 2) := by decide +kernel
theorem dX8_moreL_6 : decode cX8_moreL 6 = .ok (.bipush 6, 2) := by decide +kernel
theorem dX8_moreL_8 : decode cX8_moreL 8 = .ok (.iload_n 1, 1) := by decide +kernel
theorem dX8_moreL_9 : decode cX8_moreL 9 = .ok (.imul, 1) := by decide +kernel
theorem dX8_moreL_10 : decode cX8_moreL 10 = .ok (.iadd, 1) := by decide +kernel
theorem dX8_moreL_11 : decode cX8_moreL 11 = .ok (.iload_n 2, 1) := by decide +kernel
theorem dX8_moreL_12 : decode cX8_moreL 12 = .ok (.iadd, 1) := by decide +kernel
theorem dX8_moreL_13 : decode cX8_moreL 13 = .ok (.dup2, 1) := by decide +kernel
theorem dX8_moreL_14 : decode cX8_moreL 14 = .ok (.iaload, 1) := by decide +kernel
theorem dX8_moreL_15 : decode cX8_moreL 15 = .ok (.iconst 1, 1) := by decide +kernel
theorem dX8_moreL_16 : decode cX8_moreL 16 = .ok (.iadd, 1) := by decide +kernel
theorem dX8_moreL_17 : decode cX8_moreL 17 = .ok (.iastore, 1) := by decide +kernel
theorem dX8_moreL_18 : decode cX8_moreL 18 = .ok (.return_, 1) := by decide +kernel
theorem dX8_ofD_0 : decode cX8_ofD 0 = .ok (.aload_n 0, 1) := by decide +kernel
theorem dX8_ofD_1 : decode cX8_ofD 1 = .ok (.getfield 7, 3) := by decide +kernel
theorem dX8_ofD_4 : decode cX8_ofD 4 = .ok (.bipush 38, 2) := by decide +kernel
theorem dX8_ofD_6 : decode cX8_ofD 6 = .ok (.bipush 19, 2) := by decide +kernel
theorem dX8_ofD_8 : decode cX8_ofD 8 = .ok (.iload_n 1, 1) := by decide +kernel
theorem dX8_ofD_9 : decode cX8_ofD 9 = .ok (.imul, 1) := by decide +kernel
theorem dX8_ofD_10 : decode cX8_ofD 10 = .ok (.iadd, 1) := by decide +kernel
theorem dX8_ofD_11 : decode cX8_ofD 11 = .ok (.iload_n 2, 1) := by decide +kernel
theorem dX8_ofD_12 : decode cX8_ofD 12 = .ok (.iadd, 1) := by decide +kernel
theorem dX8_ofD_13 : decode cX8_ofD 13 = .ok (.iaload, 1) := by decide +kernel
theorem dX8_ofD_14 : decode cX8_ofD 14 = .ok (.ireturn, 1) := by decide +kernel
theorem dX8_layD_0 : decode cX8_layD 0 = .ok (.aload_n 0, 1) := by decide +kernel
theorem dX8_layD_1 : decode cX8_layD 1 = .ok (.getfield 7, 3) := by decide +kernel
theorem dX8_layD_4 : decode cX8_layD 4 = .ok (.bipush 38, 2) := by decide +kernel
theorem dX8_layD_6 : decode cX8_layD 6 = .ok (.bipush 19, 2) := by decide +kernel
theorem dX8_layD_8 : decode cX8_layD 8 = .ok (.iload_n 1, 1) := by decide +kernel
theorem dX8_layD_9 : decode cX8_layD 9 = .ok (.imul, 1) := by decide +kernel
theorem dX8_layD_10 : decode cX8_layD 10 = .ok (.iadd, 1) := by decide +kernel
theorem dX8_layD_11 : decode cX8_layD 11 = .ok (.iload_n 2, 1) := by decide +kernel
theorem dX8_layD_12 : decode cX8_layD 12 = .ok (.iadd, 1) := by decide +kernel
theorem dX8_layD_13 : decode cX8_layD 13 = .ok (.iload_n 3, 1) := by decide +kernel
theorem dX8_layD_14 : decode cX8_layD 14 = .ok (.iastore, 1) := by decide +kernel
theorem dX8_layD_15 : decode cX8_layD 15 = .ok (.return_, 1) := by decide +kernel
theorem dX8_ofJ_0 : decode cX8_ofJ 0 = .ok (.aload_n 0, 1) := by decide +kernel
theorem dX8_ofJ_1 : decode cX8_ofJ 1 = .ok (.getfield 7, 3) := by decide +kernel
theorem dX8_ofJ_4 : decode cX8_ofJ 4 = .ok (.sipush 266, 3) := by decide +kernel
theorem dX8_ofJ_7 : decode cX8_ofJ 7 = .ok (.bipush 6, 2) := by decide +kernel
theorem dX8_ofJ_9 : decode cX8_ofJ 9 = .ok (.iload_n 1, 1) := by decide +kernel
theorem dX8_ofJ_10 : decode cX8_ofJ 10 = .ok (.imul, 1) := by decide +kernel
theorem dX8_ofJ_11 : decode cX8_ofJ 11 = .ok (.iadd, 1) := by decide +kernel
theorem dX8_ofJ_12 : decode cX8_ofJ 12 = .ok (.iload_n 2, 1) := by decide +kernel
theorem dX8_ofJ_13 : decode cX8_ofJ 13 = .ok (.iadd, 1) := by decide +kernel
theorem dX8_ofJ_14 : decode cX8_ofJ 14 = .ok (.iaload, 1) := by decide +kernel
theorem dX8_ofJ_15 : decode cX8_ofJ 15 = .ok (.ireturn, 1) := by decide +kernel
theorem dX8_cell_0 : decode cX8_cell 0 = .ok (.sipush 290, 3) := by decide +kernel
theorem dX8_cell_3 : decode cX8_cell 3 = .ok (.bipush 96, 2) := by decide +kernel
theorem dX8_cell_5 : decode cX8_cell 5 = .ok (.iload_n 0, 1) := by decide +kernel
theorem dX8_cell_6 : decode cX8_cell 6 = .ok (.imul, 1) := by decide +kernel
theorem dX8_cell_7 : decode cX8_cell 7 = .ok (.iadd, 1) := by decide +kernel
theorem dX8_cell_8 : decode cX8_cell 8 = .ok (.iconst 3, 1) := by decide +kernel
theorem dX8_cell_9 : decode cX8_cell 9 = .ok (.iload_n 1, 1) := by decide +kernel
theorem dX8_cell_10 : decode cX8_cell 10 = .ok (.imul, 1) := by decide +kernel
theorem dX8_cell_11 : decode cX8_cell 11 = .ok (.iadd, 1) := by decide +kernel
theorem dX8_cell_12 : decode cX8_cell 12 = .ok (.ireturn, 1) := by decide +kernel
theorem dX8_isLoop_0 : decode cX8_isLoop 0 = .ok (.iload_n 1, 1) := by decide +kernel
theorem dX8_isLoop_1 : decode cX8_isLoop 1 = .ok (.iconst 0, 1) := by decide +kernel
theorem dX8_isLoop_2 : decode cX8_isLoop 2 = .ok (.aload_n 0, 1) := by decide +kernel
theorem dX8_isLoop_3 : decode cX8_isLoop 3 = .ok (.getfield 7, 3) := by decide +kernel
theorem dX8_isLoop_6 : decode cX8_isLoop 6 = .ok (.iconst 5, 1) := by decide +kernel
theorem dX8_isLoop_7 : decode cX8_isLoop 7 = .ok (.iaload, 1) := by decide +kernel
theorem dX8_isLoop_8 : decode cX8_isLoop 8 = .ok (.iconst 1, 1) := by decide +kernel
theorem dX8_isLoop_9 : decode cX8_isLoop 9 = .ok (.isub, 1) := by decide +kernel
theorem dX8_isLoop_10 : decode cX8_isLoop 10 = .ok (.invokestatic 38, 3) := by decide +kernel
theorem dX8_isLoop_13 : decode cX8_isLoop 13 = .ok (.ireturn, 1) := by decide +kernel
theorem dX8_isPlace_0 : decode cX8_isPlace 0 = .ok (.aload_n 0, 1) := by decide +kernel
theorem dX8_isPlace_1 : decode cX8_isPlace 1 = .ok (.iload_n 1, 1) := by decide +kernel
theorem dX8_isPlace_2 : decode cX8_isPlace 2 = .ok (.invokevirtual 42, 3) := by decide +kernel
theorem dX8_isPlace_5 : decode cX8_isPlace 5 = .ok (.ifCond .eq 23, 3) := by decide +kernel
theorem dX8_isPlace_8 : decode cX8_isPlace 8 = .ok (.iload_n 2, 1) := by decide +kernel
theorem dX8_isPlace_9 : decode cX8_isPlace 9 = .ok (.iconst 0, 1) := by decide +kernel
theorem dX8_isPlace_10 : decode cX8_isPlace 10 = .ok (.aload_n 0, 1) := by decide +kernel
theorem dX8_isPlace_11 : decode cX8_isPlace 11 = .ok (.iload_n 1, 1) := by decide +kernel
theorem dX8_isPlace_12 : decode cX8_isPlace 12 = .ok (.iconst 0, 1) := by decide +kernel
theorem dX8_isPlace_13 : decode cX8_isPlace 13 = .ok (.invokevirtual 46, 3) := by decide +kernel
theorem dX8_isPlace_16 : decode cX8_isPlace 16 = .ok (.iconst 1, 1) := by decide +kernel
theorem dX8_isPlace_17 : decode cX8_isPlace 17 = .ok (.isub, 1) := by decide +kernel
theorem dX8_isPlace_18 : decode cX8_isPlace 18 = .ok (.invokestatic 38, 3) := by decide +kernel
theorem dX8_isPlace_21 : decode cX8_isPlace 21 = .ok (.ifCond .eq 7, 3) := by decide +kernel
theorem dX8_isPlace_24 : decode cX8_isPlace 24 = .ok (.iconst 1, 1) := by decide +kernel
theorem dX8_isPlace_25 : decode cX8_isPlace 25 = .ok (.goto 4, 3) := by decide +kernel
theorem dX8_isPlace_28 : decode cX8_isPlace 28 = .ok (.iconst 0, 1) := by decide +kernel
theorem dX8_isPlace_29 : decode cX8_isPlace 29 = .ok (.ireturn, 1) := by decide +kernel
theorem dX8_isDevice_0 : decode cX8_isDevice 0 = .ok (.iload_n 1, 1) := by decide +kernel
theorem dX8_isDevice_1 : decode cX8_isDevice 1 = .ok (.iconst 0, 1) := by decide +kernel
theorem dX8_isDevice_2 : decode cX8_isDevice 2 = .ok (.aload_n 0, 1) := by decide +kernel
theorem dX8_isDevice_3 : decode cX8_isDevice 3 = .ok (.getfield 7, 3) := by decide +kernel
theorem dX8_isDevice_6 : decode cX8_isDevice 6 = .ok (.bipush 6, 2) := by decide +kernel
theorem dX8_isDevice_8 : decode cX8_isDevice 8 = .ok (.iaload, 1) := by decide +kernel
theorem dX8_isDevice_9 : decode cX8_isDevice 9 = .ok (.iconst 1, 1) := by decide +kernel
theorem dX8_isDevice_10 : decode cX8_isDevice 10 = .ok (.isub, 1) := by decide +kernel
theorem dX8_isDevice_11 : decode cX8_isDevice 11 = .ok (.invokestatic 38, 3) := by decide +kernel
theorem dX8_isDevice_14 : decode cX8_isDevice 14 = .ok (.ireturn, 1) := by decide +kernel
theorem dX8_isValue_0 : decode cX8_isValue 0 = .ok (.iload_n 0, 1) := by decide +kernel
theorem dX8_isValue_1 : decode cX8_isValue 1 = .ok (.iconst 0, 1) := by decide +kernel
theorem dX8_isValue_2 : decode cX8_isValue 2 = .ok (.bipush 99, 2) := by decide +kernel
theorem dX8_isValue_4 : decode cX8_isValue 4 = .ok (.invokestatic 38, 3) := by decide +kernel
theorem dX8_isValue_7 : decode cX8_isValue 7 = .ok (.ireturn, 1) := by decide +kernel
theorem dX8_keep_0 : decode cX8_keep 0 = .ok (.aload_n 0, 1) := by decide +kernel
theorem dX8_keep_1 : decode cX8_keep 1 = .ok (.getfield 50, 3) := by decide +kernel
theorem dX8_keep_4 : decode cX8_keep 4 = .ok (.bipush 6, 2) := by decide +kernel
theorem dX8_keep_6 : decode cX8_keep 6 = .ok (.if_icmp .ne 26, 3) := by decide +kernel
theorem dX8_keep_9 : decode cX8_keep 9 = .ok (.aload_n 0, 1) := by decide +kernel
theorem dX8_keep_10 : decode cX8_keep 10 = .ok (.aload_n 0, 1) := by decide +kernel
theorem dX8_keep_11 : decode cX8_keep 11 = .ok (.getfield 54, 3) := by decide +kernel
theorem dX8_keep_14 : decode cX8_keep 14 = .ok (.iconst 1, 1) := by decide +kernel
theorem dX8_keep_15 : decode cX8_keep 15 = .ok (.iadd, 1) := by decide +kernel
theorem dX8_keep_16 : decode cX8_keep 16 = .ok (.bipush 6, 2) := by decide +kernel
theorem dX8_keep_18 : decode cX8_keep 18 = .ok (.irem, 1) := by decide +kernel
theorem dX8_keep_19 : decode cX8_keep 19 = .ok (.putfield 54, 3) := by decide +kernel
theorem dX8_keep_22 : decode cX8_keep 22 = .ok (.aload_n 0, 1) := by decide +kernel
theorem dX8_keep_23 : decode cX8_keep 23 = .ok (.dup, 1) := by decide +kernel
theorem dX8_keep_24 : decode cX8_keep 24 = .ok (.getfield 50, 3) := by decide +kernel
theorem dX8_keep_27 : decode cX8_keep 27 = .ok (.iconst 1, 1) := by decide +kernel
theorem dX8_keep_28 : decode cX8_keep 28 = .ok (.isub, 1) := by decide +kernel
theorem dX8_keep_29 : decode cX8_keep 29 = .ok (.putfield 50, 3) := by decide +kernel
theorem dX8_keep_32 : decode cX8_keep 32 = .ok (.aload_n 0, 1) := by decide +kernel
theorem dX8_keep_33 : decode cX8_keep 33 = .ok (.getfield 54, 3) := by decide +kernel
theorem dX8_keep_36 : decode cX8_keep 36 = .ok (.aload_n 0, 1) := by decide +kernel
theorem dX8_keep_37 : decode cX8_keep 37 = .ok (.getfield 50, 3) := by decide +kernel
theorem dX8_keep_40 : decode cX8_keep 40 = .ok (.iadd, 1) := by decide +kernel
theorem dX8_keep_41 : decode cX8_keep 41 = .ok (.bipush 6, 2) := by decide +kernel
theorem dX8_keep_43 : decode cX8_keep 43 = .ok (.irem, 1) := by decide +kernel
theorem dX8_keep_44 : decode cX8_keep 44 = .ok (.istore_n 1, 1) := by decide +kernel
theorem dX8_keep_45 : decode cX8_keep 45 = .ok (.iconst 0, 1) := by decide +kernel
theorem dX8_keep_46 : decode cX8_keep 46 = .ok (.istore_n 2, 1) := by decide +kernel
theorem dX8_keep_47 : decode cX8_keep 47 = .ok (.iload_n 2, 1) := by decide +kernel
theorem dX8_keep_48 : decode cX8_keep 48 = .ok (.sipush 770, 3) := by decide +kernel
theorem dX8_keep_51 : decode cX8_keep 51 = .ok (.if_icmp .ge 27, 3) := by decide +kernel
theorem dX8_keep_54 : decode cX8_keep 54 = .ok (.aload_n 0, 1) := by decide +kernel
theorem dX8_keep_55 : decode cX8_keep 55 = .ok (.getfield 13, 3) := by decide +kernel
theorem dX8_keep_58 : decode cX8_keep 58 = .ok (.sipush 770, 3) := by decide +kernel
theorem dX8_keep_61 : decode cX8_keep 61 = .ok (.iload_n 1, 1) := by decide +kernel
theorem dX8_keep_62 : decode cX8_keep 62 = .ok (.imul, 1) := by decide +kernel
theorem dX8_keep_63 : decode cX8_keep 63 = .ok (.iload_n 2, 1) := by decide +kernel
theorem dX8_keep_64 : decode cX8_keep 64 = .ok (.iadd, 1) := by decide +kernel
theorem dX8_keep_65 : decode cX8_keep 65 = .ok (.aload_n 0, 1) := by decide +kernel
theorem dX8_keep_66 : decode cX8_keep 66 = .ok (.getfield 7, 3) := by decide +kernel
theorem dX8_keep_69 : decode cX8_keep 69 = .ok (.iload_n 2, 1) := by decide +kernel
theorem dX8_keep_70 : decode cX8_keep 70 = .ok (.iaload, 1) := by decide +kernel
theorem dX8_keep_71 : decode cX8_keep 71 = .ok (.iastore, 1) := by decide +kernel
theorem dX8_keep_72 : decode cX8_keep 72 = .ok (.iinc 2 1, 3) := by decide +kernel
theorem dX8_keep_75 : decode cX8_keep 75 = .ok (.goto (-28), 3) := by decide +kernel
theorem dX8_keep_78 : decode cX8_keep 78 = .ok (.aload_n 0, 1) := by decide +kernel
theorem dX8_keep_79 : decode cX8_keep 79 = .ok (.dup, 1) := by decide +kernel
theorem dX8_keep_80 : decode cX8_keep 80 = .ok (.getfield 50, 3) := by decide +kernel
theorem dX8_keep_83 : decode cX8_keep 83 = .ok (.iconst 1, 1) := by decide +kernel
theorem dX8_keep_84 : decode cX8_keep 84 = .ok (.iadd, 1) := by decide +kernel
theorem dX8_keep_85 : decode cX8_keep 85 = .ok (.putfield 50, 3) := by decide +kernel
theorem dX8_keep_88 : decode cX8_keep 88 = .ok (.return_, 1) := by decide +kernel
theorem dX8_keepIf_0 : decode cX8_keepIf 0 = .ok (.iload_n 1, 1) := by decide +kernel
theorem dX8_keepIf_1 : decode cX8_keepIf 1 = .ok (.ifCond .eq 7, 3) := by decide +kernel
theorem dX8_keepIf_4 : decode cX8_keepIf 4 = .ok (.aload_n 0, 1) := by decide +kernel
theorem dX8_keepIf_5 : decode cX8_keepIf 5 = .ok (.invokevirtual 57, 3) := by decide +kernel
theorem dX8_keepIf_8 : decode cX8_keepIf 8 = .ok (.return_, 1) := by decide +kernel
theorem dX8_layAside_0 : decode cX8_layAside 0 = .ok (.iconst 0, 1) := by decide +kernel
theorem dX8_layAside_1 : decode cX8_layAside 1 = .ok (.istore_n 1, 1) := by decide +kernel
theorem dX8_layAside_2 : decode cX8_layAside 2 = .ok (.iload_n 1, 1) := by decide +kernel
theorem dX8_layAside_3 : decode cX8_layAside 3 = .ok (.sipush 770, 3) := by decide +kernel
theorem dX8_layAside_6 : decode cX8_layAside 6 = .ok (.if_icmp .ge 21, 3) := by decide +kernel
theorem dX8_layAside_9 : decode cX8_layAside 9 = .ok (.aload_n 0, 1) := by decide +kernel
theorem dX8_layAside_10 : decode cX8_layAside 10 = .ok (.getfield 23, 3) := by decide +kernel
theorem dX8_layAside_13 : decode cX8_layAside 13 = .ok (.iload_n 1, 1) := by decide +kernel
theorem dX8_layAside_14 : decode cX8_layAside 14 = .ok (.aload_n 0, 1) := by decide +kernel
theorem dX8_layAside_15 : decode cX8_layAside 15 = .ok (.getfield 7, 3) := by decide +kernel
theorem dX8_layAside_18 : decode cX8_layAside 18 = .ok (.iload_n 1, 1) := by decide +kernel
theorem dX8_layAside_19 : decode cX8_layAside 19 = .ok (.iaload, 1) := by decide +kernel
theorem dX8_layAside_20 : decode cX8_layAside 20 = .ok (.iastore, 1) := by decide +kernel
theorem dX8_layAside_21 : decode cX8_layAside 21 = .ok (.iinc 1 1, 3) := by decide +kernel
theorem dX8_layAside_24 : decode cX8_layAside 24 = .ok (.goto (-22), 3) := by decide +kernel
theorem dX8_layAside_27 : decode cX8_layAside 27 = .ok (.return_, 1) := by decide +kernel
theorem dX8_layBack_0 : decode cX8_layBack 0 = .ok (.iconst 0, 1) := by decide +kernel
theorem dX8_layBack_1 : decode cX8_layBack 1 = .ok (.istore_n 1, 1) := by decide +kernel
theorem dX8_layBack_2 : decode cX8_layBack 2 = .ok (.iload_n 1, 1) := by decide +kernel
theorem dX8_layBack_3 : decode cX8_layBack 3 = .ok (.sipush 770, 3) := by decide +kernel
theorem dX8_layBack_6 : decode cX8_layBack 6 = .ok (.if_icmp .ge 21, 3) := by decide +kernel
theorem dX8_layBack_9 : decode cX8_layBack 9 = .ok (.aload_n 0, 1) := by decide +kernel
theorem dX8_layBack_10 : decode cX8_layBack 10 = .ok (.getfield 7, 3) := by decide +kernel
theorem dX8_layBack_13 : decode cX8_layBack 13 = .ok (.iload_n 1, 1) := by decide +kernel
theorem dX8_layBack_14 : decode cX8_layBack 14 = .ok (.aload_n 0, 1) := by decide +kernel
theorem dX8_layBack_15 : decode cX8_layBack 15 = .ok (.getfield 23, 3) := by decide +kernel
theorem dX8_layBack_18 : decode cX8_layBack 18 = .ok (.iload_n 1, 1) := by decide +kernel
theorem dX8_layBack_19 : decode cX8_layBack 19 = .ok (.iaload, 1) := by decide +kernel
theorem dX8_layBack_20 : decode cX8_layBack 20 = .ok (.iastore, 1) := by decide +kernel
theorem dX8_layBack_21 : decode cX8_layBack 21 = .ok (.iinc 1 1, 3) := by decide +kernel
theorem dX8_layBack_24 : decode cX8_layBack 24 = .ok (.goto (-22), 3) := by decide +kernel
theorem dX8_layBack_27 : decode cX8_layBack 27 = .ok (.return_, 1) := by decide +kernel
theorem dX8_clear_0 : decode cX8_clear 0 = .ok (.aload_n 0, 1) := by decide +kernel
theorem dX8_clear_1 : decode cX8_clear 1 = .ok (.getfield 7, 3) := by decide +kernel
theorem dX8_clear_4 : decode cX8_clear 4 = .ok (.iload_n 1, 1) := by decide +kernel
theorem dX8_clear_5 : decode cX8_clear 5 = .ok (.bipush (-6), 2) := by decide +kernel
theorem dX8_clear_7 : decode cX8_clear 7 = .ok (.iastore, 1) := by decide +kernel
theorem dX8_clear_8 : decode cX8_clear 8 = .ok (.aload_n 0, 1) := by decide +kernel
theorem dX8_clear_9 : decode cX8_clear 9 = .ok (.getfield 7, 3) := by decide +kernel
theorem dX8_clear_12 : decode cX8_clear 12 = .ok (.iload_n 1, 1) := by decide +kernel
theorem dX8_clear_13 : decode cX8_clear 13 = .ok (.iconst 1, 1) := by decide +kernel
theorem dX8_clear_14 : decode cX8_clear 14 = .ok (.iadd, 1) := by decide +kernel
theorem dX8_clear_15 : decode cX8_clear 15 = .ok (.iconst 0, 1) := by decide +kernel
theorem dX8_clear_16 : decode cX8_clear 16 = .ok (.iastore, 1) := by decide +kernel
theorem dX8_clear_17 : decode cX8_clear 17 = .ok (.aload_n 0, 1) := by decide +kernel
theorem dX8_clear_18 : decode cX8_clear 18 = .ok (.getfield 7, 3) := by decide +kernel
theorem dX8_clear_21 : decode cX8_clear 21 = .ok (.iload_n 1, 1) := by decide +kernel
theorem dX8_clear_22 : decode cX8_clear 22 = .ok (.iconst 2, 1) := by decide +kernel
theorem dX8_clear_23 : decode cX8_clear 23 = .ok (.iadd, 1) := by decide +kernel
theorem dX8_clear_24 : decode cX8_clear 24 = .ok (.iconst 0, 1) := by decide +kernel
theorem dX8_clear_25 : decode cX8_clear 25 = .ok (.iastore, 1) := by decide +kernel
theorem dX8_clear_26 : decode cX8_clear 26 = .ok (.return_, 1) := by decide +kernel
theorem dX8_shine_0 : decode cX8_shine 0 = .ok (.aload_n 0, 1) := by decide +kernel
theorem dX8_shine_1 : decode cX8_shine 1 = .ok (.getfield 7, 3) := by decide +kernel
theorem dX8_shine_4 : decode cX8_shine 4 = .ok (.iload_n 2, 1) := by decide +kernel
theorem dX8_shine_5 : decode cX8_shine 5 = .ok (.iload_n 3, 1) := by decide +kernel
theorem dX8_shine_6 : decode cX8_shine 6 = .ok (.iastore, 1) := by decide +kernel
theorem dX8_shine_7 : decode cX8_shine 7 = .ok (.aload_n 0, 1) := by decide +kernel
theorem dX8_shine_8 : decode cX8_shine 8 = .ok (.getfield 7, 3) := by decide +kernel
theorem dX8_shine_11 : decode cX8_shine 11 = .ok (.iload_n 2, 1) := by decide +kernel
theorem dX8_shine_12 : decode cX8_shine 12 = .ok (.iconst 1, 1) := by decide +kernel
theorem dX8_shine_13 : decode cX8_shine 13 = .ok (.iadd, 1) := by decide +kernel
theorem dX8_shine_14 : decode cX8_shine 14 = .ok (.aload_n 0, 1) := by decide +kernel
theorem dX8_shine_15 : decode cX8_shine 15 = .ok (.getfield 7, 3) := by decide +kernel
theorem dX8_shine_18 : decode cX8_shine 18 = .ok (.iconst 3, 1) := by decide +kernel
theorem dX8_shine_19 : decode cX8_shine 19 = .ok (.iaload, 1) := by decide +kernel
theorem dX8_shine_20 : decode cX8_shine 20 = .ok (.iastore, 1) := by decide +kernel
theorem dX8_shine_21 : decode cX8_shine 21 = .ok (.aload_n 0, 1) := by decide +kernel
theorem dX8_shine_22 : decode cX8_shine 22 = .ok (.getfield 7, 3) := by decide +kernel
theorem dX8_shine_25 : decode cX8_shine 25 = .ok (.iload_n 2, 1) := by decide +kernel
theorem dX8_shine_26 : decode cX8_shine 26 = .ok (.iconst 2, 1) := by decide +kernel
theorem dX8_shine_27 : decode cX8_shine 27 = .ok (.iadd, 1) := by decide +kernel
theorem dX8_shine_28 : decode cX8_shine 28 = .ok (.aload_n 0, 1) := by decide +kernel
theorem dX8_shine_29 : decode cX8_shine 29 = .ok (.getfield 7, 3) := by decide +kernel
theorem dX8_shine_32 : decode cX8_shine 32 = .ok (.iconst 4, 1) := by decide +kernel
theorem dX8_shine_33 : decode cX8_shine 33 = .ok (.iaload, 1) := by decide +kernel
theorem dX8_shine_34 : decode cX8_shine 34 = .ok (.iastore, 1) := by decide +kernel
theorem dX8_shine_35 : decode cX8_shine 35 = .ok (.aload_n 0, 1) := by decide +kernel
theorem dX8_shine_36 : decode cX8_shine 36 = .ok (.iload_n 1, 1) := by decide +kernel
theorem dX8_shine_37 : decode cX8_shine 37 = .ok (.iconst 1, 1) := by decide +kernel
theorem dX8_shine_38 : decode cX8_shine 38 = .ok (.invokevirtual 60, 3) := by decide +kernel
theorem dX8_shine_41 : decode cX8_shine 41 = .ok (.return_, 1) := by decide +kernel
theorem dX8_moveTo_0 : decode cX8_moveTo 0 = .ok (.iconst 0, 1) := by decide +kernel
theorem dX8_moveTo_1 : decode cX8_moveTo 1 = .ok (.istore_n 3, 1) := by decide +kernel
theorem dX8_moveTo_2 : decode cX8_moveTo 2 = .ok (.iload_n 3, 1) := by decide +kernel
theorem dX8_moveTo_3 : decode cX8_moveTo 3 = .ok (.iconst 3, 1) := by decide +kernel
theorem dX8_moveTo_4 : decode cX8_moveTo 4 = .ok (.if_icmp .ge 25, 3) := by decide +kernel
theorem dX8_moveTo_7 : decode cX8_moveTo 7 = .ok (.aload_n 0, 1) := by decide +kernel
theorem dX8_moveTo_8 : decode cX8_moveTo 8 = .ok (.getfield 7, 3) := by decide +kernel
theorem dX8_moveTo_11 : decode cX8_moveTo 11 = .ok (.iload_n 2, 1) := by decide +kernel
theorem dX8_moveTo_12 : decode cX8_moveTo 12 = .ok (.iload_n 3, 1) := by decide +kernel
theorem dX8_moveTo_13 : decode cX8_moveTo 13 = .ok (.iadd, 1) := by decide +kernel
theorem dX8_moveTo_14 : decode cX8_moveTo 14 = .ok (.aload_n 0, 1) := by decide +kernel
theorem dX8_moveTo_15 : decode cX8_moveTo 15 = .ok (.getfield 7, 3) := by decide +kernel
theorem dX8_moveTo_18 : decode cX8_moveTo 18 = .ok (.iload_n 1, 1) := by decide +kernel
theorem dX8_moveTo_19 : decode cX8_moveTo 19 = .ok (.iload_n 3, 1) := by decide +kernel
theorem dX8_moveTo_20 : decode cX8_moveTo 20 = .ok (.iadd, 1) := by decide +kernel
theorem dX8_moveTo_21 : decode cX8_moveTo 21 = .ok (.iaload, 1) := by decide +kernel
theorem dX8_moveTo_22 : decode cX8_moveTo 22 = .ok (.iastore, 1) := by decide +kernel
theorem dX8_moveTo_23 : decode cX8_moveTo 23 = .ok (.iinc 3 1, 3) := by decide +kernel
theorem dX8_moveTo_26 : decode cX8_moveTo 26 = .ok (.goto (-24), 3) := by decide +kernel
theorem dX8_moveTo_29 : decode cX8_moveTo 29 = .ok (.aload_n 0, 1) := by decide +kernel
theorem dX8_moveTo_30 : decode cX8_moveTo 30 = .ok (.iload_n 1, 1) := by decide +kernel
theorem dX8_moveTo_31 : decode cX8_moveTo 31 = .ok (.invokevirtual 64, 3) := by decide +kernel
theorem dX8_moveTo_34 : decode cX8_moveTo 34 = .ok (.return_, 1) := by decide +kernel
theorem dX8_turnOn_0 : decode cX8_turnOn 0 = .ok (.iload_n 1, 1) := by decide +kernel
theorem dX8_turnOn_1 : decode cX8_turnOn 1 = .ok (.aload_n 0, 1) := by decide +kernel
theorem dX8_turnOn_2 : decode cX8_turnOn 2 = .ok (.iload_n 1, 1) := by decide +kernel
theorem dX8_turnOn_3 : decode cX8_turnOn 3 = .ok (.iconst 0, 1) := by decide +kernel
theorem dX8_turnOn_4 : decode cX8_turnOn 4 = .ok (.invokevirtual 46, 3) := by decide +kernel
theorem dX8_turnOn_7 : decode cX8_turnOn 7 = .ok (.iconst 1, 1) := by decide +kernel
theorem dX8_turnOn_8 : decode cX8_turnOn 8 = .ok (.isub, 1) := by decide +kernel
theorem dX8_turnOn_9 : decode cX8_turnOn 9 = .ok (.invokestatic 68, 3) := by decide +kernel
theorem dX8_turnOn_12 : decode cX8_turnOn 12 = .ok (.istore_n 2, 1) := by decide +kernel
theorem dX8_turnOn_13 : decode cX8_turnOn 13 = .ok (.aload_n 0, 1) := by decide +kernel
theorem dX8_turnOn_14 : decode cX8_turnOn 14 = .ok (.getfield 7, 3) := by decide +kernel
theorem dX8_turnOn_17 : decode cX8_turnOn 17 = .ok (.iload_n 2, 1) := by decide +kernel
theorem dX8_turnOn_18 : decode cX8_turnOn 18 = .ok (.iaload, 1) := by decide +kernel
theorem dX8_turnOn_19 : decode cX8_turnOn 19 = .ok (.istore_n 3, 1) := by decide +kernel
theorem dX8_turnOn_20 : decode cX8_turnOn 20 = .ok (.aload_n 0, 1) := by decide +kernel
theorem dX8_turnOn_21 : decode cX8_turnOn 21 = .ok (.getfield 7, 3) := by decide +kernel
theorem dX8_turnOn_24 : decode cX8_turnOn 24 = .ok (.iload_n 2, 1) := by decide +kernel
theorem dX8_turnOn_25 : decode cX8_turnOn 25 = .ok (.iconst 1, 1) := by decide +kernel
theorem dX8_turnOn_26 : decode cX8_turnOn 26 = .ok (.iadd, 1) := by decide +kernel
theorem dX8_turnOn_27 : decode cX8_turnOn 27 = .ok (.iaload, 1) := by decide +kernel
theorem dX8_turnOn_28 : decode cX8_turnOn 28 = .ok (.istore 4, 2) := by decide +kernel
theorem dX8_turnOn_30 : decode cX8_turnOn 30 = .ok (.aload_n 0, 1) := by decide +kernel
theorem dX8_turnOn_31 : decode cX8_turnOn 31 = .ok (.getfield 7, 3) := by decide +kernel
theorem dX8_turnOn_34 : decode cX8_turnOn 34 = .ok (.iload_n 2, 1) := by decide +kernel
theorem dX8_turnOn_35 : decode cX8_turnOn 35 = .ok (.iconst 2, 1) := by decide +kernel
theorem dX8_turnOn_36 : decode cX8_turnOn 36 = .ok (.iadd, 1) := by decide +kernel
theorem dX8_turnOn_37 : decode cX8_turnOn 37 = .ok (.iaload, 1) := by decide +kernel
theorem dX8_turnOn_38 : decode cX8_turnOn 38 = .ok (.istore 5, 2) := by decide +kernel
theorem dX8_turnOn_40 : decode cX8_turnOn 40 = .ok (.aload_n 0, 1) := by decide +kernel
theorem dX8_turnOn_41 : decode cX8_turnOn 41 = .ok (.iload_n 1, 1) := by decide +kernel
theorem dX8_turnOn_42 : decode cX8_turnOn 42 = .ok (.iconst 0, 1) := by decide +kernel
theorem dX8_turnOn_43 : decode cX8_turnOn 43 = .ok (.invokevirtual 46, 3) := by decide +kernel
theorem dX8_turnOn_46 : decode cX8_turnOn 46 = .ok (.iconst 1, 1) := by decide +kernel
theorem dX8_turnOn_47 : decode cX8_turnOn 47 = .ok (.isub, 1) := by decide +kernel
theorem dX8_turnOn_48 : decode cX8_turnOn 48 = .ok (.istore 6, 2) := by decide +kernel
theorem dX8_turnOn_50 : decode cX8_turnOn 50 = .ok (.iload 6, 2) := by decide +kernel
theorem dX8_turnOn_52 : decode cX8_turnOn 52 = .ok (.ifCond .le 27, 3) := by decide +kernel
theorem dX8_turnOn_55 : decode cX8_turnOn 55 = .ok (.aload_n 0, 1) := by decide +kernel
theorem dX8_turnOn_56 : decode cX8_turnOn 56 = .ok (.iload_n 1, 1) := by decide +kernel
theorem dX8_turnOn_57 : decode cX8_turnOn 57 = .ok (.iload 6, 2) := by decide +kernel
theorem dX8_turnOn_59 : decode cX8_turnOn 59 = .ok (.iconst 1, 1) := by decide +kernel
theorem dX8_turnOn_60 : decode cX8_turnOn 60 = .ok (.isub, 1) := by decide +kernel
theorem dX8_turnOn_61 : decode cX8_turnOn 61 = .ok (.invokestatic 68, 3) := by decide +kernel
theorem dX8_turnOn_64 : decode cX8_turnOn 64 = .ok (.iload_n 1, 1) := by decide +kernel
theorem dX8_turnOn_65 : decode cX8_turnOn 65 = .ok (.iload 6, 2) := by decide +kernel
theorem dX8_turnOn_67 : decode cX8_turnOn 67 = .ok (.invokestatic 68, 3) := by decide +kernel
theorem dX8_turnOn_70 : decode cX8_turnOn 70 = .ok (.invokevirtual 71, 3) := by decide +kernel
theorem dX8_turnOn_73 : decode cX8_turnOn 73 = .ok (.iinc 6 (-1), 3) := by decide +kernel
theorem dX8_turnOn_76 : decode cX8_turnOn 76 = .ok (.goto (-26), 3) := by decide +kernel
theorem dX8_turnOn_79 : decode cX8_turnOn 79 = .ok (.iload_n 1, 1) := by decide +kernel
theorem dX8_turnOn_80 : decode cX8_turnOn 80 = .ok (.iconst 0, 1) := by decide +kernel
theorem dX8_turnOn_81 : decode cX8_turnOn 81 = .ok (.invokestatic 68, 3) := by decide +kernel
theorem dX8_turnOn_84 : decode cX8_turnOn 84 = .ok (.istore 6, 2) := by decide +kernel
theorem dX8_turnOn_86 : decode cX8_turnOn 86 = .ok (.aload_n 0, 1) := by decide +kernel
theorem dX8_turnOn_87 : decode cX8_turnOn 87 = .ok (.getfield 7, 3) := by decide +kernel
theorem dX8_turnOn_90 : decode cX8_turnOn 90 = .ok (.iload 6, 2) := by decide +kernel
theorem dX8_turnOn_92 : decode cX8_turnOn 92 = .ok (.iload_n 3, 1) := by decide +kernel
theorem dX8_turnOn_93 : decode cX8_turnOn 93 = .ok (.iastore, 1) := by decide +kernel
theorem dX8_turnOn_94 : decode cX8_turnOn 94 = .ok (.aload_n 0, 1) := by decide +kernel
theorem dX8_turnOn_95 : decode cX8_turnOn 95 = .ok (.getfield 7, 3) := by decide +kernel
theorem dX8_turnOn_98 : decode cX8_turnOn 98 = .ok (.iload 6, 2) := by decide +kernel
theorem dX8_turnOn_100 : decode cX8_turnOn 100 = .ok (.iconst 1, 1) := by decide +kernel
theorem dX8_turnOn_101 : decode cX8_turnOn 101 = .ok (.iadd, 1) := by decide +kernel
theorem dX8_turnOn_102 : decode cX8_turnOn 102 = .ok (.iload 4, 2) := by decide +kernel
theorem dX8_turnOn_104 : decode cX8_turnOn 104 = .ok (.iastore, 1) := by decide +kernel
theorem dX8_turnOn_105 : decode cX8_turnOn 105 = .ok (.aload_n 0, 1) := by decide +kernel
theorem dX8_turnOn_106 : decode cX8_turnOn 106 = .ok (.getfield 7, 3) := by decide +kernel
theorem dX8_turnOn_109 : decode cX8_turnOn 109 = .ok (.iload 6, 2) := by decide +kernel
theorem dX8_turnOn_111 : decode cX8_turnOn 111 = .ok (.iconst 2, 1) := by decide +kernel
theorem dX8_turnOn_112 : decode cX8_turnOn 112 = .ok (.iadd, 1) := by decide +kernel
theorem dX8_turnOn_113 : decode cX8_turnOn 113 = .ok (.iload 5, 2) := by decide +kernel
theorem dX8_turnOn_115 : decode cX8_turnOn 115 = .ok (.iastore, 1) := by decide +kernel
theorem dX8_turnOn_116 : decode cX8_turnOn 116 = .ok (.return_, 1) := by decide +kernel
theorem dX8_fade_0 : decode cX8_fade 0 = .ok (.aload_n 0, 1) := by decide +kernel
theorem dX8_fade_1 : decode cX8_fade 1 = .ok (.getfield 7, 3) := by decide +kernel
theorem dX8_fade_4 : decode cX8_fade 4 = .ok (.iload_n 2, 1) := by decide +kernel
theorem dX8_fade_5 : decode cX8_fade 5 = .ok (.iconst 1, 1) := by decide +kernel
theorem dX8_fade_6 : decode cX8_fade 6 = .ok (.iadd, 1) := by decide +kernel
theorem dX8_fade_7 : decode cX8_fade 7 = .ok (.dup2, 1) := by decide +kernel
theorem dX8_fade_8 : decode cX8_fade 8 = .ok (.iaload, 1) := by decide +kernel
theorem dX8_fade_9 : decode cX8_fade 9 = .ok (.iload_n 3, 1) := by decide +kernel
theorem dX8_fade_10 : decode cX8_fade 10 = .ok (.isub, 1) := by decide +kernel
theorem dX8_fade_11 : decode cX8_fade 11 = .ok (.iastore, 1) := by decide +kernel
theorem dX8_fade_12 : decode cX8_fade 12 = .ok (.aload_n 0, 1) := by decide +kernel
theorem dX8_fade_13 : decode cX8_fade 13 = .ok (.getfield 7, 3) := by decide +kernel
theorem dX8_fade_16 : decode cX8_fade 16 = .ok (.iload_n 2, 1) := by decide +kernel
theorem dX8_fade_17 : decode cX8_fade 17 = .ok (.iconst 1, 1) := by decide +kernel
theorem dX8_fade_18 : decode cX8_fade 18 = .ok (.iadd, 1) := by decide +kernel
theorem dX8_fade_19 : decode cX8_fade 19 = .ok (.iaload, 1) := by decide +kernel
theorem dX8_fade_20 : decode cX8_fade 20 = .ok (.ifCond .gt 14, 3) := by decide +kernel
theorem dX8_fade_23 : decode cX8_fade 23 = .ok (.aload_n 0, 1) := by decide +kernel
theorem dX8_fade_24 : decode cX8_fade 24 = .ok (.iload_n 2, 1) := by decide +kernel
theorem dX8_fade_25 : decode cX8_fade 25 = .ok (.invokevirtual 64, 3) := by decide +kernel
theorem dX8_fade_28 : decode cX8_fade 28 = .ok (.aload_n 0, 1) := by decide +kernel
theorem dX8_fade_29 : decode cX8_fade 29 = .ok (.iload_n 1, 1) := by decide +kernel
theorem dX8_fade_30 : decode cX8_fade 30 = .ok (.iconst 2, 1) := by decide +kernel
theorem dX8_fade_31 : decode cX8_fade 31 = .ok (.invokevirtual 60, 3) := by decide +kernel
theorem dX8_fade_34 : decode cX8_fade 34 = .ok (.return_, 1) := by decide +kernel
theorem dX8_fadeAll_0 : decode cX8_fadeAll 0 = .ok (.iconst 0, 1) := by decide +kernel
theorem dX8_fadeAll_1 : decode cX8_fadeAll 1 = .ok (.istore_n 2, 1) := by decide +kernel
theorem dX8_fadeAll_2 : decode cX8_fadeAll 2 = .ok (.iload_n 2, 1) := by decide +kernel
theorem dX8_fadeAll_3 : decode cX8_fadeAll 3 = .ok (.aload_n 0, 1) := by decide +kernel
theorem dX8_fadeAll_4 : decode cX8_fadeAll 4 = .ok (.iload_n 1, 1) := by decide +kernel
theorem dX8_fadeAll_5 : decode cX8_fadeAll 5 = .ok (.iconst 0, 1) := by decide +kernel
theorem dX8_fadeAll_6 : decode cX8_fadeAll 6 = .ok (.invokevirtual 46, 3) := by decide +kernel
theorem dX8_fadeAll_9 : decode cX8_fadeAll 9 = .ok (.if_icmp .ge 36, 3) := by decide +kernel
theorem dX8_fadeAll_12 : decode cX8_fadeAll 12 = .ok (.iload_n 1, 1) := by decide +kernel
theorem dX8_fadeAll_13 : decode cX8_fadeAll 13 = .ok (.iload_n 2, 1) := by decide +kernel
theorem dX8_fadeAll_14 : decode cX8_fadeAll 14 = .ok (.invokestatic 68, 3) := by decide +kernel
theorem dX8_fadeAll_17 : decode cX8_fadeAll 17 = .ok (.istore_n 3, 1) := by decide +kernel
theorem dX8_fadeAll_18 : decode cX8_fadeAll 18 = .ok (.aload_n 0, 1) := by decide +kernel
theorem dX8_fadeAll_19 : decode cX8_fadeAll 19 = .ok (.getfield 7, 3) := by decide +kernel
theorem dX8_fadeAll_22 : decode cX8_fadeAll 22 = .ok (.iload_n 3, 1) := by decide +kernel
theorem dX8_fadeAll_23 : decode cX8_fadeAll 23 = .ok (.iaload, 1) := by decide +kernel
theorem dX8_fadeAll_24 : decode cX8_fadeAll 24 = .ok (.ifCond .lt 15, 3) := by decide +kernel
theorem dX8_fadeAll_27 : decode cX8_fadeAll 27 = .ok (.aload_n 0, 1) := by decide +kernel
theorem dX8_fadeAll_28 : decode cX8_fadeAll 28 = .ok (.iload_n 1, 1) := by decide +kernel
theorem dX8_fadeAll_29 : decode cX8_fadeAll 29 = .ok (.iload_n 3, 1) := by decide +kernel
theorem dX8_fadeAll_30 : decode cX8_fadeAll 30 = .ok (.aload_n 0, 1) := by decide +kernel
theorem dX8_fadeAll_31 : decode cX8_fadeAll 31 = .ok (.getfield 7, 3) := by decide +kernel
theorem dX8_fadeAll_34 : decode cX8_fadeAll 34 = .ok (.iconst 0, 1) := by decide +kernel
theorem dX8_fadeAll_35 : decode cX8_fadeAll 35 = .ok (.iaload, 1) := by decide +kernel
theorem dX8_fadeAll_36 : decode cX8_fadeAll 36 = .ok (.invokevirtual 74, 3) := by decide +kernel
theorem dX8_fadeAll_39 : decode cX8_fadeAll 39 = .ok (.iinc 2 1, 3) := by decide +kernel
theorem dX8_fadeAll_42 : decode cX8_fadeAll 42 = .ok (.goto (-40), 3) := by decide +kernel
theorem dX8_fadeAll_45 : decode cX8_fadeAll 45 = .ok (.return_, 1) := by decide +kernel
theorem dX8_did_0 : decode cX8_did 0 = .ok (.aload_n 0, 1) := by decide +kernel
theorem dX8_did_1 : decode cX8_did 1 = .ok (.iload_n 1, 1) := by decide +kernel
theorem dX8_did_2 : decode cX8_did 2 = .ok (.bipush 6, 2) := by decide +kernel
theorem dX8_did_4 : decode cX8_did 4 = .ok (.aload_n 0, 1) := by decide +kernel
theorem dX8_did_5 : decode cX8_did 5 = .ok (.iload_n 1, 1) := by decide +kernel
theorem dX8_did_6 : decode cX8_did 6 = .ok (.bipush 6, 2) := by decide +kernel
theorem dX8_did_8 : decode cX8_did 8 = .ok (.invokevirtual 78, 3) := by decide +kernel
theorem dX8_did_11 : decode cX8_did 11 = .ok (.iconst 1, 1) := by decide +kernel
theorem dX8_did_12 : decode cX8_did 12 = .ok (.iadd, 1) := by decide +kernel
theorem dX8_did_13 : decode cX8_did 13 = .ok (.invokevirtual 81, 3) := by decide +kernel
theorem dX8_did_16 : decode cX8_did 16 = .ok (.return_, 1) := by decide +kernel
theorem dX8_amplify_0 : decode cX8_amplify 0 = .ok (.aload_n 0, 1) := by decide +kernel
theorem dX8_amplify_1 : decode cX8_amplify 1 = .ok (.iload_n 1, 1) := by decide +kernel
theorem dX8_amplify_2 : decode cX8_amplify 2 = .ok (.iconst 3, 1) := by decide +kernel
theorem dX8_amplify_3 : decode cX8_amplify 3 = .ok (.invokevirtual 78, 3) := by decide +kernel
theorem dX8_amplify_6 : decode cX8_amplify 6 = .ok (.istore_n 3, 1) := by decide +kernel
theorem dX8_amplify_7 : decode cX8_amplify 7 = .ok (.iload_n 3, 1) := by decide +kernel
theorem dX8_amplify_8 : decode cX8_amplify 8 = .ok (.aload_n 0, 1) := by decide +kernel
theorem dX8_amplify_9 : decode cX8_amplify 9 = .ok (.iload_n 1, 1) := by decide +kernel
theorem dX8_amplify_10 : decode cX8_amplify 10 = .ok (.iconst 5, 1) := by decide +kernel
theorem dX8_amplify_11 : decode cX8_amplify 11 = .ok (.invokevirtual 78, 3) := by decide +kernel
theorem dX8_amplify_14 : decode cX8_amplify 14 = .ok (.if_icmp .ge 7, 3) := by decide +kernel
theorem dX8_amplify_17 : decode cX8_amplify 17 = .ok (.iload_n 3, 1) := by decide +kernel
theorem dX8_amplify_18 : decode cX8_amplify 18 = .ok (.goto 9, 3) := by decide +kernel
theorem dX8_amplify_21 : decode cX8_amplify 21 = .ok (.aload_n 0, 1) := by decide +kernel
theorem dX8_amplify_22 : decode cX8_amplify 22 = .ok (.iload_n 1, 1) := by decide +kernel
theorem dX8_amplify_23 : decode cX8_amplify 23 = .ok (.iconst 5, 1) := by decide +kernel
theorem dX8_amplify_24 : decode cX8_amplify 24 = .ok (.invokevirtual 78, 3) := by decide +kernel
theorem dX8_amplify_27 : decode cX8_amplify 27 = .ok (.istore_n 3, 1) := by decide +kernel
theorem dX8_amplify_28 : decode cX8_amplify 28 = .ok (.iload_n 3, 1) := by decide +kernel
theorem dX8_amplify_29 : decode cX8_amplify 29 = .ok (.sipush 1000, 3) := by decide +kernel
theorem dX8_amplify_32 : decode cX8_amplify 32 = .ok (.aload_n 0, 1) := by decide +kernel
theorem dX8_amplify_33 : decode cX8_amplify 33 = .ok (.getfield 7, 3) := by decide +kernel
theorem dX8_amplify_36 : decode cX8_amplify 36 = .ok (.iload_n 2, 1) := by decide +kernel
theorem dX8_amplify_37 : decode cX8_amplify 37 = .ok (.iconst 1, 1) := by decide +kernel
theorem dX8_amplify_38 : decode cX8_amplify 38 = .ok (.iadd, 1) := by decide +kernel
theorem dX8_amplify_39 : decode cX8_amplify 39 = .ok (.iaload, 1) := by decide +kernel
theorem dX8_amplify_40 : decode cX8_amplify 40 = .ok (.isub, 1) := by decide +kernel
theorem dX8_amplify_41 : decode cX8_amplify 41 = .ok (.if_icmp .ge 7, 3) := by decide +kernel
theorem dX8_amplify_44 : decode cX8_amplify 44 = .ok (.iload_n 3, 1) := by decide +kernel
theorem dX8_amplify_45 : decode cX8_amplify 45 = .ok (.goto 15, 3) := by decide +kernel
theorem dX8_amplify_48 : decode cX8_amplify 48 = .ok (.sipush 1000, 3) := by decide +kernel
theorem dX8_amplify_51 : decode cX8_amplify 51 = .ok (.aload_n 0, 1) := by decide +kernel
theorem dX8_amplify_52 : decode cX8_amplify 52 = .ok (.getfield 7, 3) := by decide +kernel
theorem dX8_amplify_55 : decode cX8_amplify 55 = .ok (.iload_n 2, 1) := by decide +kernel
theorem dX8_amplify_56 : decode cX8_amplify 56 = .ok (.iconst 1, 1) := by decide +kernel
theorem dX8_amplify_57 : decode cX8_amplify 57 = .ok (.iadd, 1) := by decide +kernel
theorem dX8_amplify_58 : decode cX8_amplify 58 = .ok (.iaload, 1) := by decide +kernel
theorem dX8_amplify_59 : decode cX8_amplify 59 = .ok (.isub, 1) := by decide +kernel
theorem dX8_amplify_60 : decode cX8_amplify 60 = .ok (.istore_n 3, 1) := by decide +kernel
theorem dX8_amplify_61 : decode cX8_amplify 61 = .ok (.aload_n 0, 1) := by decide +kernel
theorem dX8_amplify_62 : decode cX8_amplify 62 = .ok (.getfield 7, 3) := by decide +kernel
theorem dX8_amplify_65 : decode cX8_amplify 65 = .ok (.iload_n 2, 1) := by decide +kernel
theorem dX8_amplify_66 : decode cX8_amplify 66 = .ok (.iconst 1, 1) := by decide +kernel
theorem dX8_amplify_67 : decode cX8_amplify 67 = .ok (.iadd, 1) := by decide +kernel
theorem dX8_amplify_68 : decode cX8_amplify 68 = .ok (.dup2, 1) := by decide +kernel
theorem dX8_amplify_69 : decode cX8_amplify 69 = .ok (.iaload, 1) := by decide +kernel
theorem dX8_amplify_70 : decode cX8_amplify 70 = .ok (.iload_n 3, 1) := by decide +kernel
theorem dX8_amplify_71 : decode cX8_amplify 71 = .ok (.iadd, 1) := by decide +kernel
theorem dX8_amplify_72 : decode cX8_amplify 72 = .ok (.iastore, 1) := by decide +kernel
theorem dX8_amplify_73 : decode cX8_amplify 73 = .ok (.aload_n 0, 1) := by decide +kernel
theorem dX8_amplify_74 : decode cX8_amplify 74 = .ok (.iload_n 1, 1) := by decide +kernel
theorem dX8_amplify_75 : decode cX8_amplify 75 = .ok (.iconst 5, 1) := by decide +kernel
theorem dX8_amplify_76 : decode cX8_amplify 76 = .ok (.aload_n 0, 1) := by decide +kernel
theorem dX8_amplify_77 : decode cX8_amplify 77 = .ok (.iload_n 1, 1) := by decide +kernel
theorem dX8_amplify_78 : decode cX8_amplify 78 = .ok (.iconst 5, 1) := by decide +kernel
theorem dX8_amplify_79 : decode cX8_amplify 79 = .ok (.invokevirtual 78, 3) := by decide +kernel
theorem dX8_amplify_82 : decode cX8_amplify 82 = .ok (.iload_n 3, 1) := by decide +kernel
theorem dX8_amplify_83 : decode cX8_amplify 83 = .ok (.isub, 1) := by decide +kernel
theorem dX8_amplify_84 : decode cX8_amplify 84 = .ok (.invokevirtual 81, 3) := by decide +kernel
theorem dX8_amplify_87 : decode cX8_amplify 87 = .ok (.iload_n 3, 1) := by decide +kernel
theorem dX8_amplify_88 : decode cX8_amplify 88 = .ok (.ifCond .le 8, 3) := by decide +kernel
theorem dX8_amplify_91 : decode cX8_amplify 91 = .ok (.aload_n 0, 1) := by decide +kernel
theorem dX8_amplify_92 : decode cX8_amplify 92 = .ok (.iload_n 1, 1) := by decide +kernel
theorem dX8_amplify_93 : decode cX8_amplify 93 = .ok (.invokevirtual 84, 3) := by decide +kernel
theorem dX8_amplify_96 : decode cX8_amplify 96 = .ok (.return_, 1) := by decide +kernel
theorem dX8_note_0 : decode cX8_note 0 = .ok (.bipush 7, 2) := by decide +kernel
theorem dX8_note_2 : decode cX8_note 2 = .ok (.istore_n 3, 1) := by decide +kernel
theorem dX8_note_3 : decode cX8_note 3 = .ok (.iload_n 3, 1) := by decide +kernel
theorem dX8_note_4 : decode cX8_note 4 = .ok (.ifCond .le 29, 3) := by decide +kernel
theorem dX8_note_7 : decode cX8_note 7 = .ok (.aload_n 0, 1) := by decide +kernel
theorem dX8_note_8 : decode cX8_note 8 = .ok (.iload_n 1, 1) := by decide +kernel
theorem dX8_note_9 : decode cX8_note 9 = .ok (.bipush 7, 2) := by decide +kernel
theorem dX8_note_11 : decode cX8_note 11 = .ok (.iload_n 3, 1) := by decide +kernel
theorem dX8_note_12 : decode cX8_note 12 = .ok (.iadd, 1) := by decide +kernel
theorem dX8_note_13 : decode cX8_note 13 = .ok (.aload_n 0, 1) := by decide +kernel
theorem dX8_note_14 : decode cX8_note 14 = .ok (.iload_n 1, 1) := by decide +kernel
theorem dX8_note_15 : decode cX8_note 15 = .ok (.bipush 7, 2) := by decide +kernel
theorem dX8_note_17 : decode cX8_note 17 = .ok (.iload_n 3, 1) := by decide +kernel
theorem dX8_note_18 : decode cX8_note 18 = .ok (.iadd, 1) := by decide +kernel
theorem dX8_note_19 : decode cX8_note 19 = .ok (.iconst 1, 1) := by decide +kernel
theorem dX8_note_20 : decode cX8_note 20 = .ok (.isub, 1) := by decide +kernel
theorem dX8_note_21 : decode cX8_note 21 = .ok (.invokevirtual 78, 3) := by decide +kernel
theorem dX8_note_24 : decode cX8_note 24 = .ok (.invokevirtual 81, 3) := by decide +kernel
theorem dX8_note_27 : decode cX8_note 27 = .ok (.iinc 3 (-1), 3) := by decide +kernel
theorem dX8_note_30 : decode cX8_note 30 = .ok (.goto (-27), 3) := by decide +kernel
theorem dX8_note_33 : decode cX8_note 33 = .ok (.aload_n 0, 1) := by decide +kernel
theorem dX8_note_34 : decode cX8_note 34 = .ok (.iload_n 1, 1) := by decide +kernel
theorem dX8_note_35 : decode cX8_note 35 = .ok (.bipush 7, 2) := by decide +kernel
theorem dX8_note_37 : decode cX8_note 37 = .ok (.aload_n 0, 1) := by decide +kernel
theorem dX8_note_38 : decode cX8_note 38 = .ok (.getfield 7, 3) := by decide +kernel
theorem dX8_note_41 : decode cX8_note 41 = .ok (.iload_n 2, 1) := by decide +kernel
theorem dX8_note_42 : decode cX8_note 42 = .ok (.iaload, 1) := by decide +kernel
theorem dX8_note_43 : decode cX8_note 43 = .ok (.invokevirtual 81, 3) := by decide +kernel
theorem dX8_note_46 : decode cX8_note 46 = .ok (.aload_n 0, 1) := by decide +kernel
theorem dX8_note_47 : decode cX8_note 47 = .ok (.iload_n 1, 1) := by decide +kernel
theorem dX8_note_48 : decode cX8_note 48 = .ok (.iconst 5, 1) := by decide +kernel
theorem dX8_note_49 : decode cX8_note 49 = .ok (.aload_n 0, 1) := by decide +kernel
theorem dX8_note_50 : decode cX8_note 50 = .ok (.iload_n 1, 1) := by decide +kernel
theorem dX8_note_51 : decode cX8_note 51 = .ok (.iconst 5, 1) := by decide +kernel
theorem dX8_note_52 : decode cX8_note 52 = .ok (.invokevirtual 78, 3) := by decide +kernel
theorem dX8_note_55 : decode cX8_note 55 = .ok (.bipush 8, 2) := by decide +kernel
theorem dX8_note_57 : decode cX8_note 57 = .ok (.if_icmp .ge 14, 3) := by decide +kernel
theorem dX8_note_60 : decode cX8_note 60 = .ok (.aload_n 0, 1) := by decide +kernel
theorem dX8_note_61 : decode cX8_note 61 = .ok (.iload_n 1, 1) := by decide +kernel
theorem dX8_note_62 : decode cX8_note 62 = .ok (.iconst 5, 1) := by decide +kernel
theorem dX8_note_63 : decode cX8_note 63 = .ok (.invokevirtual 78, 3) := by decide +kernel
theorem dX8_note_66 : decode cX8_note 66 = .ok (.iconst 1, 1) := by decide +kernel
theorem dX8_note_67 : decode cX8_note 67 = .ok (.iadd, 1) := by decide +kernel
theorem dX8_note_68 : decode cX8_note 68 = .ok (.goto 5, 3) := by decide +kernel
theorem dX8_note_71 : decode cX8_note 71 = .ok (.bipush 8, 2) := by decide +kernel
theorem dX8_note_73 : decode cX8_note 73 = .ok (.invokevirtual 81, 3) := by decide +kernel
theorem dX8_note_76 : decode cX8_note 76 = .ok (.aload_n 0, 1) := by decide +kernel
theorem dX8_note_77 : decode cX8_note 77 = .ok (.iload_n 1, 1) := by decide +kernel
theorem dX8_note_78 : decode cX8_note 78 = .ok (.invokevirtual 84, 3) := by decide +kernel
theorem dX8_note_81 : decode cX8_note 81 = .ok (.aload_n 0, 1) := by decide +kernel
theorem dX8_note_82 : decode cX8_note 82 = .ok (.aload_n 0, 1) := by decide +kernel
theorem dX8_note_83 : decode cX8_note 83 = .ok (.iload_n 1, 1) := by decide +kernel
theorem dX8_note_84 : decode cX8_note 84 = .ok (.iconst 1, 1) := by decide +kernel
theorem dX8_note_85 : decode cX8_note 85 = .ok (.invokevirtual 78, 3) := by decide +kernel
theorem dX8_note_88 : decode cX8_note 88 = .ok (.iload_n 2, 1) := by decide +kernel
theorem dX8_note_89 : decode cX8_note 89 = .ok (.aload_n 0, 1) := by decide +kernel
theorem dX8_note_90 : decode cX8_note 90 = .ok (.getfield 7, 3) := by decide +kernel
theorem dX8_note_93 : decode cX8_note 93 = .ok (.iconst 1, 1) := by decide +kernel
theorem dX8_note_94 : decode cX8_note 94 = .ok (.iaload, 1) := by decide +kernel
theorem dX8_note_95 : decode cX8_note 95 = .ok (.invokevirtual 74, 3) := by decide +kernel
theorem dX8_note_98 : decode cX8_note 98 = .ok (.return_, 1) := by decide +kernel
theorem dX8_putIn_0 : decode cX8_putIn 0 = .ok (.aload_n 0, 1) := by decide +kernel
theorem dX8_putIn_1 : decode cX8_putIn 1 = .ok (.aload_n 0, 1) := by decide +kernel
theorem dX8_putIn_2 : decode cX8_putIn 2 = .ok (.iload_n 1, 1) := by decide +kernel
theorem dX8_putIn_3 : decode cX8_putIn 3 = .ok (.iconst 1, 1) := by decide +kernel
theorem dX8_putIn_4 : decode cX8_putIn 4 = .ok (.invokevirtual 78, 3) := by decide +kernel
theorem dX8_putIn_7 : decode cX8_putIn 7 = .ok (.iload_n 2, 1) := by decide +kernel
theorem dX8_putIn_8 : decode cX8_putIn 8 = .ok (.aload_n 0, 1) := by decide +kernel
theorem dX8_putIn_9 : decode cX8_putIn 9 = .ok (.iload_n 1, 1) := by decide +kernel
theorem dX8_putIn_10 : decode cX8_putIn 10 = .ok (.bipush 7, 2) := by decide +kernel
theorem dX8_putIn_12 : decode cX8_putIn 12 = .ok (.invokevirtual 78, 3) := by decide +kernel
theorem dX8_putIn_15 : decode cX8_putIn 15 = .ok (.invokevirtual 87, 3) := by decide +kernel
theorem dX8_putIn_18 : decode cX8_putIn 18 = .ok (.aload_n 0, 1) := by decide +kernel
theorem dX8_putIn_19 : decode cX8_putIn 19 = .ok (.iload_n 1, 1) := by decide +kernel
theorem dX8_putIn_20 : decode cX8_putIn 20 = .ok (.iconst 5, 1) := by decide +kernel
theorem dX8_putIn_21 : decode cX8_putIn 21 = .ok (.aload_n 0, 1) := by decide +kernel
theorem dX8_putIn_22 : decode cX8_putIn 22 = .ok (.iload_n 1, 1) := by decide +kernel
theorem dX8_putIn_23 : decode cX8_putIn 23 = .ok (.iconst 5, 1) := by decide +kernel
theorem dX8_putIn_24 : decode cX8_putIn 24 = .ok (.invokevirtual 78, 3) := by decide +kernel
theorem dX8_putIn_27 : decode cX8_putIn 27 = .ok (.iconst 1, 1) := by decide +kernel
theorem dX8_putIn_28 : decode cX8_putIn 28 = .ok (.isub, 1) := by decide +kernel
theorem dX8_putIn_29 : decode cX8_putIn 29 = .ok (.invokevirtual 81, 3) := by decide +kernel
theorem dX8_putIn_32 : decode cX8_putIn 32 = .ok (.iconst 0, 1) := by decide +kernel
theorem dX8_putIn_33 : decode cX8_putIn 33 = .ok (.istore_n 3, 1) := by decide +kernel
theorem dX8_putIn_34 : decode cX8_putIn 34 = .ok (.iload_n 3, 1) := by decide +kernel
theorem dX8_putIn_35 : decode cX8_putIn 35 = .ok (.aload_n 0, 1) := by decide +kernel
theorem dX8_putIn_36 : decode cX8_putIn 36 = .ok (.iload_n 1, 1) := by decide +kernel
theorem dX8_putIn_37 : decode cX8_putIn 37 = .ok (.iconst 5, 1) := by decide +kernel
theorem dX8_putIn_38 : decode cX8_putIn 38 = .ok (.invokevirtual 78, 3) := by decide +kernel
theorem dX8_putIn_41 : decode cX8_putIn 41 = .ok (.if_icmp .ge 29, 3) := by decide +kernel
theorem dX8_putIn_44 : decode cX8_putIn 44 = .ok (.aload_n 0, 1) := by decide +kernel
theorem dX8_putIn_45 : decode cX8_putIn 45 = .ok (.iload_n 1, 1) := by decide +kernel
theorem dX8_putIn_46 : decode cX8_putIn 46 = .ok (.bipush 7, 2) := by decide +kernel
theorem dX8_putIn_48 : decode cX8_putIn 48 = .ok (.iload_n 3, 1) := by decide +kernel
theorem dX8_putIn_49 : decode cX8_putIn 49 = .ok (.iadd, 1) := by decide +kernel
theorem dX8_putIn_50 : decode cX8_putIn 50 = .ok (.aload_n 0, 1) := by decide +kernel
theorem dX8_putIn_51 : decode cX8_putIn 51 = .ok (.iload_n 1, 1) := by decide +kernel
theorem dX8_putIn_52 : decode cX8_putIn 52 = .ok (.bipush 7, 2) := by decide +kernel
theorem dX8_putIn_54 : decode cX8_putIn 54 = .ok (.iload_n 3, 1) := by decide +kernel
theorem dX8_putIn_55 : decode cX8_putIn 55 = .ok (.iadd, 1) := by decide +kernel
theorem dX8_putIn_56 : decode cX8_putIn 56 = .ok (.iconst 1, 1) := by decide +kernel
theorem dX8_putIn_57 : decode cX8_putIn 57 = .ok (.iadd, 1) := by decide +kernel
theorem dX8_putIn_58 : decode cX8_putIn 58 = .ok (.invokevirtual 78, 3) := by decide +kernel
theorem dX8_putIn_61 : decode cX8_putIn 61 = .ok (.invokevirtual 81, 3) := by decide +kernel
theorem dX8_putIn_64 : decode cX8_putIn 64 = .ok (.iinc 3 1, 3) := by decide +kernel
theorem dX8_putIn_67 : decode cX8_putIn 67 = .ok (.goto (-33), 3) := by decide +kernel
theorem dX8_putIn_70 : decode cX8_putIn 70 = .ok (.aload_n 0, 1) := by decide +kernel
theorem dX8_putIn_71 : decode cX8_putIn 71 = .ok (.iload_n 1, 1) := by decide +kernel
theorem dX8_putIn_72 : decode cX8_putIn 72 = .ok (.invokevirtual 84, 3) := by decide +kernel
theorem dX8_putIn_75 : decode cX8_putIn 75 = .ok (.return_, 1) := by decide +kernel
theorem dX8_act_0 : decode cX8_act 0 = .ok (.aload_n 0, 1) := by decide +kernel
theorem dX8_act_1 : decode cX8_act 1 = .ok (.iload_n 1, 1) := by decide +kernel
theorem dX8_act_2 : decode cX8_act 2 = .ok (.iconst 1, 1) := by decide +kernel
theorem dX8_act_3 : decode cX8_act 3 = .ok (.invokevirtual 78, 3) := by decide +kernel
theorem dX8_act_6 : decode cX8_act 6 = .ok (.aload_n 0, 1) := by decide +kernel
theorem dX8_act_7 : decode cX8_act 7 = .ok (.iload_n 1, 1) := by decide +kernel
theorem dX8_act_8 : decode cX8_act 8 = .ok (.iconst 2, 1) := by decide +kernel
theorem dX8_act_9 : decode cX8_act 9 = .ok (.invokevirtual 78, 3) := by decide +kernel
theorem dX8_act_12 : decode cX8_act 12 = .ok (.invokestatic 68, 3) := by decide +kernel
theorem dX8_act_15 : decode cX8_act 15 = .ok (.istore_n 2, 1) := by decide +kernel
theorem dX8_act_16 : decode cX8_act 16 = .ok (.aload_n 0, 1) := by decide +kernel
theorem dX8_act_17 : decode cX8_act 17 = .ok (.getfield 7, 3) := by decide +kernel
theorem dX8_act_20 : decode cX8_act 20 = .ok (.iload_n 2, 1) := by decide +kernel
theorem dX8_act_21 : decode cX8_act 21 = .ok (.iaload, 1) := by decide +kernel
theorem dX8_act_22 : decode cX8_act 22 = .ok (.istore_n 3, 1) := by decide +kernel
theorem dX8_act_23 : decode cX8_act 23 = .ok (.aload_n 0, 1) := by decide +kernel
theorem dX8_act_24 : decode cX8_act 24 = .ok (.iload_n 1, 1) := by decide +kernel
theorem dX8_act_25 : decode cX8_act 25 = .ok (.iconst 0, 1) := by decide +kernel
theorem dX8_act_26 : decode cX8_act 26 = .ok (.invokevirtual 78, 3) := by decide +kernel
theorem dX8_act_29 : decode cX8_act 29 = .ok (.tableswitch 109 0 3 #[31, 44, 57, 79], 31) := by decide +kernel
theorem dX8_act_60 : decode cX8_act 60 = .ok (.iload_n 3, 1) := by decide +kernel
theorem dX8_act_61 : decode cX8_act 61 = .ok (.ifCond .lt 108, 3) := by decide +kernel
theorem dX8_act_64 : decode cX8_act 64 = .ok (.aload_n 0, 1) := by decide +kernel
theorem dX8_act_65 : decode cX8_act 65 = .ok (.iload_n 1, 1) := by decide +kernel
theorem dX8_act_66 : decode cX8_act 66 = .ok (.iload_n 2, 1) := by decide +kernel
theorem dX8_act_67 : decode cX8_act 67 = .ok (.invokevirtual 90, 3) := by decide +kernel
theorem dX8_act_70 : decode cX8_act 70 = .ok (.goto 99, 3) := by decide +kernel
theorem dX8_act_73 : decode cX8_act 73 = .ok (.iload_n 3, 1) := by decide +kernel
theorem dX8_act_74 : decode cX8_act 74 = .ok (.ifCond .lt 95, 3) := by decide +kernel
theorem dX8_act_77 : decode cX8_act 77 = .ok (.aload_n 0, 1) := by decide +kernel
theorem dX8_act_78 : decode cX8_act 78 = .ok (.iload_n 1, 1) := by decide +kernel
theorem dX8_act_79 : decode cX8_act 79 = .ok (.iload_n 2, 1) := by decide +kernel
theorem dX8_act_80 : decode cX8_act 80 = .ok (.invokevirtual 93, 3) := by decide +kernel
theorem dX8_act_83 : decode cX8_act 83 = .ok (.goto 86, 3) := by decide +kernel
theorem dX8_act_86 : decode cX8_act 86 = .ok (.iload_n 3, 1) := by decide +kernel
theorem dX8_act_87 : decode cX8_act 87 = .ok (.ifCond .ge 82, 3) := by decide +kernel
theorem dX8_act_90 : decode cX8_act 90 = .ok (.aload_n 0, 1) := by decide +kernel
theorem dX8_act_91 : decode cX8_act 91 = .ok (.iload_n 1, 1) := by decide +kernel
theorem dX8_act_92 : decode cX8_act 92 = .ok (.iconst 5, 1) := by decide +kernel
theorem dX8_act_93 : decode cX8_act 93 = .ok (.invokevirtual 78, 3) := by decide +kernel
theorem dX8_act_96 : decode cX8_act 96 = .ok (.ifCond .le 73, 3) := by decide +kernel
theorem dX8_act_99 : decode cX8_act 99 = .ok (.aload_n 0, 1) := by decide +kernel
theorem dX8_act_100 : decode cX8_act 100 = .ok (.iload_n 1, 1) := by decide +kernel
theorem dX8_act_101 : decode cX8_act 101 = .ok (.iload_n 2, 1) := by decide +kernel
theorem dX8_act_102 : decode cX8_act 102 = .ok (.invokevirtual 96, 3) := by decide +kernel
theorem dX8_act_105 : decode cX8_act 105 = .ok (.goto 64, 3) := by decide +kernel
theorem dX8_act_108 : decode cX8_act 108 = .ok (.iload_n 3, 1) := by decide +kernel
theorem dX8_act_109 : decode cX8_act 109 = .ok (.aload_n 0, 1) := by decide +kernel
theorem dX8_act_110 : decode cX8_act 110 = .ok (.iload_n 1, 1) := by decide +kernel
theorem dX8_act_111 : decode cX8_act 111 = .ok (.iconst 3, 1) := by decide +kernel
theorem dX8_act_112 : decode cX8_act 112 = .ok (.invokevirtual 78, 3) := by decide +kernel
theorem dX8_act_115 : decode cX8_act 115 = .ok (.if_icmp .ne 54, 3) := by decide +kernel
theorem dX8_act_118 : decode cX8_act 118 = .ok (.aload_n 0, 1) := by decide +kernel
theorem dX8_act_119 : decode cX8_act 119 = .ok (.getfield 7, 3) := by decide +kernel
theorem dX8_act_122 : decode cX8_act 122 = .ok (.iload_n 2, 1) := by decide +kernel
theorem dX8_act_123 : decode cX8_act 123 = .ok (.aload_n 0, 1) := by decide +kernel
theorem dX8_act_124 : decode cX8_act 124 = .ok (.iload_n 1, 1) := by decide +kernel
theorem dX8_act_125 : decode cX8_act 125 = .ok (.iconst 4, 1) := by decide +kernel
theorem dX8_act_126 : decode cX8_act 126 = .ok (.invokevirtual 78, 3) := by decide +kernel
theorem dX8_act_129 : decode cX8_act 129 = .ok (.iastore, 1) := by decide +kernel
theorem dX8_act_130 : decode cX8_act 130 = .ok (.aload_n 0, 1) := by decide +kernel
theorem dX8_act_131 : decode cX8_act 131 = .ok (.iload_n 1, 1) := by decide +kernel
theorem dX8_act_132 : decode cX8_act 132 = .ok (.invokevirtual 84, 3) := by decide +kernel
theorem dX8_act_135 : decode cX8_act 135 = .ok (.goto 34, 3) := by decide +kernel
theorem dX8_act_138 : decode cX8_act 138 = .ok (.iload_n 3, 1) := by decide +kernel
theorem dX8_act_139 : decode cX8_act 139 = .ok (.aload_n 0, 1) := by decide +kernel
theorem dX8_act_140 : decode cX8_act 140 = .ok (.iload_n 1, 1) := by decide +kernel
theorem dX8_act_141 : decode cX8_act 141 = .ok (.iconst 3, 1) := by decide +kernel
theorem dX8_act_142 : decode cX8_act 142 = .ok (.invokevirtual 78, 3) := by decide +kernel
theorem dX8_act_145 : decode cX8_act 145 = .ok (.if_icmp .ne 24, 3) := by decide +kernel
theorem dX8_act_148 : decode cX8_act 148 = .ok (.aload_n 0, 1) := by decide +kernel
theorem dX8_act_149 : decode cX8_act 149 = .ok (.iload_n 2, 1) := by decide +kernel
theorem dX8_act_150 : decode cX8_act 150 = .ok (.invokevirtual 64, 3) := by decide +kernel
theorem dX8_act_153 : decode cX8_act 153 = .ok (.aload_n 0, 1) := by decide +kernel
theorem dX8_act_154 : decode cX8_act 154 = .ok (.aload_n 0, 1) := by decide +kernel
theorem dX8_act_155 : decode cX8_act 155 = .ok (.iload_n 1, 1) := by decide +kernel
theorem dX8_act_156 : decode cX8_act 156 = .ok (.iconst 1, 1) := by decide +kernel
theorem dX8_act_157 : decode cX8_act 157 = .ok (.invokevirtual 78, 3) := by decide +kernel
theorem dX8_act_160 : decode cX8_act 160 = .ok (.iconst 3, 1) := by decide +kernel
theorem dX8_act_161 : decode cX8_act 161 = .ok (.invokevirtual 60, 3) := by decide +kernel
theorem dX8_act_164 : decode cX8_act 164 = .ok (.aload_n 0, 1) := by decide +kernel
theorem dX8_act_165 : decode cX8_act 165 = .ok (.iload_n 1, 1) := by decide +kernel
theorem dX8_act_166 : decode cX8_act 166 = .ok (.invokevirtual 84, 3) := by decide +kernel
theorem dX8_act_169 : decode cX8_act 169 = .ok (.return_, 1) := by decide +kernel
theorem dX8_crossed_0 : decode cX8_crossed 0 = .ok (.aload_n 0, 1) := by decide +kernel
theorem dX8_crossed_1 : decode cX8_crossed 1 = .ok (.iload_n 2, 1) := by decide +kernel
theorem dX8_crossed_2 : decode cX8_crossed 2 = .ok (.iconst 5, 1) := by decide +kernel
theorem dX8_crossed_3 : decode cX8_crossed 3 = .ok (.invokevirtual 60, 3) := by decide +kernel
theorem dX8_crossed_6 : decode cX8_crossed 6 = .ok (.aload_n 0, 1) := by decide +kernel
theorem dX8_crossed_7 : decode cX8_crossed 7 = .ok (.iload_n 3, 1) := by decide +kernel
theorem dX8_crossed_8 : decode cX8_crossed 8 = .ok (.iconst 4, 1) := by decide +kernel
theorem dX8_crossed_9 : decode cX8_crossed 9 = .ok (.invokevirtual 60, 3) := by decide +kernel
theorem dX8_crossed_12 : decode cX8_crossed 12 = .ok (.aload_n 0, 1) := by decide +kernel
theorem dX8_crossed_13 : decode cX8_crossed 13 = .ok (.getfield 7, 3) := by decide +kernel
theorem dX8_crossed_16 : decode cX8_crossed 16 = .ok (.sipush 266, 3) := by decide +kernel
theorem dX8_crossed_19 : decode cX8_crossed 19 = .ok (.bipush 6, 2) := by decide +kernel
theorem dX8_crossed_21 : decode cX8_crossed 21 = .ok (.iload_n 1, 1) := by decide +kernel
theorem dX8_crossed_22 : decode cX8_crossed 22 = .ok (.imul, 1) := by decide +kernel
theorem dX8_crossed_23 : decode cX8_crossed 23 = .ok (.iadd, 1) := by decide +kernel
theorem dX8_crossed_24 : decode cX8_crossed 24 = .ok (.iconst 5, 1) := by decide +kernel
theorem dX8_crossed_25 : decode cX8_crossed 25 = .ok (.iadd, 1) := by decide +kernel
theorem dX8_crossed_26 : decode cX8_crossed 26 = .ok (.dup2, 1) := by decide +kernel
theorem dX8_crossed_27 : decode cX8_crossed 27 = .ok (.iaload, 1) := by decide +kernel
theorem dX8_crossed_28 : decode cX8_crossed 28 = .ok (.iconst 1, 1) := by decide +kernel
theorem dX8_crossed_29 : decode cX8_crossed 29 = .ok (.iadd, 1) := by decide +kernel
theorem dX8_crossed_30 : decode cX8_crossed 30 = .ok (.iastore, 1) := by decide +kernel
theorem dX8_crossed_31 : decode cX8_crossed 31 = .ok (.return_, 1) := by decide +kernel
theorem dX8_cross_0 : decode cX8_cross 0 = .ok (.aload_n 0, 1) := by decide +kernel
theorem dX8_cross_1 : decode cX8_cross 1 = .ok (.iload_n 1, 1) := by decide +kernel
theorem dX8_cross_2 : decode cX8_cross 2 = .ok (.iconst 0, 1) := by decide +kernel
theorem dX8_cross_3 : decode cX8_cross 3 = .ok (.invokevirtual 99, 3) := by decide +kernel
theorem dX8_cross_6 : decode cX8_cross 6 = .ok (.aload_n 0, 1) := by decide +kernel
theorem dX8_cross_7 : decode cX8_cross 7 = .ok (.iload_n 1, 1) := by decide +kernel
theorem dX8_cross_8 : decode cX8_cross 8 = .ok (.iconst 1, 1) := by decide +kernel
theorem dX8_cross_9 : decode cX8_cross 9 = .ok (.invokevirtual 99, 3) := by decide +kernel
theorem dX8_cross_12 : decode cX8_cross 12 = .ok (.invokestatic 68, 3) := by decide +kernel
theorem dX8_cross_15 : decode cX8_cross 15 = .ok (.istore_n 2, 1) := by decide +kernel
theorem dX8_cross_16 : decode cX8_cross 16 = .ok (.aload_n 0, 1) := by decide +kernel
theorem dX8_cross_17 : decode cX8_cross 17 = .ok (.iload_n 1, 1) := by decide +kernel
theorem dX8_cross_18 : decode cX8_cross 18 = .ok (.iconst 2, 1) := by decide +kernel
theorem dX8_cross_19 : decode cX8_cross 19 = .ok (.invokevirtual 99, 3) := by decide +kernel
theorem dX8_cross_22 : decode cX8_cross 22 = .ok (.aload_n 0, 1) := by decide +kernel
theorem dX8_cross_23 : decode cX8_cross 23 = .ok (.iload_n 1, 1) := by decide +kernel
theorem dX8_cross_24 : decode cX8_cross 24 = .ok (.iconst 3, 1) := by decide +kernel
theorem dX8_cross_25 : decode cX8_cross 25 = .ok (.invokevirtual 99, 3) := by decide +kernel
theorem dX8_cross_28 : decode cX8_cross 28 = .ok (.invokestatic 68, 3) := by decide +kernel
theorem dX8_cross_31 : decode cX8_cross 31 = .ok (.istore_n 3, 1) := by decide +kernel
theorem dX8_cross_32 : decode cX8_cross 32 = .ok (.aload_n 0, 1) := by decide +kernel
theorem dX8_cross_33 : decode cX8_cross 33 = .ok (.iload_n 1, 1) := by decide +kernel
theorem dX8_cross_34 : decode cX8_cross 34 = .ok (.iconst 4, 1) := by decide +kernel
theorem dX8_cross_35 : decode cX8_cross 35 = .ok (.invokevirtual 99, 3) := by decide +kernel
theorem dX8_cross_38 : decode cX8_cross 38 = .ok (.istore 4, 2) := by decide +kernel
theorem dX8_cross_40 : decode cX8_cross 40 = .ok (.iload 4, 2) := by decide +kernel
theorem dX8_cross_42 : decode cX8_cross 42 = .ok (.ifCond .le 31, 3) := by decide +kernel
theorem dX8_cross_45 : decode cX8_cross 45 = .ok (.aload_n 0, 1) := by decide +kernel
theorem dX8_cross_46 : decode cX8_cross 46 = .ok (.getfield 7, 3) := by decide +kernel
theorem dX8_cross_49 : decode cX8_cross 49 = .ok (.iload_n 2, 1) := by decide +kernel
theorem dX8_cross_50 : decode cX8_cross 50 = .ok (.iaload, 1) := by decide +kernel
theorem dX8_cross_51 : decode cX8_cross 51 = .ok (.ifCond .lt 22, 3) := by decide +kernel
theorem dX8_cross_54 : decode cX8_cross 54 = .ok (.iload 4, 2) := by decide +kernel
theorem dX8_cross_56 : decode cX8_cross 56 = .ok (.iconst 1, 1) := by decide +kernel
theorem dX8_cross_57 : decode cX8_cross 57 = .ok (.if_icmp .eq 12, 3) := by decide +kernel
theorem dX8_cross_60 : decode cX8_cross 60 = .ok (.aload_n 0, 1) := by decide +kernel
theorem dX8_cross_61 : decode cX8_cross 61 = .ok (.getfield 7, 3) := by decide +kernel
theorem dX8_cross_64 : decode cX8_cross 64 = .ok (.iload_n 3, 1) := by decide +kernel
theorem dX8_cross_65 : decode cX8_cross 65 = .ok (.iaload, 1) := by decide +kernel
theorem dX8_cross_66 : decode cX8_cross 66 = .ok (.ifCond .ge 7, 3) := by decide +kernel
theorem dX8_cross_69 : decode cX8_cross 69 = .ok (.iconst 1, 1) := by decide +kernel
theorem dX8_cross_70 : decode cX8_cross 70 = .ok (.goto 4, 3) := by decide +kernel
theorem dX8_cross_73 : decode cX8_cross 73 = .ok (.iconst 0, 1) := by decide +kernel
theorem dX8_cross_74 : decode cX8_cross 74 = .ok (.istore 5, 2) := by decide +kernel
theorem dX8_cross_76 : decode cX8_cross 76 = .ok (.iload 4, 2) := by decide +kernel
theorem dX8_cross_78 : decode cX8_cross 78 = .ok (.iconst 1, 1) := by decide +kernel
theorem dX8_cross_79 : decode cX8_cross 79 = .ok (.if_icmp .ne 16, 3) := by decide +kernel
theorem dX8_cross_82 : decode cX8_cross 82 = .ok (.aload_n 0, 1) := by decide +kernel
theorem dX8_cross_83 : decode cX8_cross 83 = .ok (.getfield 7, 3) := by decide +kernel
theorem dX8_cross_86 : decode cX8_cross 86 = .ok (.iload_n 3, 1) := by decide +kernel
theorem dX8_cross_87 : decode cX8_cross 87 = .ok (.iaload, 1) := by decide +kernel
theorem dX8_cross_88 : decode cX8_cross 88 = .ok (.ifCond .lt 7, 3) := by decide +kernel
theorem dX8_cross_91 : decode cX8_cross 91 = .ok (.iconst 1, 1) := by decide +kernel
theorem dX8_cross_92 : decode cX8_cross 92 = .ok (.goto 4, 3) := by decide +kernel
theorem dX8_cross_95 : decode cX8_cross 95 = .ok (.iconst 0, 1) := by decide +kernel
theorem dX8_cross_96 : decode cX8_cross 96 = .ok (.istore 6, 2) := by decide +kernel
theorem dX8_cross_98 : decode cX8_cross 98 = .ok (.iload 5, 2) := by decide +kernel
theorem dX8_cross_100 : decode cX8_cross 100 = .ok (.ifCond .eq 20, 3) := by decide +kernel
theorem dX8_cross_103 : decode cX8_cross 103 = .ok (.aload_n 0, 1) := by decide +kernel
theorem dX8_cross_104 : decode cX8_cross 104 = .ok (.iload_n 1, 1) := by decide +kernel
theorem dX8_cross_105 : decode cX8_cross 105 = .ok (.aload_n 0, 1) := by decide +kernel
theorem dX8_cross_106 : decode cX8_cross 106 = .ok (.iload_n 1, 1) := by decide +kernel
theorem dX8_cross_107 : decode cX8_cross 107 = .ok (.iconst 0, 1) := by decide +kernel
theorem dX8_cross_108 : decode cX8_cross 108 = .ok (.invokevirtual 99, 3) := by decide +kernel
theorem dX8_cross_111 : decode cX8_cross 111 = .ok (.aload_n 0, 1) := by decide +kernel
theorem dX8_cross_112 : decode cX8_cross 112 = .ok (.iload_n 1, 1) := by decide +kernel
theorem dX8_cross_113 : decode cX8_cross 113 = .ok (.iconst 2, 1) := by decide +kernel
theorem dX8_cross_114 : decode cX8_cross 114 = .ok (.invokevirtual 99, 3) := by decide +kernel
theorem dX8_cross_117 : decode cX8_cross 117 = .ok (.invokevirtual 102, 3) := by decide +kernel
theorem dX8_cross_120 : decode cX8_cross 120 = .ok (.iload 6, 2) := by decide +kernel
theorem dX8_cross_122 : decode cX8_cross 122 = .ok (.ifCond .eq 20, 3) := by decide +kernel
theorem dX8_cross_125 : decode cX8_cross 125 = .ok (.aload_n 0, 1) := by decide +kernel
theorem dX8_cross_126 : decode cX8_cross 126 = .ok (.iload_n 1, 1) := by decide +kernel
theorem dX8_cross_127 : decode cX8_cross 127 = .ok (.aload_n 0, 1) := by decide +kernel
theorem dX8_cross_128 : decode cX8_cross 128 = .ok (.iload_n 1, 1) := by decide +kernel
theorem dX8_cross_129 : decode cX8_cross 129 = .ok (.iconst 2, 1) := by decide +kernel
theorem dX8_cross_130 : decode cX8_cross 130 = .ok (.invokevirtual 99, 3) := by decide +kernel
theorem dX8_cross_133 : decode cX8_cross 133 = .ok (.aload_n 0, 1) := by decide +kernel
theorem dX8_cross_134 : decode cX8_cross 134 = .ok (.iload_n 1, 1) := by decide +kernel
theorem dX8_cross_135 : decode cX8_cross 135 = .ok (.iconst 0, 1) := by decide +kernel
theorem dX8_cross_136 : decode cX8_cross 136 = .ok (.invokevirtual 99, 3) := by decide +kernel
theorem dX8_cross_139 : decode cX8_cross 139 = .ok (.invokevirtual 102, 3) := by decide +kernel
theorem dX8_cross_142 : decode cX8_cross 142 = .ok (.iconst 0, 1) := by decide +kernel
theorem dX8_cross_143 : decode cX8_cross 143 = .ok (.istore 7, 2) := by decide +kernel
theorem dX8_cross_145 : decode cX8_cross 145 = .ok (.iload 7, 2) := by decide +kernel
theorem dX8_cross_147 : decode cX8_cross 147 = .ok (.iconst 3, 1) := by decide +kernel
theorem dX8_cross_148 : decode cX8_cross 148 = .ok (.if_icmp .ge 59, 3) := by decide +kernel
theorem dX8_cross_151 : decode cX8_cross 151 = .ok (.iload 5, 2) := by decide +kernel
theorem dX8_cross_153 : decode cX8_cross 153 = .ok (.ifCond .ne 8, 3) := by decide +kernel
theorem dX8_cross_156 : decode cX8_cross 156 = .ok (.iload 6, 2) := by decide +kernel
theorem dX8_cross_158 : decode cX8_cross 158 = .ok (.ifCond .eq 49, 3) := by decide +kernel
theorem dX8_cross_161 : decode cX8_cross 161 = .ok (.aload_n 0, 1) := by decide +kernel
theorem dX8_cross_162 : decode cX8_cross 162 = .ok (.getfield 7, 3) := by decide +kernel
theorem dX8_cross_165 : decode cX8_cross 165 = .ok (.iload_n 2, 1) := by decide +kernel
theorem dX8_cross_166 : decode cX8_cross 166 = .ok (.iload 7, 2) := by decide +kernel
theorem dX8_cross_168 : decode cX8_cross 168 = .ok (.iadd, 1) := by decide +kernel
theorem dX8_cross_169 : decode cX8_cross 169 = .ok (.iaload, 1) := by decide +kernel
theorem dX8_cross_170 : decode cX8_cross 170 = .ok (.istore 8, 2) := by decide +kernel
theorem dX8_cross_172 : decode cX8_cross 172 = .ok (.aload_n 0, 1) := by decide +kernel
theorem dX8_cross_173 : decode cX8_cross 173 = .ok (.getfield 7, 3) := by decide +kernel
theorem dX8_cross_176 : decode cX8_cross 176 = .ok (.iload_n 2, 1) := by decide +kernel
theorem dX8_cross_177 : decode cX8_cross 177 = .ok (.iload 7, 2) := by decide +kernel
theorem dX8_cross_179 : decode cX8_cross 179 = .ok (.iadd, 1) := by decide +kernel
theorem dX8_cross_180 : decode cX8_cross 180 = .ok (.aload_n 0, 1) := by decide +kernel
theorem dX8_cross_181 : decode cX8_cross 181 = .ok (.getfield 7, 3) := by decide +kernel
theorem dX8_cross_184 : decode cX8_cross 184 = .ok (.iload_n 3, 1) := by decide +kernel
theorem dX8_cross_185 : decode cX8_cross 185 = .ok (.iload 7, 2) := by decide +kernel
theorem dX8_cross_187 : decode cX8_cross 187 = .ok (.iadd, 1) := by decide +kernel
theorem dX8_cross_188 : decode cX8_cross 188 = .ok (.iaload, 1) := by decide +kernel
theorem dX8_cross_189 : decode cX8_cross 189 = .ok (.iastore, 1) := by decide +kernel
theorem dX8_cross_190 : decode cX8_cross 190 = .ok (.aload_n 0, 1) := by decide +kernel
theorem dX8_cross_191 : decode cX8_cross 191 = .ok (.getfield 7, 3) := by decide +kernel
theorem dX8_cross_194 : decode cX8_cross 194 = .ok (.iload_n 3, 1) := by decide +kernel
theorem dX8_cross_195 : decode cX8_cross 195 = .ok (.iload 7, 2) := by decide +kernel
theorem dX8_cross_197 : decode cX8_cross 197 = .ok (.iadd, 1) := by decide +kernel
theorem dX8_cross_198 : decode cX8_cross 198 = .ok (.iload 8, 2) := by decide +kernel
theorem dX8_cross_200 : decode cX8_cross 200 = .ok (.iastore, 1) := by decide +kernel
theorem dX8_cross_201 : decode cX8_cross 201 = .ok (.iinc 7 1, 3) := by decide +kernel
theorem dX8_cross_204 : decode cX8_cross 204 = .ok (.goto (-59), 3) := by decide +kernel
theorem dX8_cross_207 : decode cX8_cross 207 = .ok (.return_, 1) := by decide +kernel
theorem dX8_recover_0 : decode cX8_recover 0 = .ok (.aload_n 0, 1) := by decide +kernel
theorem dX8_recover_1 : decode cX8_recover 1 = .ok (.iload_n 1, 1) := by decide +kernel
theorem dX8_recover_2 : decode cX8_recover 2 = .ok (.iconst 5, 1) := by decide +kernel
theorem dX8_recover_3 : decode cX8_recover 3 = .ok (.invokevirtual 78, 3) := by decide +kernel
theorem dX8_recover_6 : decode cX8_recover 6 = .ok (.aload_n 0, 1) := by decide +kernel
theorem dX8_recover_7 : decode cX8_recover 7 = .ok (.getfield 7, 3) := by decide +kernel
theorem dX8_recover_10 : decode cX8_recover 10 = .ok (.iconst 2, 1) := by decide +kernel
theorem dX8_recover_11 : decode cX8_recover 11 = .ok (.iaload, 1) := by decide +kernel
theorem dX8_recover_12 : decode cX8_recover 12 = .ok (.iadd, 1) := by decide +kernel
theorem dX8_recover_13 : decode cX8_recover 13 = .ok (.istore_n 2, 1) := by decide +kernel
theorem dX8_recover_14 : decode cX8_recover 14 = .ok (.aload_n 0, 1) := by decide +kernel
theorem dX8_recover_15 : decode cX8_recover 15 = .ok (.iload_n 1, 1) := by decide +kernel
theorem dX8_recover_16 : decode cX8_recover 16 = .ok (.iconst 0, 1) := by decide +kernel
theorem dX8_recover_17 : decode cX8_recover 17 = .ok (.invokevirtual 78, 3) := by decide +kernel
theorem dX8_recover_20 : decode cX8_recover 20 = .ok (.ifCond .ne 29, 3) := by decide +kernel
theorem dX8_recover_23 : decode cX8_recover 23 = .ok (.aload_n 0, 1) := by decide +kernel
theorem dX8_recover_24 : decode cX8_recover 24 = .ok (.iload_n 1, 1) := by decide +kernel
theorem dX8_recover_25 : decode cX8_recover 25 = .ok (.iconst 5, 1) := by decide +kernel
theorem dX8_recover_26 : decode cX8_recover 26 = .ok (.iload_n 2, 1) := by decide +kernel
theorem dX8_recover_27 : decode cX8_recover 27 = .ok (.aload_n 0, 1) := by decide +kernel
theorem dX8_recover_28 : decode cX8_recover 28 = .ok (.iload_n 1, 1) := by decide +kernel
theorem dX8_recover_29 : decode cX8_recover 29 = .ok (.iconst 4, 1) := by decide +kernel
theorem dX8_recover_30 : decode cX8_recover 30 = .ok (.invokevirtual 78, 3) := by decide +kernel
theorem dX8_recover_33 : decode cX8_recover 33 = .ok (.if_icmp .ge 7, 3) := by decide +kernel
theorem dX8_recover_36 : decode cX8_recover 36 = .ok (.iload_n 2, 1) := by decide +kernel
theorem dX8_recover_37 : decode cX8_recover 37 = .ok (.goto 9, 3) := by decide +kernel
theorem dX8_recover_40 : decode cX8_recover 40 = .ok (.aload_n 0, 1) := by decide +kernel
theorem dX8_recover_41 : decode cX8_recover 41 = .ok (.iload_n 1, 1) := by decide +kernel
theorem dX8_recover_42 : decode cX8_recover 42 = .ok (.iconst 4, 1) := by decide +kernel
theorem dX8_recover_43 : decode cX8_recover 43 = .ok (.invokevirtual 78, 3) := by decide +kernel
theorem dX8_recover_46 : decode cX8_recover 46 = .ok (.invokevirtual 81, 3) := by decide +kernel
theorem dX8_recover_49 : decode cX8_recover 49 = .ok (.return_, 1) := by decide +kernel
theorem dX8_pass_0 : decode cX8_pass 0 = .ok (.iconst 0, 1) := by decide +kernel
theorem dX8_pass_1 : decode cX8_pass 1 = .ok (.istore_n 1, 1) := by decide +kernel
theorem dX8_pass_2 : decode cX8_pass 2 = .ok (.iload_n 1, 1) := by decide +kernel
theorem dX8_pass_3 : decode cX8_pass 3 = .ok (.aload_n 0, 1) := by decide +kernel
theorem dX8_pass_4 : decode cX8_pass 4 = .ok (.getfield 7, 3) := by decide +kernel
theorem dX8_pass_7 : decode cX8_pass 7 = .ok (.iconst 5, 1) := by decide +kernel
theorem dX8_pass_8 : decode cX8_pass 8 = .ok (.iaload, 1) := by decide +kernel
theorem dX8_pass_9 : decode cX8_pass 9 = .ok (.if_icmp .ge 19, 3) := by decide +kernel
theorem dX8_pass_12 : decode cX8_pass 12 = .ok (.aload_n 0, 1) := by decide +kernel
theorem dX8_pass_13 : decode cX8_pass 13 = .ok (.iload_n 1, 1) := by decide +kernel
theorem dX8_pass_14 : decode cX8_pass 14 = .ok (.invokevirtual 105, 3) := by decide +kernel
theorem dX8_pass_17 : decode cX8_pass 17 = .ok (.aload_n 0, 1) := by decide +kernel
theorem dX8_pass_18 : decode cX8_pass 18 = .ok (.iload_n 1, 1) := by decide +kernel
theorem dX8_pass_19 : decode cX8_pass 19 = .ok (.invokevirtual 108, 3) := by decide +kernel
theorem dX8_pass_22 : decode cX8_pass 22 = .ok (.iinc 1 1, 3) := by decide +kernel
theorem dX8_pass_25 : decode cX8_pass 25 = .ok (.goto (-23), 3) := by decide +kernel
theorem dX8_pass_28 : decode cX8_pass 28 = .ok (.iconst 0, 1) := by decide +kernel
theorem dX8_pass_29 : decode cX8_pass 29 = .ok (.istore_n 1, 1) := by decide +kernel
theorem dX8_pass_30 : decode cX8_pass 30 = .ok (.iload_n 1, 1) := by decide +kernel
theorem dX8_pass_31 : decode cX8_pass 31 = .ok (.aload_n 0, 1) := by decide +kernel
theorem dX8_pass_32 : decode cX8_pass 32 = .ok (.getfield 7, 3) := by decide +kernel
theorem dX8_pass_35 : decode cX8_pass 35 = .ok (.bipush 6, 2) := by decide +kernel
theorem dX8_pass_37 : decode cX8_pass 37 = .ok (.iaload, 1) := by decide +kernel
theorem dX8_pass_38 : decode cX8_pass 38 = .ok (.if_icmp .ge 14, 3) := by decide +kernel
theorem dX8_pass_41 : decode cX8_pass 41 = .ok (.aload_n 0, 1) := by decide +kernel
theorem dX8_pass_42 : decode cX8_pass 42 = .ok (.iload_n 1, 1) := by decide +kernel
theorem dX8_pass_43 : decode cX8_pass 43 = .ok (.invokevirtual 111, 3) := by decide +kernel
theorem dX8_pass_46 : decode cX8_pass 46 = .ok (.iinc 1 1, 3) := by decide +kernel
theorem dX8_pass_49 : decode cX8_pass 49 = .ok (.goto (-19), 3) := by decide +kernel
theorem dX8_pass_52 : decode cX8_pass 52 = .ok (.iconst 0, 1) := by decide +kernel
theorem dX8_pass_53 : decode cX8_pass 53 = .ok (.istore_n 1, 1) := by decide +kernel
theorem dX8_pass_54 : decode cX8_pass 54 = .ok (.iload_n 1, 1) := by decide +kernel
theorem dX8_pass_55 : decode cX8_pass 55 = .ok (.aload_n 0, 1) := by decide +kernel
theorem dX8_pass_56 : decode cX8_pass 56 = .ok (.getfield 7, 3) := by decide +kernel
theorem dX8_pass_59 : decode cX8_pass 59 = .ok (.bipush 7, 2) := by decide +kernel
theorem dX8_pass_61 : decode cX8_pass 61 = .ok (.iaload, 1) := by decide +kernel
theorem dX8_pass_62 : decode cX8_pass 62 = .ok (.if_icmp .ge 14, 3) := by decide +kernel
theorem dX8_pass_65 : decode cX8_pass 65 = .ok (.aload_n 0, 1) := by decide +kernel
theorem dX8_pass_66 : decode cX8_pass 66 = .ok (.iload_n 1, 1) := by decide +kernel
theorem dX8_pass_67 : decode cX8_pass 67 = .ok (.invokevirtual 114, 3) := by decide +kernel
theorem dX8_pass_70 : decode cX8_pass 70 = .ok (.iinc 1 1, 3) := by decide +kernel
theorem dX8_pass_73 : decode cX8_pass 73 = .ok (.goto (-19), 3) := by decide +kernel
theorem dX8_pass_76 : decode cX8_pass 76 = .ok (.iconst 0, 1) := by decide +kernel
theorem dX8_pass_77 : decode cX8_pass 77 = .ok (.istore_n 1, 1) := by decide +kernel
theorem dX8_pass_78 : decode cX8_pass 78 = .ok (.iload_n 1, 1) := by decide +kernel
theorem dX8_pass_79 : decode cX8_pass 79 = .ok (.aload_n 0, 1) := by decide +kernel
theorem dX8_pass_80 : decode cX8_pass 80 = .ok (.getfield 7, 3) := by decide +kernel
theorem dX8_pass_83 : decode cX8_pass 83 = .ok (.bipush 6, 2) := by decide +kernel
theorem dX8_pass_85 : decode cX8_pass 85 = .ok (.iaload, 1) := by decide +kernel
theorem dX8_pass_86 : decode cX8_pass 86 = .ok (.if_icmp .ge 14, 3) := by decide +kernel
theorem dX8_pass_89 : decode cX8_pass 89 = .ok (.aload_n 0, 1) := by decide +kernel
theorem dX8_pass_90 : decode cX8_pass 90 = .ok (.iload_n 1, 1) := by decide +kernel
theorem dX8_pass_91 : decode cX8_pass 91 = .ok (.invokevirtual 117, 3) := by decide +kernel
theorem dX8_pass_94 : decode cX8_pass 94 = .ok (.iinc 1 1, 3) := by decide +kernel
theorem dX8_pass_97 : decode cX8_pass 97 = .ok (.goto (-19), 3) := by decide +kernel
theorem dX8_pass_100 : decode cX8_pass 100 = .ok (.aload_n 0, 1) := by decide +kernel
theorem dX8_pass_101 : decode cX8_pass 101 = .ok (.getfield 7, 3) := by decide +kernel
theorem dX8_pass_104 : decode cX8_pass 104 = .ok (.iconst 4, 1) := by decide +kernel
theorem dX8_pass_105 : decode cX8_pass 105 = .ok (.dup2, 1) := by decide +kernel
theorem dX8_pass_106 : decode cX8_pass 106 = .ok (.iaload, 1) := by decide +kernel
theorem dX8_pass_107 : decode cX8_pass 107 = .ok (.iconst 1, 1) := by decide +kernel
theorem dX8_pass_108 : decode cX8_pass 108 = .ok (.iadd, 1) := by decide +kernel
theorem dX8_pass_109 : decode cX8_pass 109 = .ok (.iastore, 1) := by decide +kernel
theorem dX8_pass_110 : decode cX8_pass 110 = .ok (.return_, 1) := by decide +kernel
theorem dX8_passAll_0 : decode cX8_passAll 0 = .ok (.iconst 0, 1) := by decide +kernel
theorem dX8_passAll_1 : decode cX8_passAll 1 = .ok (.istore_n 2, 1) := by decide +kernel
theorem dX8_passAll_2 : decode cX8_passAll 2 = .ok (.iload_n 2, 1) := by decide +kernel
theorem dX8_passAll_3 : decode cX8_passAll 3 = .ok (.iload_n 1, 1) := by decide +kernel
theorem dX8_passAll_4 : decode cX8_passAll 4 = .ok (.if_icmp .ge 13, 3) := by decide +kernel
theorem dX8_passAll_7 : decode cX8_passAll 7 = .ok (.aload_n 0, 1) := by decide +kernel
theorem dX8_passAll_8 : decode cX8_passAll 8 = .ok (.invokevirtual 120, 3) := by decide +kernel
theorem dX8_passAll_11 : decode cX8_passAll 11 = .ok (.iinc 2 1, 3) := by decide +kernel
theorem dX8_passAll_14 : decode cX8_passAll 14 = .ok (.goto (-12), 3) := by decide +kernel
theorem dX8_passAll_17 : decode cX8_passAll 17 = .ok (.return_, 1) := by decide +kernel
theorem dX8_highest_0 : decode cX8_highest 0 = .ok (.iload_n 0, 1) := by decide +kernel
theorem dX8_highest_1 : decode cX8_highest 1 = .ok (.ifCond .ne 8, 3) := by decide +kernel
theorem dX8_highest_4 : decode cX8_highest 4 = .ok (.bipush 50, 2) := by decide +kernel
theorem dX8_highest_6 : decode cX8_highest 6 = .ok (.goto 17, 3) := by decide +kernel
theorem dX8_highest_9 : decode cX8_highest 9 = .ok (.iload_n 0, 1) := by decide +kernel
theorem dX8_highest_10 : decode cX8_highest 10 = .ok (.iconst 3, 1) := by decide +kernel
theorem dX8_highest_11 : decode cX8_highest 11 = .ok (.if_icmp .ne 9, 3) := by decide +kernel
theorem dX8_highest_14 : decode cX8_highest 14 = .ok (.sipush 1000, 3) := by decide +kernel
theorem dX8_highest_17 : decode cX8_highest 17 = .ok (.goto 6, 3) := by decide +kernel
theorem dX8_highest_20 : decode cX8_highest 20 = .ok (.sipush 200, 3) := by decide +kernel
theorem dX8_highest_23 : decode cX8_highest 23 = .ok (.ireturn, 1) := by decide +kernel
theorem dX8_set_0 : decode cX8_set 0 = .ok (.iload_n 1, 1) := by decide +kernel
theorem dX8_set_1 : decode cX8_set 1 = .ok (.iconst 0, 1) := by decide +kernel
theorem dX8_set_2 : decode cX8_set 2 = .ok (.iconst 3, 1) := by decide +kernel
theorem dX8_set_3 : decode cX8_set 3 = .ok (.invokestatic 38, 3) := by decide +kernel
theorem dX8_set_6 : decode cX8_set 6 = .ok (.ifCond .eq 25, 3) := by decide +kernel
theorem dX8_set_9 : decode cX8_set 9 = .ok (.iload_n 2, 1) := by decide +kernel
theorem dX8_set_10 : decode cX8_set 10 = .ok (.iload_n 1, 1) := by decide +kernel
theorem dX8_set_11 : decode cX8_set 11 = .ok (.iconst 3, 1) := by decide +kernel
theorem dX8_set_12 : decode cX8_set 12 = .ok (.if_icmp .ne 8, 3) := by decide +kernel
theorem dX8_set_15 : decode cX8_set 15 = .ok (.bipush 100, 2) := by decide +kernel
theorem dX8_set_17 : decode cX8_set 17 = .ok (.goto 4, 3) := by decide +kernel
theorem dX8_set_20 : decode cX8_set 20 = .ok (.iconst 0, 1) := by decide +kernel
theorem dX8_set_21 : decode cX8_set 21 = .ok (.iload_n 1, 1) := by decide +kernel
theorem dX8_set_22 : decode cX8_set 22 = .ok (.invokestatic 123, 3) := by decide +kernel
theorem dX8_set_25 : decode cX8_set 25 = .ok (.invokestatic 38, 3) := by decide +kernel
theorem dX8_set_28 : decode cX8_set 28 = .ok (.ifCond .ne 6, 3) := by decide +kernel
theorem dX8_set_31 : decode cX8_set 31 = .ok (.bipush (-2), 2) := by decide +kernel
theorem dX8_set_33 : decode cX8_set 33 = .ok (.ireturn, 1) := by decide +kernel
theorem dX8_set_34 : decode cX8_set 34 = .ok (.aload_n 0, 1) := by decide +kernel
theorem dX8_set_35 : decode cX8_set 35 = .ok (.invokevirtual 57, 3) := by decide +kernel
theorem dX8_set_38 : decode cX8_set 38 = .ok (.aload_n 0, 1) := by decide +kernel
theorem dX8_set_39 : decode cX8_set 39 = .ok (.getfield 7, 3) := by decide +kernel
theorem dX8_set_42 : decode cX8_set 42 = .ok (.iload_n 1, 1) := by decide +kernel
theorem dX8_set_43 : decode cX8_set 43 = .ok (.iaload, 1) := by decide +kernel
theorem dX8_set_44 : decode cX8_set 44 = .ok (.istore_n 3, 1) := by decide +kernel
theorem dX8_set_45 : decode cX8_set 45 = .ok (.aload_n 0, 1) := by decide +kernel
theorem dX8_set_46 : decode cX8_set 46 = .ok (.getfield 7, 3) := by decide +kernel
theorem dX8_set_49 : decode cX8_set 49 = .ok (.iload_n 1, 1) := by decide +kernel
theorem dX8_set_50 : decode cX8_set 50 = .ok (.iload_n 2, 1) := by decide +kernel
theorem dX8_set_51 : decode cX8_set 51 = .ok (.iastore, 1) := by decide +kernel
theorem dX8_set_52 : decode cX8_set 52 = .ok (.iload_n 3, 1) := by decide +kernel
theorem dX8_set_53 : decode cX8_set 53 = .ok (.ireturn, 1) := by decide +kernel
theorem dX8_loop_0 : decode cX8_loop 0 = .ok (.iload_n 1, 1) := by decide +kernel
theorem dX8_loop_1 : decode cX8_loop 1 = .ok (.iconst 4, 1) := by decide +kernel
theorem dX8_loop_2 : decode cX8_loop 2 = .ok (.bipush 32, 2) := by decide +kernel
theorem dX8_loop_4 : decode cX8_loop 4 = .ok (.invokestatic 38, 3) := by decide +kernel
theorem dX8_loop_7 : decode cX8_loop 7 = .ok (.ifCond .ne 6, 3) := by decide +kernel
theorem dX8_loop_10 : decode cX8_loop 10 = .ok (.bipush (-2), 2) := by decide +kernel
theorem dX8_loop_12 : decode cX8_loop 12 = .ok (.ireturn, 1) := by decide +kernel
theorem dX8_loop_13 : decode cX8_loop 13 = .ok (.aload_n 0, 1) := by decide +kernel
theorem dX8_loop_14 : decode cX8_loop 14 = .ok (.getfield 7, 3) := by decide +kernel
theorem dX8_loop_17 : decode cX8_loop 17 = .ok (.iconst 5, 1) := by decide +kernel
theorem dX8_loop_18 : decode cX8_loop 18 = .ok (.iaload, 1) := by decide +kernel
theorem dX8_loop_19 : decode cX8_loop 19 = .ok (.iconst 5, 1) := by decide +kernel
theorem dX8_loop_20 : decode cX8_loop 20 = .ok (.if_icmp .ne 6, 3) := by decide +kernel
theorem dX8_loop_23 : decode cX8_loop 23 = .ok (.bipush (-4), 2) := by decide +kernel
theorem dX8_loop_25 : decode cX8_loop 25 = .ok (.ireturn, 1) := by decide +kernel
theorem dX8_loop_26 : decode cX8_loop 26 = .ok (.aload_n 0, 1) := by decide +kernel
theorem dX8_loop_27 : decode cX8_loop 27 = .ok (.invokevirtual 57, 3) := by decide +kernel
theorem dX8_loop_30 : decode cX8_loop 30 = .ok (.aload_n 0, 1) := by decide +kernel
theorem dX8_loop_31 : decode cX8_loop 31 = .ok (.getfield 7, 3) := by decide +kernel
theorem dX8_loop_34 : decode cX8_loop 34 = .ok (.bipush 8, 2) := by decide +kernel
theorem dX8_loop_36 : decode cX8_loop 36 = .ok (.bipush 6, 2) := by decide +kernel
theorem dX8_loop_38 : decode cX8_loop 38 = .ok (.aload_n 0, 1) := by decide +kernel
theorem dX8_loop_39 : decode cX8_loop 39 = .ok (.getfield 7, 3) := by decide +kernel
theorem dX8_loop_42 : decode cX8_loop 42 = .ok (.iconst 5, 1) := by decide +kernel
theorem dX8_loop_43 : decode cX8_loop 43 = .ok (.iaload, 1) := by decide +kernel
theorem dX8_loop_44 : decode cX8_loop 44 = .ok (.imul, 1) := by decide +kernel
theorem dX8_loop_45 : decode cX8_loop 45 = .ok (.iadd, 1) := by decide +kernel
theorem dX8_loop_46 : decode cX8_loop 46 = .ok (.iconst 0, 1) := by decide +kernel
theorem dX8_loop_47 : decode cX8_loop 47 = .ok (.iadd, 1) := by decide +kernel
theorem dX8_loop_48 : decode cX8_loop 48 = .ok (.iload_n 1, 1) := by decide +kernel
theorem dX8_loop_49 : decode cX8_loop 49 = .ok (.iastore, 1) := by decide +kernel
theorem dX8_loop_50 : decode cX8_loop 50 = .ok (.aload_n 0, 1) := by decide +kernel
theorem dX8_loop_51 : decode cX8_loop 51 = .ok (.getfield 7, 3) := by decide +kernel
theorem dX8_loop_54 : decode cX8_loop 54 = .ok (.iconst 5, 1) := by decide +kernel
theorem dX8_loop_55 : decode cX8_loop 55 = .ok (.dup2, 1) := by decide +kernel
theorem dX8_loop_56 : decode cX8_loop 56 = .ok (.iaload, 1) := by decide +kernel
theorem dX8_loop_57 : decode cX8_loop 57 = .ok (.iconst 1, 1) := by decide +kernel
theorem dX8_loop_58 : decode cX8_loop 58 = .ok (.iadd, 1) := by decide +kernel
theorem dX8_loop_59 : decode cX8_loop 59 = .ok (.iastore, 1) := by decide +kernel
theorem dX8_loop_60 : decode cX8_loop 60 = .ok (.aload_n 0, 1) := by decide +kernel
theorem dX8_loop_61 : decode cX8_loop 61 = .ok (.getfield 7, 3) := by decide +kernel
theorem dX8_loop_64 : decode cX8_loop 64 = .ok (.iconst 5, 1) := by decide +kernel
theorem dX8_loop_65 : decode cX8_loop 65 = .ok (.iaload, 1) := by decide +kernel
theorem dX8_loop_66 : decode cX8_loop 66 = .ok (.iconst 1, 1) := by decide +kernel
theorem dX8_loop_67 : decode cX8_loop 67 = .ok (.isub, 1) := by decide +kernel
theorem dX8_loop_68 : decode cX8_loop 68 = .ok (.ireturn, 1) := by decide +kernel
theorem dX8_areNumbers_0 : decode cX8_areNumbers 0 = .ok (.iload_n 0, 1) := by decide +kernel
theorem dX8_areNumbers_1 : decode cX8_areNumbers 1 = .ok (.tableswitch 93 0 3 #[31, 59, 59, 73], 31) := by decide +kernel
theorem dX8_areNumbers_32 : decode cX8_areNumbers 32 = .ok (.iload_n 1, 1) := by decide +kernel
theorem dX8_areNumbers_33 : decode cX8_areNumbers 33 = .ok (.iconst 1, 1) := by decide +kernel
theorem dX8_areNumbers_34 : decode cX8_areNumbers 34 = .ok (.sipush 500, 3) := by decide +kernel
theorem dX8_areNumbers_37 : decode cX8_areNumbers 37 = .ok (.invokestatic 38, 3) := by decide +kernel
theorem dX8_areNumbers_40 : decode cX8_areNumbers 40 = .ok (.ifCond .eq 18, 3) := by decide +kernel
theorem dX8_areNumbers_43 : decode cX8_areNumbers 43 = .ok (.iload_n 2, 1) := by decide +kernel
theorem dX8_areNumbers_44 : decode cX8_areNumbers 44 = .ok (.iconst 1, 1) := by decide +kernel
theorem dX8_areNumbers_45 : decode cX8_areNumbers 45 = .ok (.sipush 2000, 3) := by decide +kernel
theorem dX8_areNumbers_48 : decode cX8_areNumbers 48 = .ok (.invokestatic 38, 3) := by decide +kernel
theorem dX8_areNumbers_51 : decode cX8_areNumbers 51 = .ok (.ifCond .eq 7, 3) := by decide +kernel
theorem dX8_areNumbers_54 : decode cX8_areNumbers 54 = .ok (.iconst 1, 1) := by decide +kernel
theorem dX8_areNumbers_55 : decode cX8_areNumbers 55 = .ok (.goto 4, 3) := by decide +kernel
theorem dX8_areNumbers_58 : decode cX8_areNumbers 58 = .ok (.iconst 0, 1) := by decide +kernel
theorem dX8_areNumbers_59 : decode cX8_areNumbers 59 = .ok (.ireturn, 1) := by decide +kernel
theorem dX8_areNumbers_60 : decode cX8_areNumbers 60 = .ok (.iload_n 1, 1) := by decide +kernel
theorem dX8_areNumbers_61 : decode cX8_areNumbers 61 = .ok (.ifCond .ne 11, 3) := by decide +kernel
theorem dX8_areNumbers_64 : decode cX8_areNumbers 64 = .ok (.iload_n 2, 1) := by decide +kernel
theorem dX8_areNumbers_65 : decode cX8_areNumbers 65 = .ok (.ifCond .ne 7, 3) := by decide +kernel
theorem dX8_areNumbers_68 : decode cX8_areNumbers 68 = .ok (.iconst 1, 1) := by decide +kernel
theorem dX8_areNumbers_69 : decode cX8_areNumbers 69 = .ok (.goto 4, 3) := by decide +kernel
theorem dX8_areNumbers_72 : decode cX8_areNumbers 72 = .ok (.iconst 0, 1) := by decide +kernel
theorem dX8_areNumbers_73 : decode cX8_areNumbers 73 = .ok (.ireturn, 1) := by decide +kernel
theorem dX8_areNumbers_74 : decode cX8_areNumbers 74 = .ok (.iload_n 1, 1) := by decide +kernel
theorem dX8_areNumbers_75 : decode cX8_areNumbers 75 = .ok (.invokestatic 127, 3) := by decide +kernel
theorem dX8_areNumbers_78 : decode cX8_areNumbers 78 = .ok (.ifCond .eq 14, 3) := by decide +kernel
theorem dX8_areNumbers_81 : decode cX8_areNumbers 81 = .ok (.iload_n 2, 1) := by decide +kernel
theorem dX8_areNumbers_82 : decode cX8_areNumbers 82 = .ok (.invokestatic 127, 3) := by decide +kernel
theorem dX8_areNumbers_85 : decode cX8_areNumbers 85 = .ok (.ifCond .eq 7, 3) := by decide +kernel
theorem dX8_areNumbers_88 : decode cX8_areNumbers 88 = .ok (.iconst 1, 1) := by decide +kernel
theorem dX8_areNumbers_89 : decode cX8_areNumbers 89 = .ok (.goto 4, 3) := by decide +kernel
theorem dX8_areNumbers_92 : decode cX8_areNumbers 92 = .ok (.iconst 0, 1) := by decide +kernel
theorem dX8_areNumbers_93 : decode cX8_areNumbers 93 = .ok (.ireturn, 1) := by decide +kernel
theorem dX8_areNumbers_94 : decode cX8_areNumbers 94 = .ok (.iload_n 0, 1) := by decide +kernel
theorem dX8_areNumbers_95 : decode cX8_areNumbers 95 = .ok (.iconst 4, 1) := by decide +kernel
theorem dX8_areNumbers_96 : decode cX8_areNumbers 96 = .ok (.if_icmp .ne 18, 3) := by decide +kernel
theorem dX8_areNumbers_99 : decode cX8_areNumbers 99 = .ok (.iload_n 1, 1) := by decide +kernel
theorem dX8_areNumbers_100 : decode cX8_areNumbers 100 = .ok (.invokestatic 127, 3) := by decide +kernel
theorem dX8_areNumbers_103 : decode cX8_areNumbers 103 = .ok (.ifCond .eq 11, 3) := by decide +kernel
theorem dX8_areNumbers_106 : decode cX8_areNumbers 106 = .ok (.iload_n 2, 1) := by decide +kernel
theorem dX8_areNumbers_107 : decode cX8_areNumbers 107 = .ok (.ifCond .ne 7, 3) := by decide +kernel
theorem dX8_areNumbers_110 : decode cX8_areNumbers 110 = .ok (.iconst 1, 1) := by decide +kernel
theorem dX8_areNumbers_111 : decode cX8_areNumbers 111 = .ok (.goto 4, 3) := by decide +kernel
theorem dX8_areNumbers_114 : decode cX8_areNumbers 114 = .ok (.iconst 0, 1) := by decide +kernel
theorem dX8_areNumbers_115 : decode cX8_areNumbers 115 = .ok (.ireturn, 1) := by decide +kernel
theorem dX8_make_0 : decode cX8_make 0 = .ok (.aload_n 0, 1) := by decide +kernel
theorem dX8_make_1 : decode cX8_make 1 = .ok (.getfield 7, 3) := by decide +kernel
theorem dX8_make_4 : decode cX8_make 4 = .ok (.bipush 6, 2) := by decide +kernel
theorem dX8_make_6 : decode cX8_make 6 = .ok (.iaload, 1) := by decide +kernel
theorem dX8_make_7 : decode cX8_make 7 = .ok (.istore 6, 2) := by decide +kernel
theorem dX8_make_9 : decode cX8_make 9 = .ok (.aload_n 0, 1) := by decide +kernel
theorem dX8_make_10 : decode cX8_make 10 = .ok (.iload 6, 2) := by decide +kernel
theorem dX8_make_12 : decode cX8_make 12 = .ok (.iconst 0, 1) := by decide +kernel
theorem dX8_make_13 : decode cX8_make 13 = .ok (.iload_n 3, 1) := by decide +kernel
theorem dX8_make_14 : decode cX8_make 14 = .ok (.invokevirtual 81, 3) := by decide +kernel
theorem dX8_make_17 : decode cX8_make 17 = .ok (.aload_n 0, 1) := by decide +kernel
theorem dX8_make_18 : decode cX8_make 18 = .ok (.iload 6, 2) := by decide +kernel
theorem dX8_make_20 : decode cX8_make 20 = .ok (.iconst 1, 1) := by decide +kernel
theorem dX8_make_21 : decode cX8_make 21 = .ok (.iload_n 1, 1) := by decide +kernel
theorem dX8_make_22 : decode cX8_make 22 = .ok (.invokevirtual 81, 3) := by decide +kernel
theorem dX8_make_25 : decode cX8_make 25 = .ok (.aload_n 0, 1) := by decide +kernel
theorem dX8_make_26 : decode cX8_make 26 = .ok (.iload 6, 2) := by decide +kernel
theorem dX8_make_28 : decode cX8_make 28 = .ok (.iconst 2, 1) := by decide +kernel
theorem dX8_make_29 : decode cX8_make 29 = .ok (.iload_n 2, 1) := by decide +kernel
theorem dX8_make_30 : decode cX8_make 30 = .ok (.invokevirtual 81, 3) := by decide +kernel
theorem dX8_make_33 : decode cX8_make 33 = .ok (.aload_n 0, 1) := by decide +kernel
theorem dX8_make_34 : decode cX8_make 34 = .ok (.iload 6, 2) := by decide +kernel
theorem dX8_make_36 : decode cX8_make 36 = .ok (.iconst 3, 1) := by decide +kernel
theorem dX8_make_37 : decode cX8_make 37 = .ok (.iload 4, 2) := by decide +kernel
theorem dX8_make_39 : decode cX8_make 39 = .ok (.invokevirtual 81, 3) := by decide +kernel
theorem dX8_make_42 : decode cX8_make 42 = .ok (.aload_n 0, 1) := by decide +kernel
theorem dX8_make_43 : decode cX8_make 43 = .ok (.iload 6, 2) := by decide +kernel
theorem dX8_make_45 : decode cX8_make 45 = .ok (.iconst 4, 1) := by decide +kernel
theorem dX8_make_46 : decode cX8_make 46 = .ok (.iload 5, 2) := by decide +kernel
theorem dX8_make_48 : decode cX8_make 48 = .ok (.invokevirtual 81, 3) := by decide +kernel
theorem dX8_make_51 : decode cX8_make 51 = .ok (.aload_n 0, 1) := by decide +kernel
theorem dX8_make_52 : decode cX8_make 52 = .ok (.iload 6, 2) := by decide +kernel
theorem dX8_make_54 : decode cX8_make 54 = .ok (.iconst 5, 1) := by decide +kernel
theorem dX8_make_55 : decode cX8_make 55 = .ok (.iload_n 3, 1) := by decide +kernel
theorem dX8_make_56 : decode cX8_make 56 = .ok (.ifCond .ne 8, 3) := by decide +kernel
theorem dX8_make_59 : decode cX8_make 59 = .ok (.iload 5, 2) := by decide +kernel
theorem dX8_make_61 : decode cX8_make 61 = .ok (.goto 4, 3) := by decide +kernel
theorem dX8_make_64 : decode cX8_make 64 = .ok (.iconst 0, 1) := by decide +kernel
theorem dX8_make_65 : decode cX8_make 65 = .ok (.invokevirtual 81, 3) := by decide +kernel
theorem dX8_make_68 : decode cX8_make 68 = .ok (.aload_n 0, 1) := by decide +kernel
theorem dX8_make_69 : decode cX8_make 69 = .ok (.iload 6, 2) := by decide +kernel
theorem dX8_make_71 : decode cX8_make 71 = .ok (.bipush 6, 2) := by decide +kernel
theorem dX8_make_73 : decode cX8_make 73 = .ok (.iconst 0, 1) := by decide +kernel
theorem dX8_make_74 : decode cX8_make 74 = .ok (.invokevirtual 81, 3) := by decide +kernel
theorem dX8_make_77 : decode cX8_make 77 = .ok (.aload_n 0, 1) := by decide +kernel
theorem dX8_make_78 : decode cX8_make 78 = .ok (.getfield 7, 3) := by decide +kernel
theorem dX8_make_81 : decode cX8_make 81 = .ok (.bipush 6, 2) := by decide +kernel
theorem dX8_make_83 : decode cX8_make 83 = .ok (.dup2, 1) := by decide +kernel
theorem dX8_make_84 : decode cX8_make 84 = .ok (.iaload, 1) := by decide +kernel
theorem dX8_make_85 : decode cX8_make 85 = .ok (.iconst 1, 1) := by decide +kernel
theorem dX8_make_86 : decode cX8_make 86 = .ok (.iadd, 1) := by decide +kernel
theorem dX8_make_87 : decode cX8_make 87 = .ok (.iastore, 1) := by decide +kernel
theorem dX8_make_88 : decode cX8_make 88 = .ok (.return_, 1) := by decide +kernel
theorem dX8_device_0 : decode cX8_device 0 = .ok (.aload_n 0, 1) := by decide +kernel
theorem dX8_device_1 : decode cX8_device 1 = .ok (.iload_n 1, 1) := by decide +kernel
theorem dX8_device_2 : decode cX8_device 2 = .ok (.iload_n 2, 1) := by decide +kernel
theorem dX8_device_3 : decode cX8_device 3 = .ok (.invokevirtual 130, 3) := by decide +kernel
theorem dX8_device_6 : decode cX8_device 6 = .ok (.ifCond .ne 5, 3) := by decide +kernel
theorem dX8_device_9 : decode cX8_device 9 = .ok (.iconst (-1), 1) := by decide +kernel
theorem dX8_device_10 : decode cX8_device 10 = .ok (.ireturn, 1) := by decide +kernel
theorem dX8_device_11 : decode cX8_device 11 = .ok (.iload_n 3, 1) := by decide +kernel
theorem dX8_device_12 : decode cX8_device 12 = .ok (.iload 4, 2) := by decide +kernel
theorem dX8_device_14 : decode cX8_device 14 = .ok (.iload 5, 2) := by decide +kernel
theorem dX8_device_16 : decode cX8_device 16 = .ok (.invokestatic 134, 3) := by decide +kernel
theorem dX8_device_19 : decode cX8_device 19 = .ok (.ifCond .ne 6, 3) := by decide +kernel
theorem dX8_device_22 : decode cX8_device 22 = .ok (.bipush (-2), 2) := by decide +kernel
theorem dX8_device_24 : decode cX8_device 24 = .ok (.ireturn, 1) := by decide +kernel
theorem dX8_device_25 : decode cX8_device 25 = .ok (.aload_n 0, 1) := by decide +kernel
theorem dX8_device_26 : decode cX8_device 26 = .ok (.getfield 7, 3) := by decide +kernel
theorem dX8_device_29 : decode cX8_device 29 = .ok (.bipush 6, 2) := by decide +kernel
theorem dX8_device_31 : decode cX8_device 31 = .ok (.iaload, 1) := by decide +kernel
theorem dX8_device_32 : decode cX8_device 32 = .ok (.bipush 12, 2) := by decide +kernel
theorem dX8_device_34 : decode cX8_device 34 = .ok (.if_icmp .ne 6, 3) := by decide +kernel
theorem dX8_device_37 : decode cX8_device 37 = .ok (.bipush (-4), 2) := by decide +kernel
theorem dX8_device_39 : decode cX8_device 39 = .ok (.ireturn, 1) := by decide +kernel
theorem dX8_device_40 : decode cX8_device 40 = .ok (.aload_n 0, 1) := by decide +kernel
theorem dX8_device_41 : decode cX8_device 41 = .ok (.invokevirtual 57, 3) := by decide +kernel
theorem dX8_device_44 : decode cX8_device 44 = .ok (.aload_n 0, 1) := by decide +kernel
theorem dX8_device_45 : decode cX8_device 45 = .ok (.iload_n 1, 1) := by decide +kernel
theorem dX8_device_46 : decode cX8_device 46 = .ok (.iload_n 2, 1) := by decide +kernel
theorem dX8_device_47 : decode cX8_device 47 = .ok (.iload_n 3, 1) := by decide +kernel
theorem dX8_device_48 : decode cX8_device 48 = .ok (.iload 4, 2) := by decide +kernel
theorem dX8_device_50 : decode cX8_device 50 = .ok (.iload 5, 2) := by decide +kernel
theorem dX8_device_52 : decode cX8_device 52 = .ok (.invokevirtual 137, 3) := by decide +kernel
theorem dX8_device_55 : decode cX8_device 55 = .ok (.aload_n 0, 1) := by decide +kernel
theorem dX8_device_56 : decode cX8_device 56 = .ok (.getfield 7, 3) := by decide +kernel
theorem dX8_device_59 : decode cX8_device 59 = .ok (.bipush 6, 2) := by decide +kernel
theorem dX8_device_61 : decode cX8_device 61 = .ok (.iaload, 1) := by decide +kernel
theorem dX8_device_62 : decode cX8_device 62 = .ok (.iconst 1, 1) := by decide +kernel
theorem dX8_device_63 : decode cX8_device 63 = .ok (.isub, 1) := by decide +kernel
theorem dX8_device_64 : decode cX8_device 64 = .ok (.ireturn, 1) := by decide +kernel
theorem dX8_join_0 : decode cX8_join 0 = .ok (.aload_n 0, 1) := by decide +kernel
theorem dX8_join_1 : decode cX8_join 1 = .ok (.iload_n 1, 1) := by decide +kernel
theorem dX8_join_2 : decode cX8_join 2 = .ok (.iload_n 2, 1) := by decide +kernel
theorem dX8_join_3 : decode cX8_join 3 = .ok (.invokevirtual 130, 3) := by decide +kernel
theorem dX8_join_6 : decode cX8_join 6 = .ok (.ifCond .eq 13, 3) := by decide +kernel
theorem dX8_join_9 : decode cX8_join 9 = .ok (.aload_n 0, 1) := by decide +kernel
theorem dX8_join_10 : decode cX8_join 10 = .ok (.iload_n 3, 1) := by decide +kernel
theorem dX8_join_11 : decode cX8_join 11 = .ok (.iload 4, 2) := by decide +kernel
theorem dX8_join_13 : decode cX8_join 13 = .ok (.invokevirtual 130, 3) := by decide +kernel
theorem dX8_join_16 : decode cX8_join 16 = .ok (.ifCond .ne 5, 3) := by decide +kernel
theorem dX8_join_19 : decode cX8_join 19 = .ok (.iconst (-1), 1) := by decide +kernel
theorem dX8_join_20 : decode cX8_join 20 = .ok (.ireturn, 1) := by decide +kernel
theorem dX8_join_21 : decode cX8_join 21 = .ok (.iload_n 1, 1) := by decide +kernel
theorem dX8_join_22 : decode cX8_join 22 = .ok (.iload_n 3, 1) := by decide +kernel
theorem dX8_join_23 : decode cX8_join 23 = .ok (.if_icmp .ne 6, 3) := by decide +kernel
theorem dX8_join_26 : decode cX8_join 26 = .ok (.bipush (-2), 2) := by decide +kernel
theorem dX8_join_28 : decode cX8_join 28 = .ok (.ireturn, 1) := by decide +kernel
theorem dX8_join_29 : decode cX8_join 29 = .ok (.aload_n 0, 1) := by decide +kernel
theorem dX8_join_30 : decode cX8_join 30 = .ok (.getfield 7, 3) := by decide +kernel
theorem dX8_join_33 : decode cX8_join 33 = .ok (.bipush 7, 2) := by decide +kernel
theorem dX8_join_35 : decode cX8_join 35 = .ok (.iaload, 1) := by decide +kernel
theorem dX8_join_36 : decode cX8_join 36 = .ok (.iconst 4, 1) := by decide +kernel
theorem dX8_join_37 : decode cX8_join 37 = .ok (.if_icmp .ne 6, 3) := by decide +kernel
theorem dX8_join_40 : decode cX8_join 40 = .ok (.bipush (-4), 2) := by decide +kernel
theorem dX8_join_42 : decode cX8_join 42 = .ok (.ireturn, 1) := by decide +kernel
theorem dX8_join_43 : decode cX8_join 43 = .ok (.aload_n 0, 1) := by decide +kernel
theorem dX8_join_44 : decode cX8_join 44 = .ok (.invokevirtual 57, 3) := by decide +kernel
theorem dX8_join_47 : decode cX8_join 47 = .ok (.sipush 266, 3) := by decide +kernel
theorem dX8_join_50 : decode cX8_join 50 = .ok (.bipush 6, 2) := by decide +kernel
theorem dX8_join_52 : decode cX8_join 52 = .ok (.aload_n 0, 1) := by decide +kernel
theorem dX8_join_53 : decode cX8_join 53 = .ok (.getfield 7, 3) := by decide +kernel
theorem dX8_join_56 : decode cX8_join 56 = .ok (.bipush 7, 2) := by decide +kernel
theorem dX8_join_58 : decode cX8_join 58 = .ok (.iaload, 1) := by decide +kernel
theorem dX8_join_59 : decode cX8_join 59 = .ok (.imul, 1) := by decide +kernel
theorem dX8_join_60 : decode cX8_join 60 = .ok (.iadd, 1) := by decide +kernel
theorem dX8_join_61 : decode cX8_join 61 = .ok (.istore 5, 2) := by decide +kernel
theorem dX8_join_63 : decode cX8_join 63 = .ok (.aload_n 0, 1) := by decide +kernel
theorem dX8_join_64 : decode cX8_join 64 = .ok (.getfield 7, 3) := by decide +kernel
theorem dX8_join_67 : decode cX8_join 67 = .ok (.iload 5, 2) := by decide +kernel
theorem dX8_join_69 : decode cX8_join 69 = .ok (.iload_n 1, 1) := by decide +kernel
theorem dX8_join_70 : decode cX8_join 70 = .ok (.iastore, 1) := by decide +kernel
theorem dX8_join_71 : decode cX8_join 71 = .ok (.aload_n 0, 1) := by decide +kernel
theorem dX8_join_72 : decode cX8_join 72 = .ok (.getfield 7, 3) := by decide +kernel
theorem dX8_join_75 : decode cX8_join 75 = .ok (.iload 5, 2) := by decide +kernel
theorem dX8_join_77 : decode cX8_join 77 = .ok (.iconst 1, 1) := by decide +kernel
theorem dX8_join_78 : decode cX8_join 78 = .ok (.iadd, 1) := by decide +kernel
theorem dX8_join_79 : decode cX8_join 79 = .ok (.iload_n 2, 1) := by decide +kernel
theorem dX8_join_80 : decode cX8_join 80 = .ok (.iastore, 1) := by decide +kernel
theorem dX8_join_81 : decode cX8_join 81 = .ok (.aload_n 0, 1) := by decide +kernel
theorem dX8_join_82 : decode cX8_join 82 = .ok (.getfield 7, 3) := by decide +kernel
theorem dX8_join_85 : decode cX8_join 85 = .ok (.iload 5, 2) := by decide +kernel
theorem dX8_join_87 : decode cX8_join 87 = .ok (.iconst 2, 1) := by decide +kernel
theorem dX8_join_88 : decode cX8_join 88 = .ok (.iadd, 1) := by decide +kernel
theorem dX8_join_89 : decode cX8_join 89 = .ok (.iload_n 3, 1) := by decide +kernel
theorem dX8_join_90 : decode cX8_join 90 = .ok (.iastore, 1) := by decide +kernel
theorem dX8_join_91 : decode cX8_join 91 = .ok (.aload_n 0, 1) := by decide +kernel
theorem dX8_join_92 : decode cX8_join 92 = .ok (.getfield 7, 3) := by decide +kernel
theorem dX8_join_95 : decode cX8_join 95 = .ok (.iload 5, 2) := by decide +kernel
theorem dX8_join_97 : decode cX8_join 97 = .ok (.iconst 3, 1) := by decide +kernel
theorem dX8_join_98 : decode cX8_join 98 = .ok (.iadd, 1) := by decide +kernel
theorem dX8_join_99 : decode cX8_join 99 = .ok (.iload 4, 2) := by decide +kernel
theorem dX8_join_101 : decode cX8_join 101 = .ok (.iastore, 1) := by decide +kernel
theorem dX8_join_102 : decode cX8_join 102 = .ok (.aload_n 0, 1) := by decide +kernel
theorem dX8_join_103 : decode cX8_join 103 = .ok (.getfield 7, 3) := by decide +kernel
theorem dX8_join_106 : decode cX8_join 106 = .ok (.iload 5, 2) := by decide +kernel
theorem dX8_join_108 : decode cX8_join 108 = .ok (.iconst 4, 1) := by decide +kernel
theorem dX8_join_109 : decode cX8_join 109 = .ok (.iadd, 1) := by decide +kernel
theorem dX8_join_110 : decode cX8_join 110 = .ok (.iconst 0, 1) := by decide +kernel
theorem dX8_join_111 : decode cX8_join 111 = .ok (.iastore, 1) := by decide +kernel
theorem dX8_join_112 : decode cX8_join 112 = .ok (.aload_n 0, 1) := by decide +kernel
theorem dX8_join_113 : decode cX8_join 113 = .ok (.getfield 7, 3) := by decide +kernel
theorem dX8_join_116 : decode cX8_join 116 = .ok (.iload 5, 2) := by decide +kernel
theorem dX8_join_118 : decode cX8_join 118 = .ok (.iconst 5, 1) := by decide +kernel
theorem dX8_join_119 : decode cX8_join 119 = .ok (.iadd, 1) := by decide +kernel
theorem dX8_join_120 : decode cX8_join 120 = .ok (.iconst 0, 1) := by decide +kernel
theorem dX8_join_121 : decode cX8_join 121 = .ok (.iastore, 1) := by decide +kernel
theorem dX8_join_122 : decode cX8_join 122 = .ok (.aload_n 0, 1) := by decide +kernel
theorem dX8_join_123 : decode cX8_join 123 = .ok (.getfield 7, 3) := by decide +kernel
theorem dX8_join_126 : decode cX8_join 126 = .ok (.bipush 7, 2) := by decide +kernel
theorem dX8_join_128 : decode cX8_join 128 = .ok (.dup2, 1) := by decide +kernel
theorem dX8_join_129 : decode cX8_join 129 = .ok (.iaload, 1) := by decide +kernel
theorem dX8_join_130 : decode cX8_join 130 = .ok (.iconst 1, 1) := by decide +kernel
theorem dX8_join_131 : decode cX8_join 131 = .ok (.iadd, 1) := by decide +kernel
theorem dX8_join_132 : decode cX8_join 132 = .ok (.iastore, 1) := by decide +kernel
theorem dX8_join_133 : decode cX8_join 133 = .ok (.aload_n 0, 1) := by decide +kernel
theorem dX8_join_134 : decode cX8_join 134 = .ok (.getfield 7, 3) := by decide +kernel
theorem dX8_join_137 : decode cX8_join 137 = .ok (.bipush 7, 2) := by decide +kernel
theorem dX8_join_139 : decode cX8_join 139 = .ok (.iaload, 1) := by decide +kernel
theorem dX8_join_140 : decode cX8_join 140 = .ok (.iconst 1, 1) := by decide +kernel
theorem dX8_join_141 : decode cX8_join 141 = .ok (.isub, 1) := by decide +kernel
theorem dX8_join_142 : decode cX8_join 142 = .ok (.ireturn, 1) := by decide +kernel
theorem dX8_tryTurn_0 : decode cX8_tryTurn 0 = .ok (.iload_n 1, 1) := by decide +kernel
theorem dX8_tryTurn_1 : decode cX8_tryTurn 1 = .ok (.iconst 0, 1) := by decide +kernel
theorem dX8_tryTurn_2 : decode cX8_tryTurn 2 = .ok (.aload_n 0, 1) := by decide +kernel
theorem dX8_tryTurn_3 : decode cX8_tryTurn 3 = .ok (.getfield 7, 3) := by decide +kernel
theorem dX8_tryTurn_6 : decode cX8_tryTurn 6 = .ok (.bipush 7, 2) := by decide +kernel
theorem dX8_tryTurn_8 : decode cX8_tryTurn 8 = .ok (.iaload, 1) := by decide +kernel
theorem dX8_tryTurn_9 : decode cX8_tryTurn 9 = .ok (.iconst 1, 1) := by decide +kernel
theorem dX8_tryTurn_10 : decode cX8_tryTurn 10 = .ok (.isub, 1) := by decide +kernel
theorem dX8_tryTurn_11 : decode cX8_tryTurn 11 = .ok (.invokestatic 38, 3) := by decide +kernel
theorem dX8_tryTurn_14 : decode cX8_tryTurn 14 = .ok (.ifCond .ne 5, 3) := by decide +kernel
theorem dX8_tryTurn_17 : decode cX8_tryTurn 17 = .ok (.iconst (-1), 1) := by decide +kernel
theorem dX8_tryTurn_18 : decode cX8_tryTurn 18 = .ok (.ireturn, 1) := by decide +kernel
theorem dX8_tryTurn_19 : decode cX8_tryTurn 19 = .ok (.iload_n 2, 1) := by decide +kernel
theorem dX8_tryTurn_20 : decode cX8_tryTurn 20 = .ok (.iconst 0, 1) := by decide +kernel
theorem dX8_tryTurn_21 : decode cX8_tryTurn 21 = .ok (.iconst 2, 1) := by decide +kernel
theorem dX8_tryTurn_22 : decode cX8_tryTurn 22 = .ok (.invokestatic 38, 3) := by decide +kernel
theorem dX8_tryTurn_25 : decode cX8_tryTurn 25 = .ok (.ifCond .ne 6, 3) := by decide +kernel
theorem dX8_tryTurn_28 : decode cX8_tryTurn 28 = .ok (.bipush (-2), 2) := by decide +kernel
theorem dX8_tryTurn_30 : decode cX8_tryTurn 30 = .ok (.ireturn, 1) := by decide +kernel
theorem dX8_tryTurn_31 : decode cX8_tryTurn 31 = .ok (.aload_n 0, 1) := by decide +kernel
theorem dX8_tryTurn_32 : decode cX8_tryTurn 32 = .ok (.iload_n 3, 1) := by decide +kernel
theorem dX8_tryTurn_33 : decode cX8_tryTurn 33 = .ok (.invokevirtual 141, 3) := by decide +kernel
theorem dX8_tryTurn_36 : decode cX8_tryTurn 36 = .ok (.aload_n 0, 1) := by decide +kernel
theorem dX8_tryTurn_37 : decode cX8_tryTurn 37 = .ok (.iload_n 1, 1) := by decide +kernel
theorem dX8_tryTurn_38 : decode cX8_tryTurn 38 = .ok (.iconst 4, 1) := by decide +kernel
theorem dX8_tryTurn_39 : decode cX8_tryTurn 39 = .ok (.invokevirtual 99, 3) := by decide +kernel
theorem dX8_tryTurn_42 : decode cX8_tryTurn 42 = .ok (.istore 4, 2) := by decide +kernel
theorem dX8_tryTurn_44 : decode cX8_tryTurn 44 = .ok (.aload_n 0, 1) := by decide +kernel
theorem dX8_tryTurn_45 : decode cX8_tryTurn 45 = .ok (.getfield 7, 3) := by decide +kernel
theorem dX8_tryTurn_48 : decode cX8_tryTurn 48 = .ok (.sipush 266, 3) := by decide +kernel
theorem dX8_tryTurn_51 : decode cX8_tryTurn 51 = .ok (.bipush 6, 2) := by decide +kernel
theorem dX8_tryTurn_53 : decode cX8_tryTurn 53 = .ok (.iload_n 1, 1) := by decide +kernel
theorem dX8_tryTurn_54 : decode cX8_tryTurn 54 = .ok (.imul, 1) := by decide +kernel
theorem dX8_tryTurn_55 : decode cX8_tryTurn 55 = .ok (.iadd, 1) := by decide +kernel
theorem dX8_tryTurn_56 : decode cX8_tryTurn 56 = .ok (.iconst 4, 1) := by decide +kernel
theorem dX8_tryTurn_57 : decode cX8_tryTurn 57 = .ok (.iadd, 1) := by decide +kernel
theorem dX8_tryTurn_58 : decode cX8_tryTurn 58 = .ok (.iload_n 2, 1) := by decide +kernel
theorem dX8_tryTurn_59 : decode cX8_tryTurn 59 = .ok (.iastore, 1) := by decide +kernel
theorem dX8_tryTurn_60 : decode cX8_tryTurn 60 = .ok (.iload 4, 2) := by decide +kernel
theorem dX8_tryTurn_62 : decode cX8_tryTurn 62 = .ok (.ireturn, 1) := by decide +kernel
theorem dX8_turn_0 : decode cX8_turn 0 = .ok (.aload_n 0, 1) := by decide +kernel
theorem dX8_turn_1 : decode cX8_turn 1 = .ok (.iload_n 1, 1) := by decide +kernel
theorem dX8_turn_2 : decode cX8_turn 2 = .ok (.iload_n 2, 1) := by decide +kernel
theorem dX8_turn_3 : decode cX8_turn 3 = .ok (.iconst 1, 1) := by decide +kernel
theorem dX8_turn_4 : decode cX8_turn 4 = .ok (.invokevirtual 145, 3) := by decide +kernel
theorem dX8_turn_7 : decode cX8_turn 7 = .ok (.ireturn, 1) := by decide +kernel
theorem dX8_tryFeed_0 : decode cX8_tryFeed 0 = .ok (.aload_n 0, 1) := by decide +kernel
theorem dX8_tryFeed_1 : decode cX8_tryFeed 1 = .ok (.iload_n 1, 1) := by decide +kernel
theorem dX8_tryFeed_2 : decode cX8_tryFeed 2 = .ok (.invokevirtual 149, 3) := by decide +kernel
theorem dX8_tryFeed_5 : decode cX8_tryFeed 5 = .ok (.ifCond .eq 13, 3) := by decide +kernel
theorem dX8_tryFeed_8 : decode cX8_tryFeed 8 = .ok (.aload_n 0, 1) := by decide +kernel
theorem dX8_tryFeed_9 : decode cX8_tryFeed 9 = .ok (.iload_n 1, 1) := by decide +kernel
theorem dX8_tryFeed_10 : decode cX8_tryFeed 10 = .ok (.iconst 0, 1) := by decide +kernel
theorem dX8_tryFeed_11 : decode cX8_tryFeed 11 = .ok (.invokevirtual 78, 3) := by decide +kernel
theorem dX8_tryFeed_14 : decode cX8_tryFeed 14 = .ok (.iconst 2, 1) := by decide +kernel
theorem dX8_tryFeed_15 : decode cX8_tryFeed 15 = .ok (.if_icmp .eq 5, 3) := by decide +kernel
theorem dX8_tryFeed_18 : decode cX8_tryFeed 18 = .ok (.iconst (-1), 1) := by decide +kernel
theorem dX8_tryFeed_19 : decode cX8_tryFeed 19 = .ok (.ireturn, 1) := by decide +kernel
theorem dX8_tryFeed_20 : decode cX8_tryFeed 20 = .ok (.iload_n 2, 1) := by decide +kernel
theorem dX8_tryFeed_21 : decode cX8_tryFeed 21 = .ok (.invokestatic 127, 3) := by decide +kernel
theorem dX8_tryFeed_24 : decode cX8_tryFeed 24 = .ok (.ifCond .ne 6, 3) := by decide +kernel
theorem dX8_tryFeed_27 : decode cX8_tryFeed 27 = .ok (.bipush (-2), 2) := by decide +kernel
theorem dX8_tryFeed_29 : decode cX8_tryFeed 29 = .ok (.ireturn, 1) := by decide +kernel
theorem dX8_tryFeed_30 : decode cX8_tryFeed 30 = .ok (.aload_n 0, 1) := by decide +kernel
theorem dX8_tryFeed_31 : decode cX8_tryFeed 31 = .ok (.iload_n 1, 1) := by decide +kernel
theorem dX8_tryFeed_32 : decode cX8_tryFeed 32 = .ok (.iconst 5, 1) := by decide +kernel
theorem dX8_tryFeed_33 : decode cX8_tryFeed 33 = .ok (.invokevirtual 78, 3) := by decide +kernel
theorem dX8_tryFeed_36 : decode cX8_tryFeed 36 = .ok (.bipush 12, 2) := by decide +kernel
theorem dX8_tryFeed_38 : decode cX8_tryFeed 38 = .ok (.if_icmp .ne 6, 3) := by decide +kernel
theorem dX8_tryFeed_41 : decode cX8_tryFeed 41 = .ok (.bipush (-4), 2) := by decide +kernel
theorem dX8_tryFeed_43 : decode cX8_tryFeed 43 = .ok (.ireturn, 1) := by decide +kernel
theorem dX8_tryFeed_44 : decode cX8_tryFeed 44 = .ok (.aload_n 0, 1) := by decide +kernel
theorem dX8_tryFeed_45 : decode cX8_tryFeed 45 = .ok (.iload_n 3, 1) := by decide +kernel
theorem dX8_tryFeed_46 : decode cX8_tryFeed 46 = .ok (.invokevirtual 141, 3) := by decide +kernel
theorem dX8_tryFeed_49 : decode cX8_tryFeed 49 = .ok (.aload_n 0, 1) := by decide +kernel
theorem dX8_tryFeed_50 : decode cX8_tryFeed 50 = .ok (.iload_n 1, 1) := by decide +kernel
theorem dX8_tryFeed_51 : decode cX8_tryFeed 51 = .ok (.bipush 7, 2) := by decide +kernel
theorem dX8_tryFeed_53 : decode cX8_tryFeed 53 = .ok (.aload_n 0, 1) := by decide +kernel
theorem dX8_tryFeed_54 : decode cX8_tryFeed 54 = .ok (.iload_n 1, 1) := by decide +kernel
theorem dX8_tryFeed_55 : decode cX8_tryFeed 55 = .ok (.iconst 5, 1) := by decide +kernel
theorem dX8_tryFeed_56 : decode cX8_tryFeed 56 = .ok (.invokevirtual 78, 3) := by decide +kernel
theorem dX8_tryFeed_59 : decode cX8_tryFeed 59 = .ok (.iadd, 1) := by decide +kernel
theorem dX8_tryFeed_60 : decode cX8_tryFeed 60 = .ok (.iload_n 2, 1) := by decide +kernel
theorem dX8_tryFeed_61 : decode cX8_tryFeed 61 = .ok (.invokevirtual 81, 3) := by decide +kernel
theorem dX8_tryFeed_64 : decode cX8_tryFeed 64 = .ok (.aload_n 0, 1) := by decide +kernel
theorem dX8_tryFeed_65 : decode cX8_tryFeed 65 = .ok (.iload_n 1, 1) := by decide +kernel
theorem dX8_tryFeed_66 : decode cX8_tryFeed 66 = .ok (.iconst 5, 1) := by decide +kernel
theorem dX8_tryFeed_67 : decode cX8_tryFeed 67 = .ok (.aload_n 0, 1) := by decide +kernel
theorem dX8_tryFeed_68 : decode cX8_tryFeed 68 = .ok (.iload_n 1, 1) := by decide +kernel
theorem dX8_tryFeed_69 : decode cX8_tryFeed 69 = .ok (.iconst 5, 1) := by decide +kernel
theorem dX8_tryFeed_70 : decode cX8_tryFeed 70 = .ok (.invokevirtual 78, 3) := by decide +kernel
theorem dX8_tryFeed_73 : decode cX8_tryFeed 73 = .ok (.iconst 1, 1) := by decide +kernel
theorem dX8_tryFeed_74 : decode cX8_tryFeed 74 = .ok (.iadd, 1) := by decide +kernel
theorem dX8_tryFeed_75 : decode cX8_tryFeed 75 = .ok (.invokevirtual 81, 3) := by decide +kernel
theorem dX8_tryFeed_78 : decode cX8_tryFeed 78 = .ok (.aload_n 0, 1) := by decide +kernel
theorem dX8_tryFeed_79 : decode cX8_tryFeed 79 = .ok (.iload_n 1, 1) := by decide +kernel
theorem dX8_tryFeed_80 : decode cX8_tryFeed 80 = .ok (.iconst 5, 1) := by decide +kernel
theorem dX8_tryFeed_81 : decode cX8_tryFeed 81 = .ok (.invokevirtual 78, 3) := by decide +kernel
theorem dX8_tryFeed_84 : decode cX8_tryFeed 84 = .ok (.ireturn, 1) := by decide +kernel
theorem dX8_feed_0 : decode cX8_feed 0 = .ok (.aload_n 0, 1) := by decide +kernel
theorem dX8_feed_1 : decode cX8_feed 1 = .ok (.iload_n 1, 1) := by decide +kernel
theorem dX8_feed_2 : decode cX8_feed 2 = .ok (.iload_n 2, 1) := by decide +kernel
theorem dX8_feed_3 : decode cX8_feed 3 = .ok (.iconst 1, 1) := by decide +kernel
theorem dX8_feed_4 : decode cX8_feed 4 = .ok (.invokevirtual 152, 3) := by decide +kernel
theorem dX8_feed_7 : decode cX8_feed 7 = .ok (.ireturn, 1) := by decide +kernel
theorem dX8_flashes_0 : decode cX8_flashes 0 = .ok (.iconst 0, 1) := by decide +kernel
theorem dX8_flashes_1 : decode cX8_flashes 1 = .ok (.istore_n 2, 1) := by decide +kernel
theorem dX8_flashes_2 : decode cX8_flashes 2 = .ok (.iconst 0, 1) := by decide +kernel
theorem dX8_flashes_3 : decode cX8_flashes 3 = .ok (.istore_n 3, 1) := by decide +kernel
theorem dX8_flashes_4 : decode cX8_flashes 4 = .ok (.iload_n 3, 1) := by decide +kernel
theorem dX8_flashes_5 : decode cX8_flashes 5 = .ok (.aload_n 0, 1) := by decide +kernel
theorem dX8_flashes_6 : decode cX8_flashes 6 = .ok (.iload_n 1, 1) := by decide +kernel
theorem dX8_flashes_7 : decode cX8_flashes 7 = .ok (.iconst 0, 1) := by decide +kernel
theorem dX8_flashes_8 : decode cX8_flashes 8 = .ok (.invokevirtual 46, 3) := by decide +kernel
theorem dX8_flashes_11 : decode cX8_flashes 11 = .ok (.if_icmp .ge 30, 3) := by decide +kernel
theorem dX8_flashes_14 : decode cX8_flashes 14 = .ok (.iload_n 2, 1) := by decide +kernel
theorem dX8_flashes_15 : decode cX8_flashes 15 = .ok (.aload_n 0, 1) := by decide +kernel
theorem dX8_flashes_16 : decode cX8_flashes 16 = .ok (.getfield 7, 3) := by decide +kernel
theorem dX8_flashes_19 : decode cX8_flashes 19 = .ok (.iload_n 1, 1) := by decide +kernel
theorem dX8_flashes_20 : decode cX8_flashes 20 = .ok (.iload_n 3, 1) := by decide +kernel
theorem dX8_flashes_21 : decode cX8_flashes 21 = .ok (.invokestatic 68, 3) := by decide +kernel
theorem dX8_flashes_24 : decode cX8_flashes 24 = .ok (.iaload, 1) := by decide +kernel
theorem dX8_flashes_25 : decode cX8_flashes 25 = .ok (.ifCond .lt 7, 3) := by decide +kernel
theorem dX8_flashes_28 : decode cX8_flashes 28 = .ok (.iconst 1, 1) := by decide +kernel
theorem dX8_flashes_29 : decode cX8_flashes 29 = .ok (.goto 4, 3) := by decide +kernel
theorem dX8_flashes_32 : decode cX8_flashes 32 = .ok (.iconst 0, 1) := by decide +kernel
theorem dX8_flashes_33 : decode cX8_flashes 33 = .ok (.iadd, 1) := by decide +kernel
theorem dX8_flashes_34 : decode cX8_flashes 34 = .ok (.istore_n 2, 1) := by decide +kernel
theorem dX8_flashes_35 : decode cX8_flashes 35 = .ok (.iinc 3 1, 3) := by decide +kernel
theorem dX8_flashes_38 : decode cX8_flashes 38 = .ok (.goto (-34), 3) := by decide +kernel
theorem dX8_flashes_41 : decode cX8_flashes 41 = .ok (.iload_n 2, 1) := by decide +kernel
theorem dX8_flashes_42 : decode cX8_flashes 42 = .ok (.ireturn, 1) := by decide +kernel
theorem dX8_tryLight_0 : decode cX8_tryLight 0 = .ok (.aload_n 0, 1) := by decide +kernel
theorem dX8_tryLight_1 : decode cX8_tryLight 1 = .ok (.iload_n 1, 1) := by decide +kernel
theorem dX8_tryLight_2 : decode cX8_tryLight 2 = .ok (.iload_n 2, 1) := by decide +kernel
theorem dX8_tryLight_3 : decode cX8_tryLight 3 = .ok (.invokevirtual 130, 3) := by decide +kernel
theorem dX8_tryLight_6 : decode cX8_tryLight 6 = .ok (.ifCond .ne 5, 3) := by decide +kernel
theorem dX8_tryLight_9 : decode cX8_tryLight 9 = .ok (.iconst (-1), 1) := by decide +kernel
theorem dX8_tryLight_10 : decode cX8_tryLight 10 = .ok (.ireturn, 1) := by decide +kernel
theorem dX8_tryLight_11 : decode cX8_tryLight 11 = .ok (.iload_n 3, 1) := by decide +kernel
theorem dX8_tryLight_12 : decode cX8_tryLight 12 = .ok (.invokestatic 127, 3) := by decide +kernel
theorem dX8_tryLight_15 : decode cX8_tryLight 15 = .ok (.ifCond .ne 6, 3) := by decide +kernel
theorem dX8_tryLight_18 : decode cX8_tryLight 18 = .ok (.bipush (-2), 2) := by decide +kernel
theorem dX8_tryLight_20 : decode cX8_tryLight 20 = .ok (.ireturn, 1) := by decide +kernel
theorem dX8_tryLight_21 : decode cX8_tryLight 21 = .ok (.aload_n 0, 1) := by decide +kernel
theorem dX8_tryLight_22 : decode cX8_tryLight 22 = .ok (.getfield 7, 3) := by decide +kernel
theorem dX8_tryLight_25 : decode cX8_tryLight 25 = .ok (.iload_n 1, 1) := by decide +kernel
theorem dX8_tryLight_26 : decode cX8_tryLight 26 = .ok (.iload_n 2, 1) := by decide +kernel
theorem dX8_tryLight_27 : decode cX8_tryLight 27 = .ok (.invokestatic 68, 3) := by decide +kernel
theorem dX8_tryLight_30 : decode cX8_tryLight 30 = .ok (.iaload, 1) := by decide +kernel
theorem dX8_tryLight_31 : decode cX8_tryLight 31 = .ok (.ifCond .lt 6, 3) := by decide +kernel
theorem dX8_tryLight_34 : decode cX8_tryLight 34 = .ok (.bipush (-5), 2) := by decide +kernel
theorem dX8_tryLight_36 : decode cX8_tryLight 36 = .ok (.ireturn, 1) := by decide +kernel
theorem dX8_tryLight_37 : decode cX8_tryLight 37 = .ok (.aload_n 0, 1) := by decide +kernel
theorem dX8_tryLight_38 : decode cX8_tryLight 38 = .ok (.iload 4, 2) := by decide +kernel
theorem dX8_tryLight_40 : decode cX8_tryLight 40 = .ok (.invokevirtual 141, 3) := by decide +kernel
theorem dX8_tryLight_43 : decode cX8_tryLight 43 = .ok (.aload_n 0, 1) := by decide +kernel
theorem dX8_tryLight_44 : decode cX8_tryLight 44 = .ok (.iload_n 1, 1) := by decide +kernel
theorem dX8_tryLight_45 : decode cX8_tryLight 45 = .ok (.iload_n 1, 1) := by decide +kernel
theorem dX8_tryLight_46 : decode cX8_tryLight 46 = .ok (.iload_n 2, 1) := by decide +kernel
theorem dX8_tryLight_47 : decode cX8_tryLight 47 = .ok (.invokestatic 68, 3) := by decide +kernel
theorem dX8_tryLight_50 : decode cX8_tryLight 50 = .ok (.iload_n 3, 1) := by decide +kernel
theorem dX8_tryLight_51 : decode cX8_tryLight 51 = .ok (.invokevirtual 87, 3) := by decide +kernel
theorem dX8_tryLight_54 : decode cX8_tryLight 54 = .ok (.aload_n 0, 1) := by decide +kernel
theorem dX8_tryLight_55 : decode cX8_tryLight 55 = .ok (.iload_n 1, 1) := by decide +kernel
theorem dX8_tryLight_56 : decode cX8_tryLight 56 = .ok (.invokevirtual 155, 3) := by decide +kernel
theorem dX8_tryLight_59 : decode cX8_tryLight 59 = .ok (.ireturn, 1) := by decide +kernel
theorem dX8_light_0 : decode cX8_light 0 = .ok (.aload_n 0, 1) := by decide +kernel
theorem dX8_light_1 : decode cX8_light 1 = .ok (.iload_n 1, 1) := by decide +kernel
theorem dX8_light_2 : decode cX8_light 2 = .ok (.iload_n 2, 1) := by decide +kernel
theorem dX8_light_3 : decode cX8_light 3 = .ok (.iload_n 3, 1) := by decide +kernel
theorem dX8_light_4 : decode cX8_light 4 = .ok (.iconst 1, 1) := by decide +kernel
theorem dX8_light_5 : decode cX8_light 5 = .ok (.invokevirtual 158, 3) := by decide +kernel
theorem dX8_light_8 : decode cX8_light 8 = .ok (.ireturn, 1) := by decide +kernel
theorem dX8_tryTicks_0 : decode cX8_tryTicks 0 = .ok (.iload_n 1, 1) := by decide +kernel
theorem dX8_tryTicks_1 : decode cX8_tryTicks 1 = .ok (.iconst 1, 1) := by decide +kernel
theorem dX8_tryTicks_2 : decode cX8_tryTicks 2 = .ok (.sipush 200, 3) := by decide +kernel
theorem dX8_tryTicks_5 : decode cX8_tryTicks 5 = .ok (.invokestatic 38, 3) := by decide +kernel
theorem dX8_tryTicks_8 : decode cX8_tryTicks 8 = .ok (.ifCond .ne 6, 3) := by decide +kernel
theorem dX8_tryTicks_11 : decode cX8_tryTicks 11 = .ok (.bipush (-2), 2) := by decide +kernel
theorem dX8_tryTicks_13 : decode cX8_tryTicks 13 = .ok (.ireturn, 1) := by decide +kernel
theorem dX8_tryTicks_14 : decode cX8_tryTicks 14 = .ok (.aload_n 0, 1) := by decide +kernel
theorem dX8_tryTicks_15 : decode cX8_tryTicks 15 = .ok (.iload_n 2, 1) := by decide +kernel
theorem dX8_tryTicks_16 : decode cX8_tryTicks 16 = .ok (.invokevirtual 141, 3) := by decide +kernel
theorem dX8_tryTicks_19 : decode cX8_tryTicks 19 = .ok (.aload_n 0, 1) := by decide +kernel
theorem dX8_tryTicks_20 : decode cX8_tryTicks 20 = .ok (.iload_n 1, 1) := by decide +kernel
theorem dX8_tryTicks_21 : decode cX8_tryTicks 21 = .ok (.invokevirtual 162, 3) := by decide +kernel
theorem dX8_tryTicks_24 : decode cX8_tryTicks 24 = .ok (.aload_n 0, 1) := by decide +kernel
theorem dX8_tryTicks_25 : decode cX8_tryTicks 25 = .ok (.getfield 7, 3) := by decide +kernel
theorem dX8_tryTicks_28 : decode cX8_tryTicks 28 = .ok (.iconst 4, 1) := by decide +kernel
theorem dX8_tryTicks_29 : decode cX8_tryTicks 29 = .ok (.iaload, 1) := by decide +kernel
theorem dX8_tryTicks_30 : decode cX8_tryTicks 30 = .ok (.ireturn, 1) := by decide +kernel
theorem dX8_ticks_0 : decode cX8_ticks 0 = .ok (.aload_n 0, 1) := by decide +kernel
theorem dX8_ticks_1 : decode cX8_ticks 1 = .ok (.iload_n 1, 1) := by decide +kernel
theorem dX8_ticks_2 : decode cX8_ticks 2 = .ok (.iconst 1, 1) := by decide +kernel
theorem dX8_ticks_3 : decode cX8_ticks 3 = .ok (.invokevirtual 165, 3) := by decide +kernel
theorem dX8_ticks_6 : decode cX8_ticks 6 = .ok (.ireturn, 1) := by decide +kernel
theorem dX8_at_0 : decode cX8_at 0 = .ok (.aload_n 0, 1) := by decide +kernel
theorem dX8_at_1 : decode cX8_at 1 = .ok (.iload_n 1, 1) := by decide +kernel
theorem dX8_at_2 : decode cX8_at 2 = .ok (.iload_n 2, 1) := by decide +kernel
theorem dX8_at_3 : decode cX8_at 3 = .ok (.invokevirtual 130, 3) := by decide +kernel
theorem dX8_at_6 : decode cX8_at 6 = .ok (.ifCond .ne 5, 3) := by decide +kernel
theorem dX8_at_9 : decode cX8_at 9 = .ok (.iconst (-1), 1) := by decide +kernel
theorem dX8_at_10 : decode cX8_at 10 = .ok (.ireturn, 1) := by decide +kernel
theorem dX8_at_11 : decode cX8_at 11 = .ok (.iload_n 1, 1) := by decide +kernel
theorem dX8_at_12 : decode cX8_at 12 = .ok (.iload_n 2, 1) := by decide +kernel
theorem dX8_at_13 : decode cX8_at 13 = .ok (.invokestatic 68, 3) := by decide +kernel
theorem dX8_at_16 : decode cX8_at 16 = .ok (.istore 4, 2) := by decide +kernel
theorem dX8_at_18 : decode cX8_at 18 = .ok (.iload_n 3, 1) := by decide +kernel
theorem dX8_at_19 : decode cX8_at 19 = .ok (.tableswitch 80 0 3 #[29, 29, 39, 71], 29) := by decide +kernel
theorem dX8_at_48 : decode cX8_at 48 = .ok (.aload_n 0, 1) := by decide +kernel
theorem dX8_at_49 : decode cX8_at 49 = .ok (.getfield 7, 3) := by decide +kernel
theorem dX8_at_52 : decode cX8_at 52 = .ok (.iload 4, 2) := by decide +kernel
theorem dX8_at_54 : decode cX8_at 54 = .ok (.iload_n 3, 1) := by decide +kernel
theorem dX8_at_55 : decode cX8_at 55 = .ok (.iadd, 1) := by decide +kernel
theorem dX8_at_56 : decode cX8_at 56 = .ok (.iaload, 1) := by decide +kernel
theorem dX8_at_57 : decode cX8_at 57 = .ok (.ireturn, 1) := by decide +kernel
theorem dX8_at_58 : decode cX8_at 58 = .ok (.aload_n 0, 1) := by decide +kernel
theorem dX8_at_59 : decode cX8_at 59 = .ok (.getfield 7, 3) := by decide +kernel
theorem dX8_at_62 : decode cX8_at 62 = .ok (.iload 4, 2) := by decide +kernel
theorem dX8_at_64 : decode cX8_at 64 = .ok (.iaload, 1) := by decide +kernel
theorem dX8_at_65 : decode cX8_at 65 = .ok (.ifCond .lt 22, 3) := by decide +kernel
theorem dX8_at_68 : decode cX8_at 68 = .ok (.aload_n 0, 1) := by decide +kernel
theorem dX8_at_69 : decode cX8_at 69 = .ok (.getfield 7, 3) := by decide +kernel
theorem dX8_at_72 : decode cX8_at 72 = .ok (.iconst 4, 1) := by decide +kernel
theorem dX8_at_73 : decode cX8_at 73 = .ok (.iaload, 1) := by decide +kernel
theorem dX8_at_74 : decode cX8_at 74 = .ok (.aload_n 0, 1) := by decide +kernel
theorem dX8_at_75 : decode cX8_at 75 = .ok (.getfield 7, 3) := by decide +kernel
theorem dX8_at_78 : decode cX8_at 78 = .ok (.iload 4, 2) := by decide +kernel
theorem dX8_at_80 : decode cX8_at 80 = .ok (.iconst 2, 1) := by decide +kernel
theorem dX8_at_81 : decode cX8_at 81 = .ok (.iadd, 1) := by decide +kernel
theorem dX8_at_82 : decode cX8_at 82 = .ok (.iaload, 1) := by decide +kernel
theorem dX8_at_83 : decode cX8_at 83 = .ok (.isub, 1) := by decide +kernel
theorem dX8_at_84 : decode cX8_at 84 = .ok (.goto 5, 3) := by decide +kernel
theorem dX8_at_87 : decode cX8_at 87 = .ok (.bipush (-6), 2) := by decide +kernel
theorem dX8_at_89 : decode cX8_at 89 = .ok (.ireturn, 1) := by decide +kernel
theorem dX8_at_90 : decode cX8_at 90 = .ok (.aload_n 0, 1) := by decide +kernel
theorem dX8_at_91 : decode cX8_at 91 = .ok (.iload_n 1, 1) := by decide +kernel
theorem dX8_at_92 : decode cX8_at 92 = .ok (.iconst 0, 1) := by decide +kernel
theorem dX8_at_93 : decode cX8_at 93 = .ok (.invokevirtual 46, 3) := by decide +kernel
theorem dX8_at_96 : decode cX8_at 96 = .ok (.iload_n 2, 1) := by decide +kernel
theorem dX8_at_97 : decode cX8_at 97 = .ok (.isub, 1) := by decide +kernel
theorem dX8_at_98 : decode cX8_at 98 = .ok (.ireturn, 1) := by decide +kernel
theorem dX8_at_99 : decode cX8_at 99 = .ok (.bipush (-2), 2) := by decide +kernel
theorem dX8_at_101 : decode cX8_at 101 = .ok (.ireturn, 1) := by decide +kernel
theorem dX8_strengths_0 : decode cX8_strengths 0 = .ok (.iconst 0, 1) := by decide +kernel
theorem dX8_strengths_1 : decode cX8_strengths 1 = .ok (.istore_n 2, 1) := by decide +kernel
theorem dX8_strengths_2 : decode cX8_strengths 2 = .ok (.iconst 0, 1) := by decide +kernel
theorem dX8_strengths_3 : decode cX8_strengths 3 = .ok (.istore_n 3, 1) := by decide +kernel
theorem dX8_strengths_4 : decode cX8_strengths 4 = .ok (.iload_n 3, 1) := by decide +kernel
theorem dX8_strengths_5 : decode cX8_strengths 5 = .ok (.aload_n 0, 1) := by decide +kernel
theorem dX8_strengths_6 : decode cX8_strengths 6 = .ok (.iload_n 1, 1) := by decide +kernel
theorem dX8_strengths_7 : decode cX8_strengths 7 = .ok (.iconst 0, 1) := by decide +kernel
theorem dX8_strengths_8 : decode cX8_strengths 8 = .ok (.invokevirtual 46, 3) := by decide +kernel
theorem dX8_strengths_11 : decode cX8_strengths 11 = .ok (.if_icmp .ge 24, 3) := by decide +kernel
theorem dX8_strengths_14 : decode cX8_strengths 14 = .ok (.iload_n 2, 1) := by decide +kernel
theorem dX8_strengths_15 : decode cX8_strengths 15 = .ok (.aload_n 0, 1) := by decide +kernel
theorem dX8_strengths_16 : decode cX8_strengths 16 = .ok (.getfield 7, 3) := by decide +kernel
theorem dX8_strengths_19 : decode cX8_strengths 19 = .ok (.iload_n 1, 1) := by decide +kernel
theorem dX8_strengths_20 : decode cX8_strengths 20 = .ok (.iload_n 3, 1) := by decide +kernel
theorem dX8_strengths_21 : decode cX8_strengths 21 = .ok (.invokestatic 68, 3) := by decide +kernel
theorem dX8_strengths_24 : decode cX8_strengths 24 = .ok (.iconst 1, 1) := by decide +kernel
theorem dX8_strengths_25 : decode cX8_strengths 25 = .ok (.iadd, 1) := by decide +kernel
theorem dX8_strengths_26 : decode cX8_strengths 26 = .ok (.iaload, 1) := by decide +kernel
theorem dX8_strengths_27 : decode cX8_strengths 27 = .ok (.iadd, 1) := by decide +kernel
theorem dX8_strengths_28 : decode cX8_strengths 28 = .ok (.istore_n 2, 1) := by decide +kernel
theorem dX8_strengths_29 : decode cX8_strengths 29 = .ok (.iinc 3 1, 3) := by decide +kernel
theorem dX8_strengths_32 : decode cX8_strengths 32 = .ok (.goto (-28), 3) := by decide +kernel
theorem dX8_strengths_35 : decode cX8_strengths 35 = .ok (.iload_n 2, 1) := by decide +kernel
theorem dX8_strengths_36 : decode cX8_strengths 36 = .ok (.ireturn, 1) := by decide +kernel
theorem dX8_faintest_0 : decode cX8_faintest 0 = .ok (.iconst 0, 1) := by decide +kernel
theorem dX8_faintest_1 : decode cX8_faintest 1 = .ok (.istore_n 2, 1) := by decide +kernel
theorem dX8_faintest_2 : decode cX8_faintest 2 = .ok (.iconst 0, 1) := by decide +kernel
theorem dX8_faintest_3 : decode cX8_faintest 3 = .ok (.istore_n 3, 1) := by decide +kernel
theorem dX8_faintest_4 : decode cX8_faintest 4 = .ok (.iload_n 3, 1) := by decide +kernel
theorem dX8_faintest_5 : decode cX8_faintest 5 = .ok (.aload_n 0, 1) := by decide +kernel
theorem dX8_faintest_6 : decode cX8_faintest 6 = .ok (.iload_n 1, 1) := by decide +kernel
theorem dX8_faintest_7 : decode cX8_faintest 7 = .ok (.iconst 0, 1) := by decide +kernel
theorem dX8_faintest_8 : decode cX8_faintest 8 = .ok (.invokevirtual 46, 3) := by decide +kernel
theorem dX8_faintest_11 : decode cX8_faintest 11 = .ok (.if_icmp .ge 45, 3) := by decide +kernel
theorem dX8_faintest_14 : decode cX8_faintest 14 = .ok (.aload_n 0, 1) := by decide +kernel
theorem dX8_faintest_15 : decode cX8_faintest 15 = .ok (.getfield 7, 3) := by decide +kernel
theorem dX8_faintest_18 : decode cX8_faintest 18 = .ok (.iload_n 1, 1) := by decide +kernel
theorem dX8_faintest_19 : decode cX8_faintest 19 = .ok (.iload_n 3, 1) := by decide +kernel
theorem dX8_faintest_20 : decode cX8_faintest 20 = .ok (.invokestatic 68, 3) := by decide +kernel
theorem dX8_faintest_23 : decode cX8_faintest 23 = .ok (.iconst 1, 1) := by decide +kernel
theorem dX8_faintest_24 : decode cX8_faintest 24 = .ok (.iadd, 1) := by decide +kernel
theorem dX8_faintest_25 : decode cX8_faintest 25 = .ok (.iaload, 1) := by decide +kernel
theorem dX8_faintest_26 : decode cX8_faintest 26 = .ok (.istore 4, 2) := by decide +kernel
theorem dX8_faintest_28 : decode cX8_faintest 28 = .ok (.iload 4, 2) := by decide +kernel
theorem dX8_faintest_30 : decode cX8_faintest 30 = .ok (.ifCond .le 18, 3) := by decide +kernel
theorem dX8_faintest_33 : decode cX8_faintest 33 = .ok (.iload_n 2, 1) := by decide +kernel
theorem dX8_faintest_34 : decode cX8_faintest 34 = .ok (.ifCond .eq 9, 3) := by decide +kernel
theorem dX8_faintest_37 : decode cX8_faintest 37 = .ok (.iload 4, 2) := by decide +kernel
theorem dX8_faintest_39 : decode cX8_faintest 39 = .ok (.iload_n 2, 1) := by decide +kernel
theorem dX8_faintest_40 : decode cX8_faintest 40 = .ok (.if_icmp .ge 8, 3) := by decide +kernel
theorem dX8_faintest_43 : decode cX8_faintest 43 = .ok (.iload 4, 2) := by decide +kernel
theorem dX8_faintest_45 : decode cX8_faintest 45 = .ok (.goto 4, 3) := by decide +kernel
theorem dX8_faintest_48 : decode cX8_faintest 48 = .ok (.iload_n 2, 1) := by decide +kernel
theorem dX8_faintest_49 : decode cX8_faintest 49 = .ok (.istore_n 2, 1) := by decide +kernel
theorem dX8_faintest_50 : decode cX8_faintest 50 = .ok (.iinc 3 1, 3) := by decide +kernel
theorem dX8_faintest_53 : decode cX8_faintest 53 = .ok (.goto (-49), 3) := by decide +kernel
theorem dX8_faintest_56 : decode cX8_faintest 56 = .ok (.iload_n 2, 1) := by decide +kernel
theorem dX8_faintest_57 : decode cX8_faintest 57 = .ok (.ireturn, 1) := by decide +kernel
theorem dX8_ofLoop_0 : decode cX8_ofLoop 0 = .ok (.aload_n 0, 1) := by decide +kernel
theorem dX8_ofLoop_1 : decode cX8_ofLoop 1 = .ok (.iload_n 1, 1) := by decide +kernel
theorem dX8_ofLoop_2 : decode cX8_ofLoop 2 = .ok (.invokevirtual 42, 3) := by decide +kernel
theorem dX8_ofLoop_5 : decode cX8_ofLoop 5 = .ok (.ifCond .ne 5, 3) := by decide +kernel
theorem dX8_ofLoop_8 : decode cX8_ofLoop 8 = .ok (.iconst (-1), 1) := by decide +kernel
theorem dX8_ofLoop_9 : decode cX8_ofLoop 9 = .ok (.ireturn, 1) := by decide +kernel
theorem dX8_ofLoop_10 : decode cX8_ofLoop 10 = .ok (.iload_n 2, 1) := by decide +kernel
theorem dX8_ofLoop_11 : decode cX8_ofLoop 11 = .ok (.tableswitch 54 0 3 #[29, 36, 42, 48], 29) := by decide +kernel
theorem dX8_ofLoop_40 : decode cX8_ofLoop 40 = .ok (.aload_n 0, 1) := by decide +kernel
theorem dX8_ofLoop_41 : decode cX8_ofLoop 41 = .ok (.iload_n 1, 1) := by decide +kernel
theorem dX8_ofLoop_42 : decode cX8_ofLoop 42 = .ok (.iconst 0, 1) := by decide +kernel
theorem dX8_ofLoop_43 : decode cX8_ofLoop 43 = .ok (.invokevirtual 46, 3) := by decide +kernel
theorem dX8_ofLoop_46 : decode cX8_ofLoop 46 = .ok (.ireturn, 1) := by decide +kernel
theorem dX8_ofLoop_47 : decode cX8_ofLoop 47 = .ok (.aload_n 0, 1) := by decide +kernel
theorem dX8_ofLoop_48 : decode cX8_ofLoop 48 = .ok (.iload_n 1, 1) := by decide +kernel
theorem dX8_ofLoop_49 : decode cX8_ofLoop 49 = .ok (.invokevirtual 155, 3) := by decide +kernel
theorem dX8_ofLoop_52 : decode cX8_ofLoop 52 = .ok (.ireturn, 1) := by decide +kernel
theorem dX8_ofLoop_53 : decode cX8_ofLoop 53 = .ok (.aload_n 0, 1) := by decide +kernel
theorem dX8_ofLoop_54 : decode cX8_ofLoop 54 = .ok (.iload_n 1, 1) := by decide +kernel
theorem dX8_ofLoop_55 : decode cX8_ofLoop 55 = .ok (.invokevirtual 169, 3) := by decide +kernel
theorem dX8_ofLoop_58 : decode cX8_ofLoop 58 = .ok (.ireturn, 1) := by decide +kernel
theorem dX8_ofLoop_59 : decode cX8_ofLoop 59 = .ok (.aload_n 0, 1) := by decide +kernel
theorem dX8_ofLoop_60 : decode cX8_ofLoop 60 = .ok (.iload_n 1, 1) := by decide +kernel
theorem dX8_ofLoop_61 : decode cX8_ofLoop 61 = .ok (.invokevirtual 172, 3) := by decide +kernel
theorem dX8_ofLoop_64 : decode cX8_ofLoop 64 = .ok (.ireturn, 1) := by decide +kernel
theorem dX8_ofLoop_65 : decode cX8_ofLoop 65 = .ok (.iload_n 2, 1) := by decide +kernel
theorem dX8_ofLoop_66 : decode cX8_ofLoop 66 = .ok (.iconst 4, 1) := by decide +kernel
theorem dX8_ofLoop_67 : decode cX8_ofLoop 67 = .ok (.bipush 8, 2) := by decide +kernel
theorem dX8_ofLoop_69 : decode cX8_ofLoop 69 = .ok (.invokestatic 38, 3) := by decide +kernel
theorem dX8_ofLoop_72 : decode cX8_ofLoop 72 = .ok (.ifCond .eq 14, 3) := by decide +kernel
theorem dX8_ofLoop_75 : decode cX8_ofLoop 75 = .ok (.aload_n 0, 1) := by decide +kernel
theorem dX8_ofLoop_76 : decode cX8_ofLoop 76 = .ok (.iload_n 1, 1) := by decide +kernel
theorem dX8_ofLoop_77 : decode cX8_ofLoop 77 = .ok (.iload_n 2, 1) := by decide +kernel
theorem dX8_ofLoop_78 : decode cX8_ofLoop 78 = .ok (.iconst 3, 1) := by decide +kernel
theorem dX8_ofLoop_79 : decode cX8_ofLoop 79 = .ok (.isub, 1) := by decide +kernel
theorem dX8_ofLoop_80 : decode cX8_ofLoop 80 = .ok (.invokevirtual 46, 3) := by decide +kernel
theorem dX8_ofLoop_83 : decode cX8_ofLoop 83 = .ok (.goto 5, 3) := by decide +kernel
theorem dX8_ofLoop_86 : decode cX8_ofLoop 86 = .ok (.bipush (-2), 2) := by decide +kernel
theorem dX8_ofLoop_88 : decode cX8_ofLoop 88 = .ok (.ireturn, 1) := by decide +kernel
theorem dX8_ofDevice_0 : decode cX8_ofDevice 0 = .ok (.aload_n 0, 1) := by decide +kernel
theorem dX8_ofDevice_1 : decode cX8_ofDevice 1 = .ok (.iload_n 1, 1) := by decide +kernel
theorem dX8_ofDevice_2 : decode cX8_ofDevice 2 = .ok (.invokevirtual 149, 3) := by decide +kernel
theorem dX8_ofDevice_5 : decode cX8_ofDevice 5 = .ok (.ifCond .ne 5, 3) := by decide +kernel
theorem dX8_ofDevice_8 : decode cX8_ofDevice 8 = .ok (.iconst (-1), 1) := by decide +kernel
theorem dX8_ofDevice_9 : decode cX8_ofDevice 9 = .ok (.ireturn, 1) := by decide +kernel
theorem dX8_ofDevice_10 : decode cX8_ofDevice 10 = .ok (.iload_n 2, 1) := by decide +kernel
theorem dX8_ofDevice_11 : decode cX8_ofDevice 11 = .ok (.iconst 0, 1) := by decide +kernel
theorem dX8_ofDevice_12 : decode cX8_ofDevice 12 = .ok (.bipush 6, 2) := by decide +kernel
theorem dX8_ofDevice_14 : decode cX8_ofDevice 14 = .ok (.invokestatic 38, 3) := by decide +kernel
theorem dX8_ofDevice_17 : decode cX8_ofDevice 17 = .ok (.ifCond .eq 12, 3) := by decide +kernel
theorem dX8_ofDevice_20 : decode cX8_ofDevice 20 = .ok (.aload_n 0, 1) := by decide +kernel
theorem dX8_ofDevice_21 : decode cX8_ofDevice 21 = .ok (.iload_n 1, 1) := by decide +kernel
theorem dX8_ofDevice_22 : decode cX8_ofDevice 22 = .ok (.iload_n 2, 1) := by decide +kernel
theorem dX8_ofDevice_23 : decode cX8_ofDevice 23 = .ok (.invokevirtual 78, 3) := by decide +kernel
theorem dX8_ofDevice_26 : decode cX8_ofDevice 26 = .ok (.goto 5, 3) := by decide +kernel
theorem dX8_ofDevice_29 : decode cX8_ofDevice 29 = .ok (.bipush (-2), 2) := by decide +kernel
theorem dX8_ofDevice_31 : decode cX8_ofDevice 31 = .ok (.ireturn, 1) := by decide +kernel
theorem dX8_noted_0 : decode cX8_noted 0 = .ok (.aload_n 0, 1) := by decide +kernel
theorem dX8_noted_1 : decode cX8_noted 1 = .ok (.iload_n 1, 1) := by decide +kernel
theorem dX8_noted_2 : decode cX8_noted 2 = .ok (.invokevirtual 149, 3) := by decide +kernel
theorem dX8_noted_5 : decode cX8_noted 5 = .ok (.ifCond .eq 13, 3) := by decide +kernel
theorem dX8_noted_8 : decode cX8_noted 8 = .ok (.aload_n 0, 1) := by decide +kernel
theorem dX8_noted_9 : decode cX8_noted 9 = .ok (.iload_n 1, 1) := by decide +kernel
theorem dX8_noted_10 : decode cX8_noted 10 = .ok (.iconst 0, 1) := by decide +kernel
theorem dX8_noted_11 : decode cX8_noted 11 = .ok (.invokevirtual 78, 3) := by decide +kernel
theorem dX8_noted_14 : decode cX8_noted 14 = .ok (.iconst 1, 1) := by decide +kernel
theorem dX8_noted_15 : decode cX8_noted 15 = .ok (.if_icmp .eq 5, 3) := by decide +kernel
theorem dX8_noted_18 : decode cX8_noted 18 = .ok (.iconst (-1), 1) := by decide +kernel
theorem dX8_noted_19 : decode cX8_noted 19 = .ok (.ireturn, 1) := by decide +kernel
theorem dX8_noted_20 : decode cX8_noted 20 = .ok (.iload_n 2, 1) := by decide +kernel
theorem dX8_noted_21 : decode cX8_noted 21 = .ok (.iconst 0, 1) := by decide +kernel
theorem dX8_noted_22 : decode cX8_noted 22 = .ok (.aload_n 0, 1) := by decide +kernel
theorem dX8_noted_23 : decode cX8_noted 23 = .ok (.iload_n 1, 1) := by decide +kernel
theorem dX8_noted_24 : decode cX8_noted 24 = .ok (.iconst 5, 1) := by decide +kernel
theorem dX8_noted_25 : decode cX8_noted 25 = .ok (.invokevirtual 78, 3) := by decide +kernel
theorem dX8_noted_28 : decode cX8_noted 28 = .ok (.iconst 1, 1) := by decide +kernel
theorem dX8_noted_29 : decode cX8_noted 29 = .ok (.isub, 1) := by decide +kernel
theorem dX8_noted_30 : decode cX8_noted 30 = .ok (.invokestatic 38, 3) := by decide +kernel
theorem dX8_noted_33 : decode cX8_noted 33 = .ok (.ifCond .eq 15, 3) := by decide +kernel
theorem dX8_noted_36 : decode cX8_noted 36 = .ok (.aload_n 0, 1) := by decide +kernel
theorem dX8_noted_37 : decode cX8_noted 37 = .ok (.iload_n 1, 1) := by decide +kernel
theorem dX8_noted_38 : decode cX8_noted 38 = .ok (.bipush 7, 2) := by decide +kernel
theorem dX8_noted_40 : decode cX8_noted 40 = .ok (.iload_n 2, 1) := by decide +kernel
theorem dX8_noted_41 : decode cX8_noted 41 = .ok (.iadd, 1) := by decide +kernel
theorem dX8_noted_42 : decode cX8_noted 42 = .ok (.invokevirtual 78, 3) := by decide +kernel
theorem dX8_noted_45 : decode cX8_noted 45 = .ok (.goto 5, 3) := by decide +kernel
theorem dX8_noted_48 : decode cX8_noted 48 = .ok (.bipush (-6), 2) := by decide +kernel
theorem dX8_noted_50 : decode cX8_noted 50 = .ok (.ireturn, 1) := by decide +kernel
theorem dX8_ofJoin_0 : decode cX8_ofJoin 0 = .ok (.iload_n 1, 1) := by decide +kernel
theorem dX8_ofJoin_1 : decode cX8_ofJoin 1 = .ok (.iconst 0, 1) := by decide +kernel
theorem dX8_ofJoin_2 : decode cX8_ofJoin 2 = .ok (.aload_n 0, 1) := by decide +kernel
theorem dX8_ofJoin_3 : decode cX8_ofJoin 3 = .ok (.getfield 7, 3) := by decide +kernel
theorem dX8_ofJoin_6 : decode cX8_ofJoin 6 = .ok (.bipush 7, 2) := by decide +kernel
theorem dX8_ofJoin_8 : decode cX8_ofJoin 8 = .ok (.iaload, 1) := by decide +kernel
theorem dX8_ofJoin_9 : decode cX8_ofJoin 9 = .ok (.iconst 1, 1) := by decide +kernel
theorem dX8_ofJoin_10 : decode cX8_ofJoin 10 = .ok (.isub, 1) := by decide +kernel
theorem dX8_ofJoin_11 : decode cX8_ofJoin 11 = .ok (.invokestatic 38, 3) := by decide +kernel
theorem dX8_ofJoin_14 : decode cX8_ofJoin 14 = .ok (.ifCond .ne 5, 3) := by decide +kernel
theorem dX8_ofJoin_17 : decode cX8_ofJoin 17 = .ok (.iconst (-1), 1) := by decide +kernel
theorem dX8_ofJoin_18 : decode cX8_ofJoin 18 = .ok (.ireturn, 1) := by decide +kernel
theorem dX8_ofJoin_19 : decode cX8_ofJoin 19 = .ok (.iload_n 2, 1) := by decide +kernel
theorem dX8_ofJoin_20 : decode cX8_ofJoin 20 = .ok (.iconst 0, 1) := by decide +kernel
theorem dX8_ofJoin_21 : decode cX8_ofJoin 21 = .ok (.iconst 5, 1) := by decide +kernel
theorem dX8_ofJoin_22 : decode cX8_ofJoin 22 = .ok (.invokestatic 38, 3) := by decide +kernel
theorem dX8_ofJoin_25 : decode cX8_ofJoin 25 = .ok (.ifCond .eq 12, 3) := by decide +kernel
theorem dX8_ofJoin_28 : decode cX8_ofJoin 28 = .ok (.aload_n 0, 1) := by decide +kernel
theorem dX8_ofJoin_29 : decode cX8_ofJoin 29 = .ok (.iload_n 1, 1) := by decide +kernel
theorem dX8_ofJoin_30 : decode cX8_ofJoin 30 = .ok (.iload_n 2, 1) := by decide +kernel
theorem dX8_ofJoin_31 : decode cX8_ofJoin 31 = .ok (.invokevirtual 99, 3) := by decide +kernel
theorem dX8_ofJoin_34 : decode cX8_ofJoin 34 = .ok (.goto 5, 3) := by decide +kernel
theorem dX8_ofJoin_37 : decode cX8_ofJoin 37 = .ok (.bipush (-2), 2) := by decide +kernel
theorem dX8_ofJoin_39 : decode cX8_ofJoin 39 = .ok (.ireturn, 1) := by decide +kernel
theorem dX8_find_0 : decode cX8_find 0 = .ok (.iload_n 1, 1) := by decide +kernel
theorem dX8_find_1 : decode cX8_find 1 = .ok (.invokestatic 127, 3) := by decide +kernel
theorem dX8_find_4 : decode cX8_find 4 = .ok (.ifCond .eq 12, 3) := by decide +kernel
theorem dX8_find_7 : decode cX8_find 7 = .ok (.iload_n 2, 1) := by decide +kernel
theorem dX8_find_8 : decode cX8_find 8 = .ok (.iconst 0, 1) := by decide +kernel
theorem dX8_find_9 : decode cX8_find 9 = .ok (.iconst 2, 1) := by decide +kernel
theorem dX8_find_10 : decode cX8_find 10 = .ok (.invokestatic 38, 3) := by decide +kernel
theorem dX8_find_13 : decode cX8_find 13 = .ok (.ifCond .ne 6, 3) := by decide +kernel
theorem dX8_find_16 : decode cX8_find 16 = .ok (.bipush (-2), 2) := by decide +kernel
theorem dX8_find_18 : decode cX8_find 18 = .ok (.ireturn, 1) := by decide +kernel
theorem dX8_find_19 : decode cX8_find 19 = .ok (.bipush (-6), 2) := by decide +kernel
theorem dX8_find_21 : decode cX8_find 21 = .ok (.istore_n 3, 1) := by decide +kernel
theorem dX8_find_22 : decode cX8_find 22 = .ok (.iconst 0, 1) := by decide +kernel
theorem dX8_find_23 : decode cX8_find 23 = .ok (.istore 4, 2) := by decide +kernel
theorem dX8_find_25 : decode cX8_find 25 = .ok (.iconst 0, 1) := by decide +kernel
theorem dX8_find_26 : decode cX8_find 26 = .ok (.istore 5, 2) := by decide +kernel
theorem dX8_find_28 : decode cX8_find 28 = .ok (.iload 5, 2) := by decide +kernel
theorem dX8_find_30 : decode cX8_find 30 = .ok (.aload_n 0, 1) := by decide +kernel
theorem dX8_find_31 : decode cX8_find 31 = .ok (.getfield 7, 3) := by decide +kernel
theorem dX8_find_34 : decode cX8_find 34 = .ok (.iconst 5, 1) := by decide +kernel
theorem dX8_find_35 : decode cX8_find 35 = .ok (.iaload, 1) := by decide +kernel
theorem dX8_find_36 : decode cX8_find 36 = .ok (.if_icmp .ge 70, 3) := by decide +kernel
theorem dX8_find_39 : decode cX8_find 39 = .ok (.iconst 0, 1) := by decide +kernel
theorem dX8_find_40 : decode cX8_find 40 = .ok (.istore 6, 2) := by decide +kernel
theorem dX8_find_42 : decode cX8_find 42 = .ok (.iload 6, 2) := by decide +kernel
theorem dX8_find_44 : decode cX8_find 44 = .ok (.aload_n 0, 1) := by decide +kernel
theorem dX8_find_45 : decode cX8_find 45 = .ok (.iload 5, 2) := by decide +kernel
theorem dX8_find_47 : decode cX8_find 47 = .ok (.iconst 0, 1) := by decide +kernel
theorem dX8_find_48 : decode cX8_find 48 = .ok (.invokevirtual 46, 3) := by decide +kernel
theorem dX8_find_51 : decode cX8_find 51 = .ok (.if_icmp .ge 49, 3) := by decide +kernel
theorem dX8_find_54 : decode cX8_find 54 = .ok (.aload_n 0, 1) := by decide +kernel
theorem dX8_find_55 : decode cX8_find 55 = .ok (.getfield 7, 3) := by decide +kernel
theorem dX8_find_58 : decode cX8_find 58 = .ok (.iload 5, 2) := by decide +kernel
theorem dX8_find_60 : decode cX8_find 60 = .ok (.iload 6, 2) := by decide +kernel
theorem dX8_find_62 : decode cX8_find 62 = .ok (.invokestatic 68, 3) := by decide +kernel
theorem dX8_find_65 : decode cX8_find 65 = .ok (.iaload, 1) := by decide +kernel
theorem dX8_find_66 : decode cX8_find 66 = .ok (.iload_n 1, 1) := by decide +kernel
theorem dX8_find_67 : decode cX8_find 67 = .ok (.if_icmp .ne 27, 3) := by decide +kernel
theorem dX8_find_70 : decode cX8_find 70 = .ok (.iload 4, 2) := by decide +kernel
theorem dX8_find_72 : decode cX8_find 72 = .ok (.ifCond .ne 17, 3) := by decide +kernel
theorem dX8_find_75 : decode cX8_find 75 = .ok (.iload_n 2, 1) := by decide +kernel
theorem dX8_find_76 : decode cX8_find 76 = .ok (.ifCond .ne 8, 3) := by decide +kernel
theorem dX8_find_79 : decode cX8_find 79 = .ok (.iload 5, 2) := by decide +kernel
theorem dX8_find_81 : decode cX8_find 81 = .ok (.goto 9, 3) := by decide +kernel
theorem dX8_find_84 : decode cX8_find 84 = .ok (.iload 6, 2) := by decide +kernel
theorem dX8_find_86 : decode cX8_find 86 = .ok (.goto 4, 3) := by decide +kernel
theorem dX8_find_89 : decode cX8_find 89 = .ok (.iload_n 3, 1) := by decide +kernel
theorem dX8_find_90 : decode cX8_find 90 = .ok (.istore_n 3, 1) := by decide +kernel
theorem dX8_find_91 : decode cX8_find 91 = .ok (.iinc 4 1, 3) := by decide +kernel
theorem dX8_find_94 : decode cX8_find 94 = .ok (.iinc 6 1, 3) := by decide +kernel
theorem dX8_find_97 : decode cX8_find 97 = .ok (.goto (-55), 3) := by decide +kernel
theorem dX8_find_100 : decode cX8_find 100 = .ok (.iinc 5 1, 3) := by decide +kernel
theorem dX8_find_103 : decode cX8_find 103 = .ok (.goto (-75), 3) := by decide +kernel
theorem dX8_find_106 : decode cX8_find 106 = .ok (.iload 4, 2) := by decide +kernel
theorem dX8_find_108 : decode cX8_find 108 = .ok (.ifCond .eq 8, 3) := by decide +kernel
theorem dX8_find_111 : decode cX8_find 111 = .ok (.iload_n 2, 1) := by decide +kernel
theorem dX8_find_112 : decode cX8_find 112 = .ok (.iconst 2, 1) := by decide +kernel
theorem dX8_find_113 : decode cX8_find 113 = .ok (.if_icmp .ge 7, 3) := by decide +kernel
theorem dX8_find_116 : decode cX8_find 116 = .ok (.iload_n 3, 1) := by decide +kernel
theorem dX8_find_117 : decode cX8_find 117 = .ok (.goto 5, 3) := by decide +kernel
theorem dX8_find_120 : decode cX8_find 120 = .ok (.iload 4, 2) := by decide +kernel
theorem dX8_find_122 : decode cX8_find 122 = .ok (.ireturn, 1) := by decide +kernel
theorem dX8_sum_0 : decode cX8_sum 0 = .ok (.iconst 0, 1) := by decide +kernel
theorem dX8_sum_1 : decode cX8_sum 1 = .ok (.istore_n 2, 1) := by decide +kernel
theorem dX8_sum_2 : decode cX8_sum 2 = .ok (.iconst 0, 1) := by decide +kernel
theorem dX8_sum_3 : decode cX8_sum 3 = .ok (.istore_n 3, 1) := by decide +kernel
theorem dX8_sum_4 : decode cX8_sum 4 = .ok (.iload_n 3, 1) := by decide +kernel
theorem dX8_sum_5 : decode cX8_sum 5 = .ok (.aload_n 0, 1) := by decide +kernel
theorem dX8_sum_6 : decode cX8_sum 6 = .ok (.getfield 7, 3) := by decide +kernel
theorem dX8_sum_9 : decode cX8_sum 9 = .ok (.iconst 5, 1) := by decide +kernel
theorem dX8_sum_10 : decode cX8_sum 10 = .ok (.iaload, 1) := by decide +kernel
theorem dX8_sum_11 : decode cX8_sum 11 = .ok (.if_icmp .ge 30, 3) := by decide +kernel
theorem dX8_sum_14 : decode cX8_sum 14 = .ok (.iload_n 2, 1) := by decide +kernel
theorem dX8_sum_15 : decode cX8_sum 15 = .ok (.iload_n 1, 1) := by decide +kernel
theorem dX8_sum_16 : decode cX8_sum 16 = .ok (.ifCond .ne 11, 3) := by decide +kernel
theorem dX8_sum_19 : decode cX8_sum 19 = .ok (.aload_n 0, 1) := by decide +kernel
theorem dX8_sum_20 : decode cX8_sum 20 = .ok (.iload_n 3, 1) := by decide +kernel
theorem dX8_sum_21 : decode cX8_sum 21 = .ok (.invokevirtual 155, 3) := by decide +kernel
theorem dX8_sum_24 : decode cX8_sum 24 = .ok (.goto 9, 3) := by decide +kernel
theorem dX8_sum_27 : decode cX8_sum 27 = .ok (.aload_n 0, 1) := by decide +kernel
theorem dX8_sum_28 : decode cX8_sum 28 = .ok (.iload_n 3, 1) := by decide +kernel
theorem dX8_sum_29 : decode cX8_sum 29 = .ok (.iload_n 1, 1) := by decide +kernel
theorem dX8_sum_30 : decode cX8_sum 30 = .ok (.invokevirtual 46, 3) := by decide +kernel
theorem dX8_sum_33 : decode cX8_sum 33 = .ok (.iadd, 1) := by decide +kernel
theorem dX8_sum_34 : decode cX8_sum 34 = .ok (.istore_n 2, 1) := by decide +kernel
theorem dX8_sum_35 : decode cX8_sum 35 = .ok (.iinc 3 1, 3) := by decide +kernel
theorem dX8_sum_38 : decode cX8_sum 38 = .ok (.goto (-34), 3) := by decide +kernel
theorem dX8_sum_41 : decode cX8_sum 41 = .ok (.iload_n 2, 1) := by decide +kernel
theorem dX8_sum_42 : decode cX8_sum 42 = .ok (.ireturn, 1) := by decide +kernel
theorem dX8_count_0 : decode cX8_count 0 = .ok (.iload_n 1, 1) := by decide +kernel
theorem dX8_count_1 : decode cX8_count 1 = .ok (.iconst 0, 1) := by decide +kernel
theorem dX8_count_2 : decode cX8_count 2 = .ok (.iconst 3, 1) := by decide +kernel
theorem dX8_count_3 : decode cX8_count 3 = .ok (.invokestatic 38, 3) := by decide +kernel
theorem dX8_count_6 : decode cX8_count 6 = .ok (.ifCond .eq 12, 3) := by decide +kernel
theorem dX8_count_9 : decode cX8_count 9 = .ok (.aload_n 0, 1) := by decide +kernel
theorem dX8_count_10 : decode cX8_count 10 = .ok (.getfield 7, 3) := by decide +kernel
theorem dX8_count_13 : decode cX8_count 13 = .ok (.iconst 4, 1) := by decide +kernel
theorem dX8_count_14 : decode cX8_count 14 = .ok (.iload_n 1, 1) := by decide +kernel
theorem dX8_count_15 : decode cX8_count 15 = .ok (.iadd, 1) := by decide +kernel
theorem dX8_count_16 : decode cX8_count 16 = .ok (.iaload, 1) := by decide +kernel
theorem dX8_count_17 : decode cX8_count 17 = .ok (.ireturn, 1) := by decide +kernel
theorem dX8_count_18 : decode cX8_count 18 = .ok (.iload_n 1, 1) := by decide +kernel
theorem dX8_count_19 : decode cX8_count 19 = .ok (.iconst 4, 1) := by decide +kernel
theorem dX8_count_20 : decode cX8_count 20 = .ok (.bipush 7, 2) := by decide +kernel
theorem dX8_count_22 : decode cX8_count 22 = .ok (.invokestatic 38, 3) := by decide +kernel
theorem dX8_count_25 : decode cX8_count 25 = .ok (.ifCond .eq 11, 3) := by decide +kernel
theorem dX8_count_28 : decode cX8_count 28 = .ok (.aload_n 0, 1) := by decide +kernel
theorem dX8_count_29 : decode cX8_count 29 = .ok (.iload_n 1, 1) := by decide +kernel
theorem dX8_count_30 : decode cX8_count 30 = .ok (.iconst 4, 1) := by decide +kernel
theorem dX8_count_31 : decode cX8_count 31 = .ok (.isub, 1) := by decide +kernel
theorem dX8_count_32 : decode cX8_count 32 = .ok (.invokevirtual 175, 3) := by decide +kernel
theorem dX8_count_35 : decode cX8_count 35 = .ok (.ireturn, 1) := by decide +kernel
theorem dX8_count_36 : decode cX8_count 36 = .ok (.iload_n 1, 1) := by decide +kernel
theorem dX8_count_37 : decode cX8_count 37 = .ok (.bipush 8, 2) := by decide +kernel
theorem dX8_count_39 : decode cX8_count 39 = .ok (.bipush 11, 2) := by decide +kernel
theorem dX8_count_41 : decode cX8_count 41 = .ok (.invokestatic 38, 3) := by decide +kernel
theorem dX8_count_44 : decode cX8_count 44 = .ok (.ifCond .eq 15, 3) := by decide +kernel
theorem dX8_count_47 : decode cX8_count 47 = .ok (.aload_n 0, 1) := by decide +kernel
theorem dX8_count_48 : decode cX8_count 48 = .ok (.getfield 7, 3) := by decide +kernel
theorem dX8_count_51 : decode cX8_count 51 = .ok (.iload_n 1, 1) := by decide +kernel
theorem dX8_count_52 : decode cX8_count 52 = .ok (.bipush 8, 2) := by decide +kernel
theorem dX8_count_54 : decode cX8_count 54 = .ok (.isub, 1) := by decide +kernel
theorem dX8_count_55 : decode cX8_count 55 = .ok (.iaload, 1) := by decide +kernel
theorem dX8_count_56 : decode cX8_count 56 = .ok (.goto 31, 3) := by decide +kernel
theorem dX8_count_59 : decode cX8_count 59 = .ok (.iload_n 1, 1) := by decide +kernel
theorem dX8_count_60 : decode cX8_count 60 = .ok (.bipush 12, 2) := by decide +kernel
theorem dX8_count_62 : decode cX8_count 62 = .ok (.if_icmp .ne 10, 3) := by decide +kernel
theorem dX8_count_65 : decode cX8_count 65 = .ok (.aload_n 0, 1) := by decide +kernel
theorem dX8_count_66 : decode cX8_count 66 = .ok (.getfield 178, 3) := by decide +kernel
theorem dX8_count_69 : decode cX8_count 69 = .ok (.goto 18, 3) := by decide +kernel
theorem dX8_count_72 : decode cX8_count 72 = .ok (.iload_n 1, 1) := by decide +kernel
theorem dX8_count_73 : decode cX8_count 73 = .ok (.bipush 13, 2) := by decide +kernel
theorem dX8_count_75 : decode cX8_count 75 = .ok (.if_icmp .ne 10, 3) := by decide +kernel
theorem dX8_count_78 : decode cX8_count 78 = .ok (.aload_n 0, 1) := by decide +kernel
theorem dX8_count_79 : decode cX8_count 79 = .ok (.getfield 50, 3) := by decide +kernel
theorem dX8_count_82 : decode cX8_count 82 = .ok (.goto 5, 3) := by decide +kernel
theorem dX8_count_85 : decode cX8_count 85 = .ok (.bipush (-2), 2) := by decide +kernel
theorem dX8_count_87 : decode cX8_count 87 = .ok (.ireturn, 1) := by decide +kernel
theorem dX8_valueIn_0 : decode cX8_valueIn 0 = .ok (.aload_n 0, 1) := by decide +kernel
theorem dX8_valueIn_1 : decode cX8_valueIn 1 = .ok (.iload_n 1, 1) := by decide +kernel
theorem dX8_valueIn_2 : decode cX8_valueIn 2 = .ok (.iload_n 2, 1) := by decide +kernel
theorem dX8_valueIn_3 : decode cX8_valueIn 3 = .ok (.invokevirtual 130, 3) := by decide +kernel
theorem dX8_valueIn_6 : decode cX8_valueIn 6 = .ok (.ifCond .ne 5, 3) := by decide +kernel
theorem dX8_valueIn_9 : decode cX8_valueIn 9 = .ok (.iconst (-1), 1) := by decide +kernel
theorem dX8_valueIn_10 : decode cX8_valueIn 10 = .ok (.ireturn, 1) := by decide +kernel
theorem dX8_valueIn_11 : decode cX8_valueIn 11 = .ok (.iload_n 3, 1) := by decide +kernel
theorem dX8_valueIn_12 : decode cX8_valueIn 12 = .ok (.iconst 1, 1) := by decide +kernel
theorem dX8_valueIn_13 : decode cX8_valueIn 13 = .ok (.sipush 200, 3) := by decide +kernel
theorem dX8_valueIn_16 : decode cX8_valueIn 16 = .ok (.invokestatic 38, 3) := by decide +kernel
theorem dX8_valueIn_19 : decode cX8_valueIn 19 = .ok (.ifCond .ne 6, 3) := by decide +kernel
theorem dX8_valueIn_22 : decode cX8_valueIn 22 = .ok (.bipush (-2), 2) := by decide +kernel
theorem dX8_valueIn_24 : decode cX8_valueIn 24 = .ok (.ireturn, 1) := by decide +kernel
theorem dX8_valueIn_25 : decode cX8_valueIn 25 = .ok (.aload_n 0, 1) := by decide +kernel
theorem dX8_valueIn_26 : decode cX8_valueIn 26 = .ok (.invokevirtual 181, 3) := by decide +kernel
theorem dX8_valueIn_29 : decode cX8_valueIn 29 = .ok (.aload_n 0, 1) := by decide +kernel
theorem dX8_valueIn_30 : decode cX8_valueIn 30 = .ok (.iload_n 3, 1) := by decide +kernel
theorem dX8_valueIn_31 : decode cX8_valueIn 31 = .ok (.invokevirtual 162, 3) := by decide +kernel
theorem dX8_valueIn_34 : decode cX8_valueIn 34 = .ok (.aload_n 0, 1) := by decide +kernel
theorem dX8_valueIn_35 : decode cX8_valueIn 35 = .ok (.getfield 7, 3) := by decide +kernel
theorem dX8_valueIn_38 : decode cX8_valueIn 38 = .ok (.iload_n 1, 1) := by decide +kernel
theorem dX8_valueIn_39 : decode cX8_valueIn 39 = .ok (.iload_n 2, 1) := by decide +kernel
theorem dX8_valueIn_40 : decode cX8_valueIn 40 = .ok (.invokestatic 68, 3) := by decide +kernel
theorem dX8_valueIn_43 : decode cX8_valueIn 43 = .ok (.iaload, 1) := by decide +kernel
theorem dX8_valueIn_44 : decode cX8_valueIn 44 = .ok (.istore 4, 2) := by decide +kernel
theorem dX8_valueIn_46 : decode cX8_valueIn 46 = .ok (.aload_n 0, 1) := by decide +kernel
theorem dX8_valueIn_47 : decode cX8_valueIn 47 = .ok (.invokevirtual 184, 3) := by decide +kernel
theorem dX8_valueIn_50 : decode cX8_valueIn 50 = .ok (.iload 4, 2) := by decide +kernel
theorem dX8_valueIn_52 : decode cX8_valueIn 52 = .ok (.ireturn, 1) := by decide +kernel
theorem dX8_leftIn_0 : decode cX8_leftIn 0 = .ok (.iload_n 1, 1) := by decide +kernel
theorem dX8_leftIn_1 : decode cX8_leftIn 1 = .ok (.iconst 1, 1) := by decide +kernel
theorem dX8_leftIn_2 : decode cX8_leftIn 2 = .ok (.sipush 200, 3) := by decide +kernel
theorem dX8_leftIn_5 : decode cX8_leftIn 5 = .ok (.invokestatic 38, 3) := by decide +kernel
theorem dX8_leftIn_8 : decode cX8_leftIn 8 = .ok (.ifCond .ne 6, 3) := by decide +kernel
theorem dX8_leftIn_11 : decode cX8_leftIn 11 = .ok (.bipush (-2), 2) := by decide +kernel
theorem dX8_leftIn_13 : decode cX8_leftIn 13 = .ok (.ireturn, 1) := by decide +kernel
theorem dX8_leftIn_14 : decode cX8_leftIn 14 = .ok (.aload_n 0, 1) := by decide +kernel
theorem dX8_leftIn_15 : decode cX8_leftIn 15 = .ok (.invokevirtual 181, 3) := by decide +kernel
theorem dX8_leftIn_18 : decode cX8_leftIn 18 = .ok (.aload_n 0, 1) := by decide +kernel
theorem dX8_leftIn_19 : decode cX8_leftIn 19 = .ok (.iload_n 1, 1) := by decide +kernel
theorem dX8_leftIn_20 : decode cX8_leftIn 20 = .ok (.invokevirtual 162, 3) := by decide +kernel
theorem dX8_leftIn_23 : decode cX8_leftIn 23 = .ok (.aload_n 0, 1) := by decide +kernel
theorem dX8_leftIn_24 : decode cX8_leftIn 24 = .ok (.iconst 0, 1) := by decide +kernel
theorem dX8_leftIn_25 : decode cX8_leftIn 25 = .ok (.invokevirtual 175, 3) := by decide +kernel
theorem dX8_leftIn_28 : decode cX8_leftIn 28 = .ok (.istore_n 2, 1) := by decide +kernel
theorem dX8_leftIn_29 : decode cX8_leftIn 29 = .ok (.aload_n 0, 1) := by decide +kernel
theorem dX8_leftIn_30 : decode cX8_leftIn 30 = .ok (.invokevirtual 184, 3) := by decide +kernel
theorem dX8_leftIn_33 : decode cX8_leftIn 33 = .ok (.iload_n 2, 1) := by decide +kernel
theorem dX8_leftIn_34 : decode cX8_leftIn 34 = .ok (.ireturn, 1) := by decide +kernel
theorem dX8_lossWithin_0 : decode cX8_lossWithin 0 = .ok (.aload_n 0, 1) := by decide +kernel
theorem dX8_lossWithin_1 : decode cX8_lossWithin 1 = .ok (.invokevirtual 181, 3) := by decide +kernel
theorem dX8_lossWithin_4 : decode cX8_lossWithin 4 = .ok (.aload_n 0, 1) := by decide +kernel
theorem dX8_lossWithin_5 : decode cX8_lossWithin 5 = .ok (.iconst 2, 1) := by decide +kernel
theorem dX8_lossWithin_6 : decode cX8_lossWithin 6 = .ok (.invokevirtual 175, 3) := by decide +kernel
theorem dX8_lossWithin_9 : decode cX8_lossWithin 9 = .ok (.istore_n 2, 1) := by decide +kernel
theorem dX8_lossWithin_10 : decode cX8_lossWithin 10 = .ok (.iconst 0, 1) := by decide +kernel
theorem dX8_lossWithin_11 : decode cX8_lossWithin 11 = .ok (.istore_n 3, 1) := by decide +kernel
theorem dX8_lossWithin_12 : decode cX8_lossWithin 12 = .ok (.iload_n 3, 1) := by decide +kernel
theorem dX8_lossWithin_13 : decode cX8_lossWithin 13 = .ok (.iload_n 1, 1) := by decide +kernel
theorem dX8_lossWithin_14 : decode cX8_lossWithin 14 = .ok (.if_icmp .gt 22, 3) := by decide +kernel
theorem dX8_lossWithin_17 : decode cX8_lossWithin 17 = .ok (.aload_n 0, 1) := by decide +kernel
theorem dX8_lossWithin_18 : decode cX8_lossWithin 18 = .ok (.iconst 2, 1) := by decide +kernel
theorem dX8_lossWithin_19 : decode cX8_lossWithin 19 = .ok (.invokevirtual 175, 3) := by decide +kernel
theorem dX8_lossWithin_22 : decode cX8_lossWithin 22 = .ok (.iload_n 2, 1) := by decide +kernel
theorem dX8_lossWithin_23 : decode cX8_lossWithin 23 = .ok (.if_icmp .ne 13, 3) := by decide +kernel
theorem dX8_lossWithin_26 : decode cX8_lossWithin 26 = .ok (.aload_n 0, 1) := by decide +kernel
theorem dX8_lossWithin_27 : decode cX8_lossWithin 27 = .ok (.invokevirtual 120, 3) := by decide +kernel
theorem dX8_lossWithin_30 : decode cX8_lossWithin 30 = .ok (.iinc 3 1, 3) := by decide +kernel
theorem dX8_lossWithin_33 : decode cX8_lossWithin 33 = .ok (.goto (-21), 3) := by decide +kernel
theorem dX8_lossWithin_36 : decode cX8_lossWithin 36 = .ok (.aload_n 0, 1) := by decide +kernel
theorem dX8_lossWithin_37 : decode cX8_lossWithin 37 = .ok (.invokevirtual 184, 3) := by decide +kernel
theorem dX8_lossWithin_40 : decode cX8_lossWithin 40 = .ok (.iload_n 3, 1) := by decide +kernel
theorem dX8_lossWithin_41 : decode cX8_lossWithin 41 = .ok (.ireturn, 1) := by decide +kernel
theorem dX8_firstLoss_0 : decode cX8_firstLoss 0 = .ok (.aload_n 0, 1) := by decide +kernel
theorem dX8_firstLoss_1 : decode cX8_firstLoss 1 = .ok (.sipush 300, 3) := by decide +kernel
theorem dX8_firstLoss_4 : decode cX8_firstLoss 4 = .ok (.invokevirtual 187, 3) := by decide +kernel
theorem dX8_firstLoss_7 : decode cX8_firstLoss 7 = .ok (.istore_n 1, 1) := by decide +kernel
theorem dX8_firstLoss_8 : decode cX8_firstLoss 8 = .ok (.iload_n 1, 1) := by decide +kernel
theorem dX8_firstLoss_9 : decode cX8_firstLoss 9 = .ok (.sipush 300, 3) := by decide +kernel
theorem dX8_firstLoss_12 : decode cX8_firstLoss 12 = .ok (.if_icmp .le 8, 3) := by decide +kernel
theorem dX8_firstLoss_15 : decode cX8_firstLoss 15 = .ok (.bipush (-6), 2) := by decide +kernel
theorem dX8_firstLoss_17 : decode cX8_firstLoss 17 = .ok (.goto 4, 3) := by decide +kernel
theorem dX8_firstLoss_20 : decode cX8_firstLoss 20 = .ok (.iload_n 1, 1) := by decide +kernel
theorem dX8_firstLoss_21 : decode cX8_firstLoss 21 = .ok (.ireturn, 1) := by decide +kernel
theorem dX8_bestPlace_0 : decode cX8_bestPlace 0 = .ok (.aload_n 0, 1) := by decide +kernel
theorem dX8_bestPlace_1 : decode cX8_bestPlace 1 = .ok (.iload_n 1, 1) := by decide +kernel
theorem dX8_bestPlace_2 : decode cX8_bestPlace 2 = .ok (.invokevirtual 42, 3) := by decide +kernel
theorem dX8_bestPlace_5 : decode cX8_bestPlace 5 = .ok (.ifCond .ne 5, 3) := by decide +kernel
theorem dX8_bestPlace_8 : decode cX8_bestPlace 8 = .ok (.iconst (-1), 1) := by decide +kernel
theorem dX8_bestPlace_9 : decode cX8_bestPlace 9 = .ok (.ireturn, 1) := by decide +kernel
theorem dX8_bestPlace_10 : decode cX8_bestPlace 10 = .ok (.iload_n 2, 1) := by decide +kernel
theorem dX8_bestPlace_11 : decode cX8_bestPlace 11 = .ok (.iconst 1, 1) := by decide +kernel
theorem dX8_bestPlace_12 : decode cX8_bestPlace 12 = .ok (.sipush 500, 3) := by decide +kernel
theorem dX8_bestPlace_15 : decode cX8_bestPlace 15 = .ok (.invokestatic 38, 3) := by decide +kernel
theorem dX8_bestPlace_18 : decode cX8_bestPlace 18 = .ok (.ifCond .eq 24, 3) := by decide +kernel
theorem dX8_bestPlace_21 : decode cX8_bestPlace 21 = .ok (.iload_n 3, 1) := by decide +kernel
theorem dX8_bestPlace_22 : decode cX8_bestPlace 22 = .ok (.iconst 1, 1) := by decide +kernel
theorem dX8_bestPlace_23 : decode cX8_bestPlace 23 = .ok (.sipush 2000, 3) := by decide +kernel
theorem dX8_bestPlace_26 : decode cX8_bestPlace 26 = .ok (.invokestatic 38, 3) := by decide +kernel
theorem dX8_bestPlace_29 : decode cX8_bestPlace 29 = .ok (.ifCond .eq 13, 3) := by decide +kernel
theorem dX8_bestPlace_32 : decode cX8_bestPlace 32 = .ok (.iload 4, 2) := by decide +kernel
theorem dX8_bestPlace_34 : decode cX8_bestPlace 34 = .ok (.iconst 0, 1) := by decide +kernel
theorem dX8_bestPlace_35 : decode cX8_bestPlace 35 = .ok (.iconst 1, 1) := by decide +kernel
theorem dX8_bestPlace_36 : decode cX8_bestPlace 36 = .ok (.invokestatic 38, 3) := by decide +kernel
theorem dX8_bestPlace_39 : decode cX8_bestPlace 39 = .ok (.ifCond .ne 6, 3) := by decide +kernel
theorem dX8_bestPlace_42 : decode cX8_bestPlace 42 = .ok (.bipush (-2), 2) := by decide +kernel
theorem dX8_bestPlace_44 : decode cX8_bestPlace 44 = .ok (.ireturn, 1) := by decide +kernel
theorem dX8_bestPlace_45 : decode cX8_bestPlace 45 = .ok (.aload_n 0, 1) := by decide +kernel
theorem dX8_bestPlace_46 : decode cX8_bestPlace 46 = .ok (.getfield 7, 3) := by decide +kernel
theorem dX8_bestPlace_49 : decode cX8_bestPlace 49 = .ok (.bipush 6, 2) := by decide +kernel
theorem dX8_bestPlace_51 : decode cX8_bestPlace 51 = .ok (.iaload, 1) := by decide +kernel
theorem dX8_bestPlace_52 : decode cX8_bestPlace 52 = .ok (.bipush 12, 2) := by decide +kernel
theorem dX8_bestPlace_54 : decode cX8_bestPlace 54 = .ok (.if_icmp .ne 6, 3) := by decide +kernel
theorem dX8_bestPlace_57 : decode cX8_bestPlace 57 = .ok (.bipush (-4), 2) := by decide +kernel
theorem dX8_bestPlace_59 : decode cX8_bestPlace 59 = .ok (.ireturn, 1) := by decide +kernel
theorem dX8_bestPlace_60 : decode cX8_bestPlace 60 = .ok (.bipush (-6), 2) := by decide +kernel
theorem dX8_bestPlace_62 : decode cX8_bestPlace 62 = .ok (.istore 5, 2) := by decide +kernel
theorem dX8_bestPlace_64 : decode cX8_bestPlace 64 = .ok (.iconst 0, 1) := by decide +kernel
theorem dX8_bestPlace_65 : decode cX8_bestPlace 65 = .ok (.istore 6, 2) := by decide +kernel
theorem dX8_bestPlace_67 : decode cX8_bestPlace 67 = .ok (.iconst 0, 1) := by decide +kernel
theorem dX8_bestPlace_68 : decode cX8_bestPlace 68 = .ok (.istore 7, 2) := by decide +kernel
theorem dX8_bestPlace_70 : decode cX8_bestPlace 70 = .ok (.iload 7, 2) := by decide +kernel
theorem dX8_bestPlace_72 : decode cX8_bestPlace 72 = .ok (.aload_n 0, 1) := by decide +kernel
theorem dX8_bestPlace_73 : decode cX8_bestPlace 73 = .ok (.iload_n 1, 1) := by decide +kernel
theorem dX8_bestPlace_74 : decode cX8_bestPlace 74 = .ok (.iconst 0, 1) := by decide +kernel
theorem dX8_bestPlace_75 : decode cX8_bestPlace 75 = .ok (.invokevirtual 46, 3) := by decide +kernel
theorem dX8_bestPlace_78 : decode cX8_bestPlace 78 = .ok (.if_icmp .ge 60, 3) := by decide +kernel
theorem dX8_bestPlace_81 : decode cX8_bestPlace 81 = .ok (.aload_n 0, 1) := by decide +kernel
theorem dX8_bestPlace_82 : decode cX8_bestPlace 82 = .ok (.invokevirtual 181, 3) := by decide +kernel
theorem dX8_bestPlace_85 : decode cX8_bestPlace 85 = .ok (.aload_n 0, 1) := by decide +kernel
theorem dX8_bestPlace_86 : decode cX8_bestPlace 86 = .ok (.iload_n 1, 1) := by decide +kernel
theorem dX8_bestPlace_87 : decode cX8_bestPlace 87 = .ok (.iload 7, 2) := by decide +kernel
theorem dX8_bestPlace_89 : decode cX8_bestPlace 89 = .ok (.iconst 0, 1) := by decide +kernel
theorem dX8_bestPlace_90 : decode cX8_bestPlace 90 = .ok (.iload_n 2, 1) := by decide +kernel
theorem dX8_bestPlace_91 : decode cX8_bestPlace 91 = .ok (.iload_n 3, 1) := by decide +kernel
theorem dX8_bestPlace_92 : decode cX8_bestPlace 92 = .ok (.invokevirtual 137, 3) := by decide +kernel
theorem dX8_bestPlace_95 : decode cX8_bestPlace 95 = .ok (.aload_n 0, 1) := by decide +kernel
theorem dX8_bestPlace_96 : decode cX8_bestPlace 96 = .ok (.bipush 100, 2) := by decide +kernel
theorem dX8_bestPlace_98 : decode cX8_bestPlace 98 = .ok (.invokevirtual 162, 3) := by decide +kernel
theorem dX8_bestPlace_101 : decode cX8_bestPlace 101 = .ok (.aload_n 0, 1) := by decide +kernel
theorem dX8_bestPlace_102 : decode cX8_bestPlace 102 = .ok (.iconst 0, 1) := by decide +kernel
theorem dX8_bestPlace_103 : decode cX8_bestPlace 103 = .ok (.invokevirtual 175, 3) := by decide +kernel
theorem dX8_bestPlace_106 : decode cX8_bestPlace 106 = .ok (.istore 8, 2) := by decide +kernel
theorem dX8_bestPlace_108 : decode cX8_bestPlace 108 = .ok (.aload_n 0, 1) := by decide +kernel
theorem dX8_bestPlace_109 : decode cX8_bestPlace 109 = .ok (.invokevirtual 184, 3) := by decide +kernel
theorem dX8_bestPlace_112 : decode cX8_bestPlace 112 = .ok (.iload 5, 2) := by decide +kernel
theorem dX8_bestPlace_114 : decode cX8_bestPlace 114 = .ok (.ifCond .lt 10, 3) := by decide +kernel
theorem dX8_bestPlace_117 : decode cX8_bestPlace 117 = .ok (.iload 8, 2) := by decide +kernel
theorem dX8_bestPlace_119 : decode cX8_bestPlace 119 = .ok (.iload 6, 2) := by decide +kernel
theorem dX8_bestPlace_121 : decode cX8_bestPlace 121 = .ok (.if_icmp .le 11, 3) := by decide +kernel
theorem dX8_bestPlace_124 : decode cX8_bestPlace 124 = .ok (.iload 7, 2) := by decide +kernel
theorem dX8_bestPlace_126 : decode cX8_bestPlace 126 = .ok (.istore 5, 2) := by decide +kernel
theorem dX8_bestPlace_128 : decode cX8_bestPlace 128 = .ok (.iload 8, 2) := by decide +kernel
theorem dX8_bestPlace_130 : decode cX8_bestPlace 130 = .ok (.istore 6, 2) := by decide +kernel
theorem dX8_bestPlace_132 : decode cX8_bestPlace 132 = .ok (.iinc 7 1, 3) := by decide +kernel
theorem dX8_bestPlace_135 : decode cX8_bestPlace 135 = .ok (.goto (-65), 3) := by decide +kernel
theorem dX8_bestPlace_138 : decode cX8_bestPlace 138 = .ok (.iload 4, 2) := by decide +kernel
theorem dX8_bestPlace_140 : decode cX8_bestPlace 140 = .ok (.ifCond .ne 8, 3) := by decide +kernel
theorem dX8_bestPlace_143 : decode cX8_bestPlace 143 = .ok (.iload 5, 2) := by decide +kernel
theorem dX8_bestPlace_145 : decode cX8_bestPlace 145 = .ok (.goto 5, 3) := by decide +kernel
theorem dX8_bestPlace_148 : decode cX8_bestPlace 148 = .ok (.iload 6, 2) := by decide +kernel
theorem dX8_bestPlace_150 : decode cX8_bestPlace 150 = .ok (.ireturn, 1) := by decide +kernel
theorem dX8_bearable_0 : decode cX8_bearable 0 = .ok (.aload_n 0, 1) := by decide +kernel
theorem dX8_bearable_1 : decode cX8_bearable 1 = .ok (.getfield 7, 3) := by decide +kernel
theorem dX8_bearable_4 : decode cX8_bearable 4 = .ok (.iconst 0, 1) := by decide +kernel
theorem dX8_bearable_5 : decode cX8_bearable 5 = .ok (.iaload, 1) := by decide +kernel
theorem dX8_bearable_6 : decode cX8_bearable 6 = .ok (.istore_n 1, 1) := by decide +kernel
theorem dX8_bearable_7 : decode cX8_bearable 7 = .ok (.bipush (-6), 2) := by decide +kernel
theorem dX8_bearable_9 : decode cX8_bearable 9 = .ok (.istore_n 2, 1) := by decide +kernel
theorem dX8_bearable_10 : decode cX8_bearable 10 = .ok (.bipush 50, 2) := by decide +kernel
theorem dX8_bearable_12 : decode cX8_bearable 12 = .ok (.istore_n 3, 1) := by decide +kernel
theorem dX8_bearable_13 : decode cX8_bearable 13 = .ok (.iload_n 3, 1) := by decide +kernel
theorem dX8_bearable_14 : decode cX8_bearable 14 = .ok (.ifCond .lt 38, 3) := by decide +kernel
theorem dX8_bearable_17 : decode cX8_bearable 17 = .ok (.iload_n 2, 1) := by decide +kernel
theorem dX8_bearable_18 : decode cX8_bearable 18 = .ok (.ifCond .ge 34, 3) := by decide +kernel
theorem dX8_bearable_21 : decode cX8_bearable 21 = .ok (.aload_n 0, 1) := by decide +kernel
theorem dX8_bearable_22 : decode cX8_bearable 22 = .ok (.getfield 7, 3) := by decide +kernel
theorem dX8_bearable_25 : decode cX8_bearable 25 = .ok (.iconst 0, 1) := by decide +kernel
theorem dX8_bearable_26 : decode cX8_bearable 26 = .ok (.iload_n 3, 1) := by decide +kernel
theorem dX8_bearable_27 : decode cX8_bearable 27 = .ok (.iastore, 1) := by decide +kernel
theorem dX8_bearable_28 : decode cX8_bearable 28 = .ok (.aload_n 0, 1) := by decide +kernel
theorem dX8_bearable_29 : decode cX8_bearable 29 = .ok (.bipush 100, 2) := by decide +kernel
theorem dX8_bearable_31 : decode cX8_bearable 31 = .ok (.invokevirtual 187, 3) := by decide +kernel
theorem dX8_bearable_34 : decode cX8_bearable 34 = .ok (.bipush 100, 2) := by decide +kernel
theorem dX8_bearable_36 : decode cX8_bearable 36 = .ok (.if_icmp .le 7, 3) := by decide +kernel
theorem dX8_bearable_39 : decode cX8_bearable 39 = .ok (.iload_n 3, 1) := by decide +kernel
theorem dX8_bearable_40 : decode cX8_bearable 40 = .ok (.goto 5, 3) := by decide +kernel
theorem dX8_bearable_43 : decode cX8_bearable 43 = .ok (.bipush (-6), 2) := by decide +kernel
theorem dX8_bearable_45 : decode cX8_bearable 45 = .ok (.istore_n 2, 1) := by decide +kernel
theorem dX8_bearable_46 : decode cX8_bearable 46 = .ok (.iinc 3 (-1), 3) := by decide +kernel
theorem dX8_bearable_49 : decode cX8_bearable 49 = .ok (.goto (-36), 3) := by decide +kernel
theorem dX8_bearable_52 : decode cX8_bearable 52 = .ok (.aload_n 0, 1) := by decide +kernel
theorem dX8_bearable_53 : decode cX8_bearable 53 = .ok (.getfield 7, 3) := by decide +kernel
theorem dX8_bearable_56 : decode cX8_bearable 56 = .ok (.iconst 0, 1) := by decide +kernel
theorem dX8_bearable_57 : decode cX8_bearable 57 = .ok (.iload_n 1, 1) := by decide +kernel
theorem dX8_bearable_58 : decode cX8_bearable 58 = .ok (.iastore, 1) := by decide +kernel
theorem dX8_bearable_59 : decode cX8_bearable 59 = .ok (.iload_n 2, 1) := by decide +kernel
theorem dX8_bearable_60 : decode cX8_bearable 60 = .ok (.ireturn, 1) := by decide +kernel
theorem dX8_put_0 : decode cX8_put 0 = .ok (.iconst 0, 1) := by decide +kernel
theorem dX8_put_1 : decode cX8_put 1 = .ok (.istore_n 3, 1) := by decide +kernel
theorem dX8_put_2 : decode cX8_put 2 = .ok (.lload_n 1, 1) := by decide +kernel
theorem dX8_put_3 : decode cX8_put 3 = .ok (.lstore 4, 2) := by decide +kernel
theorem dX8_put_5 : decode cX8_put 5 = .ok (.iload_n 3, 1) := by decide +kernel
theorem dX8_put_6 : decode cX8_put 6 = .ok (.bipush 8, 2) := by decide +kernel
theorem dX8_put_8 : decode cX8_put 8 = .ok (.if_icmp .ge 47, 3) := by decide +kernel
theorem dX8_put_11 : decode cX8_put 11 = .ok (.lload 4, 2) := by decide +kernel
theorem dX8_put_13 : decode cX8_put 13 = .ok (.ldc2_w 190, 3) := by decide +kernel
theorem dX8_put_16 : decode cX8_put 16 = .ok (.land, 1) := by decide +kernel
theorem dX8_put_17 : decode cX8_put 17 = .ok (.lconst 0, 1) := by decide +kernel
theorem dX8_put_18 : decode cX8_put 18 = .ok (.lcmp, 1) := by decide +kernel
theorem dX8_put_19 : decode cX8_put 19 = .ok (.ifCond .eq 36, 3) := by decide +kernel
theorem dX8_put_22 : decode cX8_put 22 = .ok (.lload 4, 2) := by decide +kernel
theorem dX8_put_24 : decode cX8_put 24 = .ok (.ldc2_w 190, 3) := by decide +kernel
theorem dX8_put_27 : decode cX8_put 27 = .ok (.land, 1) := by decide +kernel
theorem dX8_put_28 : decode cX8_put 28 = .ok (.l2i, 1) := by decide +kernel
theorem dX8_put_29 : decode cX8_put 29 = .ok (.bipush 33, 2) := by decide +kernel
theorem dX8_put_31 : decode cX8_put 31 = .ok (.bipush 126, 2) := by decide +kernel
theorem dX8_put_33 : decode cX8_put 33 = .ok (.invokestatic 38, 3) := by decide +kernel
theorem dX8_put_36 : decode cX8_put 36 = .ok (.ifCond .ne 6, 3) := by decide +kernel
theorem dX8_put_39 : decode cX8_put 39 = .ok (.bipush (-2), 2) := by decide +kernel
theorem dX8_put_41 : decode cX8_put 41 = .ok (.ireturn, 1) := by decide +kernel
theorem dX8_put_42 : decode cX8_put 42 = .ok (.iinc 3 1, 3) := by decide +kernel
theorem dX8_put_45 : decode cX8_put 45 = .ok (.lload 4, 2) := by decide +kernel
theorem dX8_put_47 : decode cX8_put 47 = .ok (.bipush 8, 2) := by decide +kernel
theorem dX8_put_49 : decode cX8_put 49 = .ok (.lushr, 1) := by decide +kernel
theorem dX8_put_50 : decode cX8_put 50 = .ok (.lstore 4, 2) := by decide +kernel
theorem dX8_put_52 : decode cX8_put 52 = .ok (.goto (-47), 3) := by decide +kernel
theorem dX8_put_55 : decode cX8_put 55 = .ok (.iload_n 3, 1) := by decide +kernel
theorem dX8_put_56 : decode cX8_put 56 = .ok (.ifCond .eq 10, 3) := by decide +kernel
theorem dX8_put_59 : decode cX8_put 59 = .ok (.lload 4, 2) := by decide +kernel
theorem dX8_put_61 : decode cX8_put 61 = .ok (.lconst 0, 1) := by decide +kernel
theorem dX8_put_62 : decode cX8_put 62 = .ok (.lcmp, 1) := by decide +kernel
theorem dX8_put_63 : decode cX8_put 63 = .ok (.ifCond .eq 6, 3) := by decide +kernel
theorem dX8_put_66 : decode cX8_put 66 = .ok (.bipush (-2), 2) := by decide +kernel
theorem dX8_put_68 : decode cX8_put 68 = .ok (.ireturn, 1) := by decide +kernel
theorem dX8_put_69 : decode cX8_put 69 = .ok (.aload_n 0, 1) := by decide +kernel
theorem dX8_put_70 : decode cX8_put 70 = .ok (.getfield 178, 3) := by decide +kernel
theorem dX8_put_73 : decode cX8_put 73 = .ok (.iload_n 3, 1) := by decide +kernel
theorem dX8_put_74 : decode cX8_put 74 = .ok (.iadd, 1) := by decide +kernel
theorem dX8_put_75 : decode cX8_put 75 = .ok (.bipush 80, 2) := by decide +kernel
theorem dX8_put_77 : decode cX8_put 77 = .ok (.if_icmp .le 6, 3) := by decide +kernel
theorem dX8_put_80 : decode cX8_put 80 = .ok (.bipush (-4), 2) := by decide +kernel
theorem dX8_put_82 : decode cX8_put 82 = .ok (.ireturn, 1) := by decide +kernel
theorem dX8_put_83 : decode cX8_put 83 = .ok (.iconst 0, 1) := by decide +kernel
theorem dX8_put_84 : decode cX8_put 84 = .ok (.istore 6, 2) := by decide +kernel
theorem dX8_put_86 : decode cX8_put 86 = .ok (.iload 6, 2) := by decide +kernel
theorem dX8_put_88 : decode cX8_put 88 = .ok (.iload_n 3, 1) := by decide +kernel
theorem dX8_put_89 : decode cX8_put 89 = .ok (.if_icmp .ge 37, 3) := by decide +kernel
theorem dX8_put_92 : decode cX8_put 92 = .ok (.aload_n 0, 1) := by decide +kernel
theorem dX8_put_93 : decode cX8_put 93 = .ok (.getfield 26, 3) := by decide +kernel
theorem dX8_put_96 : decode cX8_put 96 = .ok (.aload_n 0, 1) := by decide +kernel
theorem dX8_put_97 : decode cX8_put 97 = .ok (.getfield 178, 3) := by decide +kernel
theorem dX8_put_100 : decode cX8_put 100 = .ok (.iload 6, 2) := by decide +kernel
theorem dX8_put_102 : decode cX8_put 102 = .ok (.iadd, 1) := by decide +kernel
theorem dX8_put_103 : decode cX8_put 103 = .ok (.lload_n 1, 1) := by decide +kernel
theorem dX8_put_104 : decode cX8_put 104 = .ok (.bipush 8, 2) := by decide +kernel
theorem dX8_put_106 : decode cX8_put 106 = .ok (.iload_n 3, 1) := by decide +kernel
theorem dX8_put_107 : decode cX8_put 107 = .ok (.iconst 1, 1) := by decide +kernel
theorem dX8_put_108 : decode cX8_put 108 = .ok (.isub, 1) := by decide +kernel
theorem dX8_put_109 : decode cX8_put 109 = .ok (.iload 6, 2) := by decide +kernel
theorem dX8_put_111 : decode cX8_put 111 = .ok (.isub, 1) := by decide +kernel
theorem dX8_put_112 : decode cX8_put 112 = .ok (.imul, 1) := by decide +kernel
theorem dX8_put_113 : decode cX8_put 113 = .ok (.lshr, 1) := by decide +kernel
theorem dX8_put_114 : decode cX8_put 114 = .ok (.ldc2_w 190, 3) := by decide +kernel
theorem dX8_put_117 : decode cX8_put 117 = .ok (.land, 1) := by decide +kernel
theorem dX8_put_118 : decode cX8_put 118 = .ok (.l2i, 1) := by decide +kernel
theorem dX8_put_119 : decode cX8_put 119 = .ok (.iastore, 1) := by decide +kernel
theorem dX8_put_120 : decode cX8_put 120 = .ok (.iinc 6 1, 3) := by decide +kernel
theorem dX8_put_123 : decode cX8_put 123 = .ok (.goto (-37), 3) := by decide +kernel
theorem dX8_put_126 : decode cX8_put 126 = .ok (.aload_n 0, 1) := by decide +kernel
theorem dX8_put_127 : decode cX8_put 127 = .ok (.dup, 1) := by decide +kernel
theorem dX8_put_128 : decode cX8_put 128 = .ok (.getfield 178, 3) := by decide +kernel
theorem dX8_put_131 : decode cX8_put 131 = .ok (.iload_n 3, 1) := by decide +kernel
theorem dX8_put_132 : decode cX8_put 132 = .ok (.iadd, 1) := by decide +kernel
theorem dX8_put_133 : decode cX8_put 133 = .ok (.putfield 178, 3) := by decide +kernel
theorem dX8_put_136 : decode cX8_put 136 = .ok (.aload_n 0, 1) := by decide +kernel
theorem dX8_put_137 : decode cX8_put 137 = .ok (.getfield 178, 3) := by decide +kernel
theorem dX8_put_140 : decode cX8_put 140 = .ok (.ireturn, 1) := by decide +kernel
theorem dX8_wipe_0 : decode cX8_wipe 0 = .ok (.aload_n 0, 1) := by decide +kernel
theorem dX8_wipe_1 : decode cX8_wipe 1 = .ok (.getfield 178, 3) := by decide +kernel
theorem dX8_wipe_4 : decode cX8_wipe 4 = .ok (.istore_n 1, 1) := by decide +kernel
theorem dX8_wipe_5 : decode cX8_wipe 5 = .ok (.aload_n 0, 1) := by decide +kernel
theorem dX8_wipe_6 : decode cX8_wipe 6 = .ok (.iconst 0, 1) := by decide +kernel
theorem dX8_wipe_7 : decode cX8_wipe 7 = .ok (.putfield 178, 3) := by decide +kernel
theorem dX8_wipe_10 : decode cX8_wipe 10 = .ok (.iload_n 1, 1) := by decide +kernel
theorem dX8_wipe_11 : decode cX8_wipe 11 = .ok (.ireturn, 1) := by decide +kernel
theorem dX8_next_0 : decode cX8_next 0 = .ok (.aload_n 0, 1) := by decide +kernel
theorem dX8_next_1 : decode cX8_next 1 = .ok (.getfield 192, 3) := by decide +kernel
theorem dX8_next_4 : decode cX8_next 4 = .ok (.aload_n 0, 1) := by decide +kernel
theorem dX8_next_5 : decode cX8_next 5 = .ok (.getfield 178, 3) := by decide +kernel
theorem dX8_next_8 : decode cX8_next 8 = .ok (.if_icmp .ge 15, 3) := by decide +kernel
theorem dX8_next_11 : decode cX8_next 11 = .ok (.aload_n 0, 1) := by decide +kernel
theorem dX8_next_12 : decode cX8_next 12 = .ok (.getfield 26, 3) := by decide +kernel
theorem dX8_next_15 : decode cX8_next 15 = .ok (.aload_n 0, 1) := by decide +kernel
theorem dX8_next_16 : decode cX8_next 16 = .ok (.getfield 192, 3) := by decide +kernel
theorem dX8_next_19 : decode cX8_next 19 = .ok (.iaload, 1) := by decide +kernel
theorem dX8_next_20 : decode cX8_next 20 = .ok (.goto 4, 3) := by decide +kernel
theorem dX8_next_23 : decode cX8_next 23 = .ok (.iconst 0, 1) := by decide +kernel
theorem dX8_next_24 : decode cX8_next 24 = .ok (.ireturn, 1) := by decide +kernel
theorem dX8_takeSign_0 : decode cX8_takeSign 0 = .ok (.aload_n 0, 1) := by decide +kernel
theorem dX8_takeSign_1 : decode cX8_takeSign 1 = .ok (.aload_n 0, 1) := by decide +kernel
theorem dX8_takeSign_2 : decode cX8_takeSign 2 = .ok (.getfield 195, 3) := by decide +kernel
theorem dX8_takeSign_5 : decode cX8_takeSign 5 = .ok (.ifCond .ne 11, 3) := by decide +kernel
theorem dX8_takeSign_8 : decode cX8_takeSign 8 = .ok (.aload_n 0, 1) := by decide +kernel
theorem dX8_takeSign_9 : decode cX8_takeSign 9 = .ok (.invokevirtual 199, 3) := by decide +kernel
theorem dX8_takeSign_12 : decode cX8_takeSign 12 = .ok (.iload_n 1, 1) := by decide +kernel
theorem dX8_takeSign_13 : decode cX8_takeSign 13 = .ok (.if_icmp .eq 7, 3) := by decide +kernel
theorem dX8_takeSign_16 : decode cX8_takeSign 16 = .ok (.iconst 1, 1) := by decide +kernel
theorem dX8_takeSign_17 : decode cX8_takeSign 17 = .ok (.goto 4, 3) := by decide +kernel
theorem dX8_takeSign_20 : decode cX8_takeSign 20 = .ok (.iconst 0, 1) := by decide +kernel
theorem dX8_takeSign_21 : decode cX8_takeSign 21 = .ok (.putfield 195, 3) := by decide +kernel
theorem dX8_takeSign_24 : decode cX8_takeSign 24 = .ok (.aload_n 0, 1) := by decide +kernel
theorem dX8_takeSign_25 : decode cX8_takeSign 25 = .ok (.dup, 1) := by decide +kernel
theorem dX8_takeSign_26 : decode cX8_takeSign 26 = .ok (.getfield 192, 3) := by decide +kernel
theorem dX8_takeSign_29 : decode cX8_takeSign 29 = .ok (.aload_n 0, 1) := by decide +kernel
theorem dX8_takeSign_30 : decode cX8_takeSign 30 = .ok (.getfield 195, 3) := by decide +kernel
theorem dX8_takeSign_33 : decode cX8_takeSign 33 = .ok (.ifCond .eq 7, 3) := by decide +kernel
theorem dX8_takeSign_36 : decode cX8_takeSign 36 = .ok (.iconst 0, 1) := by decide +kernel
theorem dX8_takeSign_37 : decode cX8_takeSign 37 = .ok (.goto 4, 3) := by decide +kernel
theorem dX8_takeSign_40 : decode cX8_takeSign 40 = .ok (.iconst 1, 1) := by decide +kernel
theorem dX8_takeSign_41 : decode cX8_takeSign 41 = .ok (.iadd, 1) := by decide +kernel
theorem dX8_takeSign_42 : decode cX8_takeSign 42 = .ok (.putfield 192, 3) := by decide +kernel
theorem dX8_takeSign_45 : decode cX8_takeSign 45 = .ok (.return_, 1) := by decide +kernel
theorem dX8_takeNumber_0 : decode cX8_takeNumber 0 = .ok (.aload_n 0, 1) := by decide +kernel
theorem dX8_takeNumber_1 : decode cX8_takeNumber 1 = .ok (.aload_n 0, 1) := by decide +kernel
theorem dX8_takeNumber_2 : decode cX8_takeNumber 2 = .ok (.getfield 195, 3) := by decide +kernel
theorem dX8_takeNumber_5 : decode cX8_takeNumber 5 = .ok (.ifCond .ne 17, 3) := by decide +kernel
theorem dX8_takeNumber_8 : decode cX8_takeNumber 8 = .ok (.aload_n 0, 1) := by decide +kernel
theorem dX8_takeNumber_9 : decode cX8_takeNumber 9 = .ok (.invokevirtual 199, 3) := by decide +kernel
theorem dX8_takeNumber_12 : decode cX8_takeNumber 12 = .ok (.bipush 48, 2) := by decide +kernel
theorem dX8_takeNumber_14 : decode cX8_takeNumber 14 = .ok (.bipush 57, 2) := by decide +kernel
theorem dX8_takeNumber_16 : decode cX8_takeNumber 16 = .ok (.invokestatic 38, 3) := by decide +kernel
theorem dX8_takeNumber_19 : decode cX8_takeNumber 19 = .ok (.ifCond .ne 7, 3) := by decide +kernel
theorem dX8_takeNumber_22 : decode cX8_takeNumber 22 = .ok (.iconst 1, 1) := by decide +kernel
theorem dX8_takeNumber_23 : decode cX8_takeNumber 23 = .ok (.goto 4, 3) := by decide +kernel
theorem dX8_takeNumber_26 : decode cX8_takeNumber 26 = .ok (.iconst 0, 1) := by decide +kernel
theorem dX8_takeNumber_27 : decode cX8_takeNumber 27 = .ok (.putfield 195, 3) := by decide +kernel
theorem dX8_takeNumber_30 : decode cX8_takeNumber 30 = .ok (.aload_n 0, 1) := by decide +kernel
theorem dX8_takeNumber_31 : decode cX8_takeNumber 31 = .ok (.getfield 195, 3) := by decide +kernel
theorem dX8_takeNumber_34 : decode cX8_takeNumber 34 = .ok (.ifCond .eq 4, 3) := by decide +kernel
theorem dX8_takeNumber_37 : decode cX8_takeNumber 37 = .ok (.return_, 1) := by decide +kernel
theorem dX8_takeNumber_38 : decode cX8_takeNumber 38 = .ok (.aload_n 0, 1) := by decide +kernel
theorem dX8_takeNumber_39 : decode cX8_takeNumber 39 = .ok (.invokevirtual 199, 3) := by decide +kernel
theorem dX8_takeNumber_42 : decode cX8_takeNumber 42 = .ok (.bipush 48, 2) := by decide +kernel
theorem dX8_takeNumber_44 : decode cX8_takeNumber 44 = .ok (.isub, 1) := by decide +kernel
theorem dX8_takeNumber_45 : decode cX8_takeNumber 45 = .ok (.istore_n 1, 1) := by decide +kernel
theorem dX8_takeNumber_46 : decode cX8_takeNumber 46 = .ok (.aload_n 0, 1) := by decide +kernel
theorem dX8_takeNumber_47 : decode cX8_takeNumber 47 = .ok (.dup, 1) := by decide +kernel
theorem dX8_takeNumber_48 : decode cX8_takeNumber 48 = .ok (.getfield 192, 3) := by decide +kernel
theorem dX8_takeNumber_51 : decode cX8_takeNumber 51 = .ok (.iconst 1, 1) := by decide +kernel
theorem dX8_takeNumber_52 : decode cX8_takeNumber 52 = .ok (.iadd, 1) := by decide +kernel
theorem dX8_takeNumber_53 : decode cX8_takeNumber 53 = .ok (.putfield 192, 3) := by decide +kernel
theorem dX8_takeNumber_56 : decode cX8_takeNumber 56 = .ok (.aload_n 0, 1) := by decide +kernel
theorem dX8_takeNumber_57 : decode cX8_takeNumber 57 = .ok (.getfield 195, 3) := by decide +kernel
theorem dX8_takeNumber_60 : decode cX8_takeNumber 60 = .ok (.ifCond .ne 96, 3) := by decide +kernel
theorem dX8_takeNumber_63 : decode cX8_takeNumber 63 = .ok (.iload_n 1, 1) := by decide +kernel
theorem dX8_takeNumber_64 : decode cX8_takeNumber 64 = .ok (.ifCond .le 92, 3) := by decide +kernel
theorem dX8_takeNumber_67 : decode cX8_takeNumber 67 = .ok (.aload_n 0, 1) := by decide +kernel
theorem dX8_takeNumber_68 : decode cX8_takeNumber 68 = .ok (.invokevirtual 199, 3) := by decide +kernel
theorem dX8_takeNumber_71 : decode cX8_takeNumber 71 = .ok (.bipush 48, 2) := by decide +kernel
theorem dX8_takeNumber_73 : decode cX8_takeNumber 73 = .ok (.bipush 57, 2) := by decide +kernel
theorem dX8_takeNumber_75 : decode cX8_takeNumber 75 = .ok (.invokestatic 38, 3) := by decide +kernel
theorem dX8_takeNumber_78 : decode cX8_takeNumber 78 = .ok (.ifCond .eq 78, 3) := by decide +kernel
theorem dX8_takeNumber_81 : decode cX8_takeNumber 81 = .ok (.aload_n 0, 1) := by decide +kernel
theorem dX8_takeNumber_82 : decode cX8_takeNumber 82 = .ok (.bipush 10, 2) := by decide +kernel
theorem dX8_takeNumber_84 : decode cX8_takeNumber 84 = .ok (.iload_n 1, 1) := by decide +kernel
theorem dX8_takeNumber_85 : decode cX8_takeNumber 85 = .ok (.imul, 1) := by decide +kernel
theorem dX8_takeNumber_86 : decode cX8_takeNumber 86 = .ok (.aload_n 0, 1) := by decide +kernel
theorem dX8_takeNumber_87 : decode cX8_takeNumber 87 = .ok (.invokevirtual 199, 3) := by decide +kernel
theorem dX8_takeNumber_90 : decode cX8_takeNumber 90 = .ok (.iadd, 1) := by decide +kernel
theorem dX8_takeNumber_91 : decode cX8_takeNumber 91 = .ok (.bipush 48, 2) := by decide +kernel
theorem dX8_takeNumber_93 : decode cX8_takeNumber 93 = .ok (.isub, 1) := by decide +kernel
theorem dX8_takeNumber_94 : decode cX8_takeNumber 94 = .ok (.sipush 999, 3) := by decide +kernel
theorem dX8_takeNumber_97 : decode cX8_takeNumber 97 = .ok (.if_icmp .le 7, 3) := by decide +kernel
theorem dX8_takeNumber_100 : decode cX8_takeNumber 100 = .ok (.iconst 1, 1) := by decide +kernel
theorem dX8_takeNumber_101 : decode cX8_takeNumber 101 = .ok (.goto 4, 3) := by decide +kernel
theorem dX8_takeNumber_104 : decode cX8_takeNumber 104 = .ok (.iconst 0, 1) := by decide +kernel
theorem dX8_takeNumber_105 : decode cX8_takeNumber 105 = .ok (.putfield 195, 3) := by decide +kernel
theorem dX8_takeNumber_108 : decode cX8_takeNumber 108 = .ok (.aload_n 0, 1) := by decide +kernel
theorem dX8_takeNumber_109 : decode cX8_takeNumber 109 = .ok (.getfield 195, 3) := by decide +kernel
theorem dX8_takeNumber_112 : decode cX8_takeNumber 112 = .ok (.ifCond .eq 7, 3) := by decide +kernel
theorem dX8_takeNumber_115 : decode cX8_takeNumber 115 = .ok (.iload_n 1, 1) := by decide +kernel
theorem dX8_takeNumber_116 : decode cX8_takeNumber 116 = .ok (.goto 15, 3) := by decide +kernel
theorem dX8_takeNumber_119 : decode cX8_takeNumber 119 = .ok (.bipush 10, 2) := by decide +kernel
theorem dX8_takeNumber_121 : decode cX8_takeNumber 121 = .ok (.iload_n 1, 1) := by decide +kernel
theorem dX8_takeNumber_122 : decode cX8_takeNumber 122 = .ok (.imul, 1) := by decide +kernel
theorem dX8_takeNumber_123 : decode cX8_takeNumber 123 = .ok (.aload_n 0, 1) := by decide +kernel
theorem dX8_takeNumber_124 : decode cX8_takeNumber 124 = .ok (.invokevirtual 199, 3) := by decide +kernel
theorem dX8_takeNumber_127 : decode cX8_takeNumber 127 = .ok (.iadd, 1) := by decide +kernel
theorem dX8_takeNumber_128 : decode cX8_takeNumber 128 = .ok (.bipush 48, 2) := by decide +kernel
theorem dX8_takeNumber_130 : decode cX8_takeNumber 130 = .ok (.isub, 1) := by decide +kernel
theorem dX8_takeNumber_131 : decode cX8_takeNumber 131 = .ok (.istore_n 1, 1) := by decide +kernel
theorem dX8_takeNumber_132 : decode cX8_takeNumber 132 = .ok (.aload_n 0, 1) := by decide +kernel
theorem dX8_takeNumber_133 : decode cX8_takeNumber 133 = .ok (.dup, 1) := by decide +kernel
theorem dX8_takeNumber_134 : decode cX8_takeNumber 134 = .ok (.getfield 192, 3) := by decide +kernel
theorem dX8_takeNumber_137 : decode cX8_takeNumber 137 = .ok (.aload_n 0, 1) := by decide +kernel
theorem dX8_takeNumber_138 : decode cX8_takeNumber 138 = .ok (.getfield 195, 3) := by decide +kernel
theorem dX8_takeNumber_141 : decode cX8_takeNumber 141 = .ok (.ifCond .eq 7, 3) := by decide +kernel
theorem dX8_takeNumber_144 : decode cX8_takeNumber 144 = .ok (.iconst 0, 1) := by decide +kernel
theorem dX8_takeNumber_145 : decode cX8_takeNumber 145 = .ok (.goto 4, 3) := by decide +kernel
theorem dX8_takeNumber_148 : decode cX8_takeNumber 148 = .ok (.iconst 1, 1) := by decide +kernel
theorem dX8_takeNumber_149 : decode cX8_takeNumber 149 = .ok (.iadd, 1) := by decide +kernel
theorem dX8_takeNumber_150 : decode cX8_takeNumber 150 = .ok (.putfield 192, 3) := by decide +kernel
theorem dX8_takeNumber_153 : decode cX8_takeNumber 153 = .ok (.goto (-97), 3) := by decide +kernel
theorem dX8_takeNumber_156 : decode cX8_takeNumber 156 = .ok (.aload_n 0, 1) := by decide +kernel
theorem dX8_takeNumber_157 : decode cX8_takeNumber 157 = .ok (.getfield 35, 3) := by decide +kernel
theorem dX8_takeNumber_160 : decode cX8_takeNumber 160 = .ok (.aload_n 0, 1) := by decide +kernel
theorem dX8_takeNumber_161 : decode cX8_takeNumber 161 = .ok (.getfield 203, 3) := by decide +kernel
theorem dX8_takeNumber_164 : decode cX8_takeNumber 164 = .ok (.iload_n 1, 1) := by decide +kernel
theorem dX8_takeNumber_165 : decode cX8_takeNumber 165 = .ok (.iastore, 1) := by decide +kernel
theorem dX8_takeNumber_166 : decode cX8_takeNumber 166 = .ok (.aload_n 0, 1) := by decide +kernel
theorem dX8_takeNumber_167 : decode cX8_takeNumber 167 = .ok (.dup, 1) := by decide +kernel
theorem dX8_takeNumber_168 : decode cX8_takeNumber 168 = .ok (.getfield 203, 3) := by decide +kernel
theorem dX8_takeNumber_171 : decode cX8_takeNumber 171 = .ok (.iconst 1, 1) := by decide +kernel
theorem dX8_takeNumber_172 : decode cX8_takeNumber 172 = .ok (.iadd, 1) := by decide +kernel
theorem dX8_takeNumber_173 : decode cX8_takeNumber 173 = .ok (.putfield 203, 3) := by decide +kernel
theorem dX8_takeNumber_176 : decode cX8_takeNumber 176 = .ok (.return_, 1) := by decide +kernel
theorem dX8_takeMode_0 : decode cX8_takeMode 0 = .ok (.aload_n 0, 1) := by decide +kernel
theorem dX8_takeMode_1 : decode cX8_takeMode 1 = .ok (.aload_n 0, 1) := by decide +kernel
theorem dX8_takeMode_2 : decode cX8_takeMode 2 = .ok (.getfield 195, 3) := by decide +kernel
theorem dX8_takeMode_5 : decode cX8_takeMode 5 = .ok (.ifCond .ne 17, 3) := by decide +kernel
theorem dX8_takeMode_8 : decode cX8_takeMode 8 = .ok (.aload_n 0, 1) := by decide +kernel
theorem dX8_takeMode_9 : decode cX8_takeMode 9 = .ok (.invokevirtual 199, 3) := by decide +kernel
theorem dX8_takeMode_12 : decode cX8_takeMode 12 = .ok (.bipush 48, 2) := by decide +kernel
theorem dX8_takeMode_14 : decode cX8_takeMode 14 = .ok (.bipush 50, 2) := by decide +kernel
theorem dX8_takeMode_16 : decode cX8_takeMode 16 = .ok (.invokestatic 38, 3) := by decide +kernel
theorem dX8_takeMode_19 : decode cX8_takeMode 19 = .ok (.ifCond .ne 7, 3) := by decide +kernel
theorem dX8_takeMode_22 : decode cX8_takeMode 22 = .ok (.iconst 1, 1) := by decide +kernel
theorem dX8_takeMode_23 : decode cX8_takeMode 23 = .ok (.goto 4, 3) := by decide +kernel
theorem dX8_takeMode_26 : decode cX8_takeMode 26 = .ok (.iconst 0, 1) := by decide +kernel
theorem dX8_takeMode_27 : decode cX8_takeMode 27 = .ok (.putfield 195, 3) := by decide +kernel
theorem dX8_takeMode_30 : decode cX8_takeMode 30 = .ok (.aload_n 0, 1) := by decide +kernel
theorem dX8_takeMode_31 : decode cX8_takeMode 31 = .ok (.getfield 195, 3) := by decide +kernel
theorem dX8_takeMode_34 : decode cX8_takeMode 34 = .ok (.ifCond .ne 39, 3) := by decide +kernel
theorem dX8_takeMode_37 : decode cX8_takeMode 37 = .ok (.aload_n 0, 1) := by decide +kernel
theorem dX8_takeMode_38 : decode cX8_takeMode 38 = .ok (.getfield 35, 3) := by decide +kernel
theorem dX8_takeMode_41 : decode cX8_takeMode 41 = .ok (.aload_n 0, 1) := by decide +kernel
theorem dX8_takeMode_42 : decode cX8_takeMode 42 = .ok (.getfield 203, 3) := by decide +kernel
theorem dX8_takeMode_45 : decode cX8_takeMode 45 = .ok (.aload_n 0, 1) := by decide +kernel
theorem dX8_takeMode_46 : decode cX8_takeMode 46 = .ok (.invokevirtual 199, 3) := by decide +kernel
theorem dX8_takeMode_49 : decode cX8_takeMode 49 = .ok (.bipush 48, 2) := by decide +kernel
theorem dX8_takeMode_51 : decode cX8_takeMode 51 = .ok (.isub, 1) := by decide +kernel
theorem dX8_takeMode_52 : decode cX8_takeMode 52 = .ok (.iastore, 1) := by decide +kernel
theorem dX8_takeMode_53 : decode cX8_takeMode 53 = .ok (.aload_n 0, 1) := by decide +kernel
theorem dX8_takeMode_54 : decode cX8_takeMode 54 = .ok (.dup, 1) := by decide +kernel
theorem dX8_takeMode_55 : decode cX8_takeMode 55 = .ok (.getfield 203, 3) := by decide +kernel
theorem dX8_takeMode_58 : decode cX8_takeMode 58 = .ok (.iconst 1, 1) := by decide +kernel
theorem dX8_takeMode_59 : decode cX8_takeMode 59 = .ok (.iadd, 1) := by decide +kernel
theorem dX8_takeMode_60 : decode cX8_takeMode 60 = .ok (.putfield 203, 3) := by decide +kernel
theorem dX8_takeMode_63 : decode cX8_takeMode 63 = .ok (.aload_n 0, 1) := by decide +kernel
theorem dX8_takeMode_64 : decode cX8_takeMode 64 = .ok (.dup, 1) := by decide +kernel
theorem dX8_takeMode_65 : decode cX8_takeMode 65 = .ok (.getfield 192, 3) := by decide +kernel
theorem dX8_takeMode_68 : decode cX8_takeMode 68 = .ok (.iconst 1, 1) := by decide +kernel
theorem dX8_takeMode_69 : decode cX8_takeMode 69 = .ok (.iadd, 1) := by decide +kernel
theorem dX8_takeMode_70 : decode cX8_takeMode 70 = .ok (.putfield 192, 3) := by decide +kernel
theorem dX8_takeMode_73 : decode cX8_takeMode 73 = .ok (.return_, 1) := by decide +kernel
theorem dX8_takeOrder_0 : decode cX8_takeOrder 0 = .ok (.aload_n 0, 1) := by decide +kernel
theorem dX8_takeOrder_1 : decode cX8_takeOrder 1 = .ok (.invokevirtual 199, 3) := by decide +kernel
theorem dX8_takeOrder_4 : decode cX8_takeOrder 4 = .ok (.istore_n 1, 1) := by decide +kernel
theorem dX8_takeOrder_5 : decode cX8_takeOrder 5 = .ok (.aload_n 0, 1) := by decide +kernel
theorem dX8_takeOrder_6 : decode cX8_takeOrder 6 = .ok (.dup, 1) := by decide +kernel
theorem dX8_takeOrder_7 : decode cX8_takeOrder 7 = .ok (.getfield 192, 3) := by decide +kernel
theorem dX8_takeOrder_10 : decode cX8_takeOrder 10 = .ok (.iconst 1, 1) := by decide +kernel
theorem dX8_takeOrder_11 : decode cX8_takeOrder 11 = .ok (.iadd, 1) := by decide +kernel
theorem dX8_takeOrder_12 : decode cX8_takeOrder 12 = .ok (.putfield 192, 3) := by decide +kernel
theorem dX8_takeOrder_15 : decode cX8_takeOrder 15 = .ok (.aload_n 0, 1) := by decide +kernel
theorem dX8_takeOrder_16 : decode cX8_takeOrder 16 = .ok (.getfield 32, 3) := by decide +kernel
theorem dX8_takeOrder_19 : decode cX8_takeOrder 19 = .ok (.aload_n 0, 1) := by decide +kernel
theorem dX8_takeOrder_20 : decode cX8_takeOrder 20 = .ok (.getfield 206, 3) := by decide +kernel
theorem dX8_takeOrder_23 : decode cX8_takeOrder 23 = .ok (.aload_n 0, 1) := by decide +kernel
theorem dX8_takeOrder_24 : decode cX8_takeOrder 24 = .ok (.getfield 203, 3) := by decide +kernel
theorem dX8_takeOrder_27 : decode cX8_takeOrder 27 = .ok (.iastore, 1) := by decide +kernel
theorem dX8_takeOrder_28 : decode cX8_takeOrder 28 = .ok (.iload_n 1, 1) := by decide +kernel
theorem dX8_takeOrder_29 : decode cX8_takeOrder 29 = .ok (.lookupswitch 141 #[(102, 43), (106, 90), (108, 107), (116, 134)], 43) := by decide +kernel
theorem dX8_takeOrder_72 : decode cX8_takeOrder 72 = .ok (.aload_n 0, 1) := by decide +kernel
theorem dX8_takeOrder_73 : decode cX8_takeOrder 73 = .ok (.invokevirtual 209, 3) := by decide +kernel
theorem dX8_takeOrder_76 : decode cX8_takeOrder 76 = .ok (.aload_n 0, 1) := by decide +kernel
theorem dX8_takeOrder_77 : decode cX8_takeOrder 77 = .ok (.bipush 58, 2) := by decide +kernel
theorem dX8_takeOrder_79 : decode cX8_takeOrder 79 = .ok (.invokevirtual 212, 3) := by decide +kernel
theorem dX8_takeOrder_82 : decode cX8_takeOrder 82 = .ok (.aload_n 0, 1) := by decide +kernel
theorem dX8_takeOrder_83 : decode cX8_takeOrder 83 = .ok (.invokevirtual 209, 3) := by decide +kernel
theorem dX8_takeOrder_86 : decode cX8_takeOrder 86 = .ok (.aload_n 0, 1) := by decide +kernel
theorem dX8_takeOrder_87 : decode cX8_takeOrder 87 = .ok (.getfield 195, 3) := by decide +kernel
theorem dX8_takeOrder_90 : decode cX8_takeOrder 90 = .ok (.ifCond .ne 95, 3) := by decide +kernel
theorem dX8_takeOrder_93 : decode cX8_takeOrder 93 = .ok (.aload_n 0, 1) := by decide +kernel
theorem dX8_takeOrder_94 : decode cX8_takeOrder 94 = .ok (.invokevirtual 199, 3) := by decide +kernel
theorem dX8_takeOrder_97 : decode cX8_takeOrder 97 = .ok (.bipush 44, 2) := by decide +kernel
theorem dX8_takeOrder_99 : decode cX8_takeOrder 99 = .ok (.if_icmp .ne 86, 3) := by decide +kernel
theorem dX8_takeOrder_102 : decode cX8_takeOrder 102 = .ok (.aload_n 0, 1) := by decide +kernel
theorem dX8_takeOrder_103 : decode cX8_takeOrder 103 = .ok (.dup, 1) := by decide +kernel
theorem dX8_takeOrder_104 : decode cX8_takeOrder 104 = .ok (.getfield 192, 3) := by decide +kernel
theorem dX8_takeOrder_107 : decode cX8_takeOrder 107 = .ok (.iconst 1, 1) := by decide +kernel
theorem dX8_takeOrder_108 : decode cX8_takeOrder 108 = .ok (.iadd, 1) := by decide +kernel
theorem dX8_takeOrder_109 : decode cX8_takeOrder 109 = .ok (.putfield 192, 3) := by decide +kernel
theorem dX8_takeOrder_112 : decode cX8_takeOrder 112 = .ok (.aload_n 0, 1) := by decide +kernel
theorem dX8_takeOrder_113 : decode cX8_takeOrder 113 = .ok (.invokevirtual 209, 3) := by decide +kernel
theorem dX8_takeOrder_116 : decode cX8_takeOrder 116 = .ok (.goto (-30), 3) := by decide +kernel
theorem dX8_takeOrder_119 : decode cX8_takeOrder 119 = .ok (.aload_n 0, 1) := by decide +kernel
theorem dX8_takeOrder_120 : decode cX8_takeOrder 120 = .ok (.invokevirtual 209, 3) := by decide +kernel
theorem dX8_takeOrder_123 : decode cX8_takeOrder 123 = .ok (.aload_n 0, 1) := by decide +kernel
theorem dX8_takeOrder_124 : decode cX8_takeOrder 124 = .ok (.bipush 61, 2) := by decide +kernel
theorem dX8_takeOrder_126 : decode cX8_takeOrder 126 = .ok (.invokevirtual 212, 3) := by decide +kernel
theorem dX8_takeOrder_129 : decode cX8_takeOrder 129 = .ok (.aload_n 0, 1) := by decide +kernel
theorem dX8_takeOrder_130 : decode cX8_takeOrder 130 = .ok (.invokevirtual 215, 3) := by decide +kernel
theorem dX8_takeOrder_133 : decode cX8_takeOrder 133 = .ok (.goto 52, 3) := by decide +kernel
theorem dX8_takeOrder_136 : decode cX8_takeOrder 136 = .ok (.aload_n 0, 1) := by decide +kernel
theorem dX8_takeOrder_137 : decode cX8_takeOrder 137 = .ok (.invokevirtual 209, 3) := by decide +kernel
theorem dX8_takeOrder_140 : decode cX8_takeOrder 140 = .ok (.aload_n 0, 1) := by decide +kernel
theorem dX8_takeOrder_141 : decode cX8_takeOrder 141 = .ok (.bipush 58, 2) := by decide +kernel
theorem dX8_takeOrder_143 : decode cX8_takeOrder 143 = .ok (.invokevirtual 212, 3) := by decide +kernel
theorem dX8_takeOrder_146 : decode cX8_takeOrder 146 = .ok (.aload_n 0, 1) := by decide +kernel
theorem dX8_takeOrder_147 : decode cX8_takeOrder 147 = .ok (.invokevirtual 209, 3) := by decide +kernel
theorem dX8_takeOrder_150 : decode cX8_takeOrder 150 = .ok (.aload_n 0, 1) := by decide +kernel
theorem dX8_takeOrder_151 : decode cX8_takeOrder 151 = .ok (.bipush 61, 2) := by decide +kernel
theorem dX8_takeOrder_153 : decode cX8_takeOrder 153 = .ok (.invokevirtual 212, 3) := by decide +kernel
theorem dX8_takeOrder_156 : decode cX8_takeOrder 156 = .ok (.aload_n 0, 1) := by decide +kernel
theorem dX8_takeOrder_157 : decode cX8_takeOrder 157 = .ok (.invokevirtual 209, 3) := by decide +kernel
theorem dX8_takeOrder_160 : decode cX8_takeOrder 160 = .ok (.goto 25, 3) := by decide +kernel
theorem dX8_takeOrder_163 : decode cX8_takeOrder 163 = .ok (.aload_n 0, 1) := by decide +kernel
theorem dX8_takeOrder_164 : decode cX8_takeOrder 164 = .ok (.invokevirtual 209, 3) := by decide +kernel
theorem dX8_takeOrder_167 : decode cX8_takeOrder 167 = .ok (.goto 18, 3) := by decide +kernel
theorem dX8_takeOrder_170 : decode cX8_takeOrder 170 = .ok (.aload_n 0, 1) := by decide +kernel
theorem dX8_takeOrder_171 : decode cX8_takeOrder 171 = .ok (.dup, 1) := by decide +kernel
theorem dX8_takeOrder_172 : decode cX8_takeOrder 172 = .ok (.getfield 192, 3) := by decide +kernel
theorem dX8_takeOrder_175 : decode cX8_takeOrder 175 = .ok (.iconst 1, 1) := by decide +kernel
theorem dX8_takeOrder_176 : decode cX8_takeOrder 176 = .ok (.isub, 1) := by decide +kernel
theorem dX8_takeOrder_177 : decode cX8_takeOrder 177 = .ok (.putfield 192, 3) := by decide +kernel
theorem dX8_takeOrder_180 : decode cX8_takeOrder 180 = .ok (.aload_n 0, 1) := by decide +kernel
theorem dX8_takeOrder_181 : decode cX8_takeOrder 181 = .ok (.iconst 1, 1) := by decide +kernel
theorem dX8_takeOrder_182 : decode cX8_takeOrder 182 = .ok (.putfield 195, 3) := by decide +kernel
theorem dX8_takeOrder_185 : decode cX8_takeOrder 185 = .ok (.aload_n 0, 1) := by decide +kernel
theorem dX8_takeOrder_186 : decode cX8_takeOrder 186 = .ok (.getfield 195, 3) := by decide +kernel
theorem dX8_takeOrder_189 : decode cX8_takeOrder 189 = .ok (.ifCond .ne 36, 3) := by decide +kernel
theorem dX8_takeOrder_192 : decode cX8_takeOrder 192 = .ok (.aload_n 0, 1) := by decide +kernel
theorem dX8_takeOrder_193 : decode cX8_takeOrder 193 = .ok (.getfield 29, 3) := by decide +kernel
theorem dX8_takeOrder_196 : decode cX8_takeOrder 196 = .ok (.aload_n 0, 1) := by decide +kernel
theorem dX8_takeOrder_197 : decode cX8_takeOrder 197 = .ok (.getfield 206, 3) := by decide +kernel
theorem dX8_takeOrder_200 : decode cX8_takeOrder 200 = .ok (.iload_n 1, 1) := by decide +kernel
theorem dX8_takeOrder_201 : decode cX8_takeOrder 201 = .ok (.iastore, 1) := by decide +kernel
theorem dX8_takeOrder_202 : decode cX8_takeOrder 202 = .ok (.aload_n 0, 1) := by decide +kernel
theorem dX8_takeOrder_203 : decode cX8_takeOrder 203 = .ok (.dup, 1) := by decide +kernel
theorem dX8_takeOrder_204 : decode cX8_takeOrder 204 = .ok (.getfield 206, 3) := by decide +kernel
theorem dX8_takeOrder_207 : decode cX8_takeOrder 207 = .ok (.iconst 1, 1) := by decide +kernel
theorem dX8_takeOrder_208 : decode cX8_takeOrder 208 = .ok (.iadd, 1) := by decide +kernel
theorem dX8_takeOrder_209 : decode cX8_takeOrder 209 = .ok (.putfield 206, 3) := by decide +kernel
theorem dX8_takeOrder_212 : decode cX8_takeOrder 212 = .ok (.aload_n 0, 1) := by decide +kernel
theorem dX8_takeOrder_213 : decode cX8_takeOrder 213 = .ok (.getfield 32, 3) := by decide +kernel
theorem dX8_takeOrder_216 : decode cX8_takeOrder 216 = .ok (.aload_n 0, 1) := by decide +kernel
theorem dX8_takeOrder_217 : decode cX8_takeOrder 217 = .ok (.getfield 206, 3) := by decide +kernel
theorem dX8_takeOrder_220 : decode cX8_takeOrder 220 = .ok (.aload_n 0, 1) := by decide +kernel
theorem dX8_takeOrder_221 : decode cX8_takeOrder 221 = .ok (.getfield 203, 3) := by decide +kernel
theorem dX8_takeOrder_224 : decode cX8_takeOrder 224 = .ok (.iastore, 1) := by decide +kernel
theorem dX8_takeOrder_225 : decode cX8_takeOrder 225 = .ok (.return_, 1) := by decide +kernel
theorem dX8_fault_0 : decode cX8_fault 0 = .ok (.aload_n 0, 1) := by decide +kernel
theorem dX8_fault_1 : decode cX8_fault 1 = .ok (.iconst 0, 1) := by decide +kernel
theorem dX8_fault_2 : decode cX8_fault 2 = .ok (.putfield 192, 3) := by decide +kernel
theorem dX8_fault_5 : decode cX8_fault 5 = .ok (.aload_n 0, 1) := by decide +kernel
theorem dX8_fault_6 : decode cX8_fault 6 = .ok (.iconst 0, 1) := by decide +kernel
theorem dX8_fault_7 : decode cX8_fault 7 = .ok (.putfield 195, 3) := by decide +kernel
theorem dX8_fault_10 : decode cX8_fault 10 = .ok (.aload_n 0, 1) := by decide +kernel
theorem dX8_fault_11 : decode cX8_fault 11 = .ok (.iconst 0, 1) := by decide +kernel
theorem dX8_fault_12 : decode cX8_fault 12 = .ok (.putfield 206, 3) := by decide +kernel
theorem dX8_fault_15 : decode cX8_fault 15 = .ok (.aload_n 0, 1) := by decide +kernel
theorem dX8_fault_16 : decode cX8_fault 16 = .ok (.iconst 0, 1) := by decide +kernel
theorem dX8_fault_17 : decode cX8_fault 17 = .ok (.putfield 203, 3) := by decide +kernel
theorem dX8_fault_20 : decode cX8_fault 20 = .ok (.aload_n 0, 1) := by decide +kernel
theorem dX8_fault_21 : decode cX8_fault 21 = .ok (.invokevirtual 218, 3) := by decide +kernel
theorem dX8_fault_24 : decode cX8_fault 24 = .ok (.aload_n 0, 1) := by decide +kernel
theorem dX8_fault_25 : decode cX8_fault 25 = .ok (.getfield 195, 3) := by decide +kernel
theorem dX8_fault_28 : decode cX8_fault 28 = .ok (.ifCond .ne 34, 3) := by decide +kernel
theorem dX8_fault_31 : decode cX8_fault 31 = .ok (.aload_n 0, 1) := by decide +kernel
theorem dX8_fault_32 : decode cX8_fault 32 = .ok (.getfield 192, 3) := by decide +kernel
theorem dX8_fault_35 : decode cX8_fault 35 = .ok (.aload_n 0, 1) := by decide +kernel
theorem dX8_fault_36 : decode cX8_fault 36 = .ok (.getfield 178, 3) := by decide +kernel
theorem dX8_fault_39 : decode cX8_fault 39 = .ok (.if_icmp .ge 23, 3) := by decide +kernel
theorem dX8_fault_42 : decode cX8_fault 42 = .ok (.aload_n 0, 1) := by decide +kernel
theorem dX8_fault_43 : decode cX8_fault 43 = .ok (.bipush 59, 2) := by decide +kernel
theorem dX8_fault_45 : decode cX8_fault 45 = .ok (.invokevirtual 212, 3) := by decide +kernel
theorem dX8_fault_48 : decode cX8_fault 48 = .ok (.aload_n 0, 1) := by decide +kernel
theorem dX8_fault_49 : decode cX8_fault 49 = .ok (.getfield 195, 3) := by decide +kernel
theorem dX8_fault_52 : decode cX8_fault 52 = .ok (.ifCond .ne (-28), 3) := by decide +kernel
theorem dX8_fault_55 : decode cX8_fault 55 = .ok (.aload_n 0, 1) := by decide +kernel
theorem dX8_fault_56 : decode cX8_fault 56 = .ok (.invokevirtual 218, 3) := by decide +kernel
theorem dX8_fault_59 : decode cX8_fault 59 = .ok (.goto (-35), 3) := by decide +kernel
theorem dX8_fault_62 : decode cX8_fault 62 = .ok (.aload_n 0, 1) := by decide +kernel
theorem dX8_fault_63 : decode cX8_fault 63 = .ok (.getfield 195, 3) := by decide +kernel
theorem dX8_fault_66 : decode cX8_fault 66 = .ok (.ifCond .eq 10, 3) := by decide +kernel
theorem dX8_fault_69 : decode cX8_fault 69 = .ok (.aload_n 0, 1) := by decide +kernel
theorem dX8_fault_70 : decode cX8_fault 70 = .ok (.getfield 192, 3) := by decide +kernel
theorem dX8_fault_73 : decode cX8_fault 73 = .ok (.goto 5, 3) := by decide +kernel
theorem dX8_fault_76 : decode cX8_fault 76 = .ok (.bipush (-6), 2) := by decide +kernel
theorem dX8_fault_78 : decode cX8_fault 78 = .ok (.ireturn, 1) := by decide +kernel
theorem dX8_feedAll_0 : decode cX8_feedAll 0 = .ok (.iconst 0, 1) := by decide +kernel
theorem dX8_feedAll_1 : decode cX8_feedAll 1 = .ok (.istore_n 2, 1) := by decide +kernel
theorem dX8_feedAll_2 : decode cX8_feedAll 2 = .ok (.aload_n 0, 1) := by decide +kernel
theorem dX8_feedAll_3 : decode cX8_feedAll 3 = .ok (.getfield 32, 3) := by decide +kernel
theorem dX8_feedAll_6 : decode cX8_feedAll 6 = .ok (.iload_n 1, 1) := by decide +kernel
theorem dX8_feedAll_7 : decode cX8_feedAll 7 = .ok (.iaload, 1) := by decide +kernel
theorem dX8_feedAll_8 : decode cX8_feedAll 8 = .ok (.iconst 1, 1) := by decide +kernel
theorem dX8_feedAll_9 : decode cX8_feedAll 9 = .ok (.iadd, 1) := by decide +kernel
theorem dX8_feedAll_10 : decode cX8_feedAll 10 = .ok (.istore_n 3, 1) := by decide +kernel
theorem dX8_feedAll_11 : decode cX8_feedAll 11 = .ok (.iload_n 3, 1) := by decide +kernel
theorem dX8_feedAll_12 : decode cX8_feedAll 12 = .ok (.aload_n 0, 1) := by decide +kernel
theorem dX8_feedAll_13 : decode cX8_feedAll 13 = .ok (.getfield 32, 3) := by decide +kernel
theorem dX8_feedAll_16 : decode cX8_feedAll 16 = .ok (.iload_n 1, 1) := by decide +kernel
theorem dX8_feedAll_17 : decode cX8_feedAll 17 = .ok (.iconst 1, 1) := by decide +kernel
theorem dX8_feedAll_18 : decode cX8_feedAll 18 = .ok (.iadd, 1) := by decide +kernel
theorem dX8_feedAll_19 : decode cX8_feedAll 19 = .ok (.iaload, 1) := by decide +kernel
theorem dX8_feedAll_20 : decode cX8_feedAll 20 = .ok (.if_icmp .ge 36, 3) := by decide +kernel
theorem dX8_feedAll_23 : decode cX8_feedAll 23 = .ok (.iload_n 2, 1) := by decide +kernel
theorem dX8_feedAll_24 : decode cX8_feedAll 24 = .ok (.ifCond .lt 32, 3) := by decide +kernel
theorem dX8_feedAll_27 : decode cX8_feedAll 27 = .ok (.aload_n 0, 1) := by decide +kernel
theorem dX8_feedAll_28 : decode cX8_feedAll 28 = .ok (.aload_n 0, 1) := by decide +kernel
theorem dX8_feedAll_29 : decode cX8_feedAll 29 = .ok (.getfield 35, 3) := by decide +kernel
theorem dX8_feedAll_32 : decode cX8_feedAll 32 = .ok (.aload_n 0, 1) := by decide +kernel
theorem dX8_feedAll_33 : decode cX8_feedAll 33 = .ok (.getfield 32, 3) := by decide +kernel
theorem dX8_feedAll_36 : decode cX8_feedAll 36 = .ok (.iload_n 1, 1) := by decide +kernel
theorem dX8_feedAll_37 : decode cX8_feedAll 37 = .ok (.iaload, 1) := by decide +kernel
theorem dX8_feedAll_38 : decode cX8_feedAll 38 = .ok (.iaload, 1) := by decide +kernel
theorem dX8_feedAll_39 : decode cX8_feedAll 39 = .ok (.aload_n 0, 1) := by decide +kernel
theorem dX8_feedAll_40 : decode cX8_feedAll 40 = .ok (.getfield 35, 3) := by decide +kernel
theorem dX8_feedAll_43 : decode cX8_feedAll 43 = .ok (.iload_n 3, 1) := by decide +kernel
theorem dX8_feedAll_44 : decode cX8_feedAll 44 = .ok (.iaload, 1) := by decide +kernel
theorem dX8_feedAll_45 : decode cX8_feedAll 45 = .ok (.iconst 0, 1) := by decide +kernel
theorem dX8_feedAll_46 : decode cX8_feedAll 46 = .ok (.invokevirtual 152, 3) := by decide +kernel
theorem dX8_feedAll_49 : decode cX8_feedAll 49 = .ok (.istore_n 2, 1) := by decide +kernel
theorem dX8_feedAll_50 : decode cX8_feedAll 50 = .ok (.iinc 3 1, 3) := by decide +kernel
theorem dX8_feedAll_53 : decode cX8_feedAll 53 = .ok (.goto (-42), 3) := by decide +kernel
theorem dX8_feedAll_56 : decode cX8_feedAll 56 = .ok (.iload_n 2, 1) := by decide +kernel
theorem dX8_feedAll_57 : decode cX8_feedAll 57 = .ok (.ireturn, 1) := by decide +kernel
theorem dX8_carry_0 : decode cX8_carry 0 = .ok (.aload_n 0, 1) := by decide +kernel
theorem dX8_carry_1 : decode cX8_carry 1 = .ok (.getfield 32, 3) := by decide +kernel
theorem dX8_carry_4 : decode cX8_carry 4 = .ok (.iload_n 1, 1) := by decide +kernel
theorem dX8_carry_5 : decode cX8_carry 5 = .ok (.iaload, 1) := by decide +kernel
theorem dX8_carry_6 : decode cX8_carry 6 = .ok (.istore_n 2, 1) := by decide +kernel
theorem dX8_carry_7 : decode cX8_carry 7 = .ok (.aload_n 0, 1) := by decide +kernel
theorem dX8_carry_8 : decode cX8_carry 8 = .ok (.getfield 29, 3) := by decide +kernel
theorem dX8_carry_11 : decode cX8_carry 11 = .ok (.iload_n 1, 1) := by decide +kernel
theorem dX8_carry_12 : decode cX8_carry 12 = .ok (.iaload, 1) := by decide +kernel
theorem dX8_carry_13 : decode cX8_carry 13 = .ok (.lookupswitch 89 #[(102, 35), (106, 41), (108, 61)], 35) := by decide +kernel
theorem dX8_carry_48 : decode cX8_carry 48 = .ok (.aload_n 0, 1) := by decide +kernel
theorem dX8_carry_49 : decode cX8_carry 49 = .ok (.iload_n 1, 1) := by decide +kernel
theorem dX8_carry_50 : decode cX8_carry 50 = .ok (.invokevirtual 221, 3) := by decide +kernel
theorem dX8_carry_53 : decode cX8_carry 53 = .ok (.ireturn, 1) := by decide +kernel
theorem dX8_carry_54 : decode cX8_carry 54 = .ok (.aload_n 0, 1) := by decide +kernel
theorem dX8_carry_55 : decode cX8_carry 55 = .ok (.aload_n 0, 1) := by decide +kernel
theorem dX8_carry_56 : decode cX8_carry 56 = .ok (.getfield 35, 3) := by decide +kernel
theorem dX8_carry_59 : decode cX8_carry 59 = .ok (.iload_n 2, 1) := by decide +kernel
theorem dX8_carry_60 : decode cX8_carry 60 = .ok (.iaload, 1) := by decide +kernel
theorem dX8_carry_61 : decode cX8_carry 61 = .ok (.aload_n 0, 1) := by decide +kernel
theorem dX8_carry_62 : decode cX8_carry 62 = .ok (.getfield 35, 3) := by decide +kernel
theorem dX8_carry_65 : decode cX8_carry 65 = .ok (.iload_n 2, 1) := by decide +kernel
theorem dX8_carry_66 : decode cX8_carry 66 = .ok (.iconst 1, 1) := by decide +kernel
theorem dX8_carry_67 : decode cX8_carry 67 = .ok (.iadd, 1) := by decide +kernel
theorem dX8_carry_68 : decode cX8_carry 68 = .ok (.iaload, 1) := by decide +kernel
theorem dX8_carry_69 : decode cX8_carry 69 = .ok (.iconst 0, 1) := by decide +kernel
theorem dX8_carry_70 : decode cX8_carry 70 = .ok (.invokevirtual 145, 3) := by decide +kernel
theorem dX8_carry_73 : decode cX8_carry 73 = .ok (.ireturn, 1) := by decide +kernel
theorem dX8_carry_74 : decode cX8_carry 74 = .ok (.aload_n 0, 1) := by decide +kernel
theorem dX8_carry_75 : decode cX8_carry 75 = .ok (.aload_n 0, 1) := by decide +kernel
theorem dX8_carry_76 : decode cX8_carry 76 = .ok (.getfield 35, 3) := by decide +kernel
theorem dX8_carry_79 : decode cX8_carry 79 = .ok (.iload_n 2, 1) := by decide +kernel
theorem dX8_carry_80 : decode cX8_carry 80 = .ok (.iaload, 1) := by decide +kernel
theorem dX8_carry_81 : decode cX8_carry 81 = .ok (.aload_n 0, 1) := by decide +kernel
theorem dX8_carry_82 : decode cX8_carry 82 = .ok (.getfield 35, 3) := by decide +kernel
theorem dX8_carry_85 : decode cX8_carry 85 = .ok (.iload_n 2, 1) := by decide +kernel
theorem dX8_carry_86 : decode cX8_carry 86 = .ok (.iconst 1, 1) := by decide +kernel
theorem dX8_carry_87 : decode cX8_carry 87 = .ok (.iadd, 1) := by decide +kernel
theorem dX8_carry_88 : decode cX8_carry 88 = .ok (.iaload, 1) := by decide +kernel
theorem dX8_carry_89 : decode cX8_carry 89 = .ok (.aload_n 0, 1) := by decide +kernel
theorem dX8_carry_90 : decode cX8_carry 90 = .ok (.getfield 35, 3) := by decide +kernel
theorem dX8_carry_93 : decode cX8_carry 93 = .ok (.iload_n 2, 1) := by decide +kernel
theorem dX8_carry_94 : decode cX8_carry 94 = .ok (.iconst 2, 1) := by decide +kernel
theorem dX8_carry_95 : decode cX8_carry 95 = .ok (.iadd, 1) := by decide +kernel
theorem dX8_carry_96 : decode cX8_carry 96 = .ok (.iaload, 1) := by decide +kernel
theorem dX8_carry_97 : decode cX8_carry 97 = .ok (.iconst 0, 1) := by decide +kernel
theorem dX8_carry_98 : decode cX8_carry 98 = .ok (.invokevirtual 158, 3) := by decide +kernel
theorem dX8_carry_101 : decode cX8_carry 101 = .ok (.ireturn, 1) := by decide +kernel
theorem dX8_carry_102 : decode cX8_carry 102 = .ok (.aload_n 0, 1) := by decide +kernel
theorem dX8_carry_103 : decode cX8_carry 103 = .ok (.aload_n 0, 1) := by decide +kernel
theorem dX8_carry_104 : decode cX8_carry 104 = .ok (.getfield 35, 3) := by decide +kernel
theorem dX8_carry_107 : decode cX8_carry 107 = .ok (.iload_n 2, 1) := by decide +kernel
theorem dX8_carry_108 : decode cX8_carry 108 = .ok (.iaload, 1) := by decide +kernel
theorem dX8_carry_109 : decode cX8_carry 109 = .ok (.iconst 0, 1) := by decide +kernel
theorem dX8_carry_110 : decode cX8_carry 110 = .ok (.invokevirtual 165, 3) := by decide +kernel
theorem dX8_carry_113 : decode cX8_carry 113 = .ok (.ireturn, 1) := by decide +kernel
theorem dX8_carryOut_0 : decode cX8_carryOut 0 = .ok (.aload_n 0, 1) := by decide +kernel
theorem dX8_carryOut_1 : decode cX8_carryOut 1 = .ok (.invokevirtual 224, 3) := by decide +kernel
theorem dX8_carryOut_4 : decode cX8_carryOut 4 = .ok (.ifCond .lt 6, 3) := by decide +kernel
theorem dX8_carryOut_7 : decode cX8_carryOut 7 = .ok (.bipush (-3), 2) := by decide +kernel
theorem dX8_carryOut_9 : decode cX8_carryOut 9 = .ok (.ireturn, 1) := by decide +kernel
theorem dX8_carryOut_10 : decode cX8_carryOut 10 = .ok (.aload_n 0, 1) := by decide +kernel
theorem dX8_carryOut_11 : decode cX8_carryOut 11 = .ok (.invokevirtual 57, 3) := by decide +kernel
theorem dX8_carryOut_14 : decode cX8_carryOut 14 = .ok (.iconst 0, 1) := by decide +kernel
theorem dX8_carryOut_15 : decode cX8_carryOut 15 = .ok (.istore_n 1, 1) := by decide +kernel
theorem dX8_carryOut_16 : decode cX8_carryOut 16 = .ok (.iload_n 1, 1) := by decide +kernel
theorem dX8_carryOut_17 : decode cX8_carryOut 17 = .ok (.aload_n 0, 1) := by decide +kernel
theorem dX8_carryOut_18 : decode cX8_carryOut 18 = .ok (.getfield 206, 3) := by decide +kernel
theorem dX8_carryOut_21 : decode cX8_carryOut 21 = .ok (.if_icmp .ge 17, 3) := by decide +kernel
theorem dX8_carryOut_24 : decode cX8_carryOut 24 = .ok (.aload_n 0, 1) := by decide +kernel
theorem dX8_carryOut_25 : decode cX8_carryOut 25 = .ok (.iload_n 1, 1) := by decide +kernel
theorem dX8_carryOut_26 : decode cX8_carryOut 26 = .ok (.invokevirtual 227, 3) := by decide +kernel
theorem dX8_carryOut_29 : decode cX8_carryOut 29 = .ok (.ifCond .lt 9, 3) := by decide +kernel
theorem dX8_carryOut_32 : decode cX8_carryOut 32 = .ok (.iinc 1 1, 3) := by decide +kernel
theorem dX8_carryOut_35 : decode cX8_carryOut 35 = .ok (.goto (-19), 3) := by decide +kernel
theorem dX8_carryOut_38 : decode cX8_carryOut 38 = .ok (.aload_n 0, 1) := by decide +kernel
theorem dX8_carryOut_39 : decode cX8_carryOut 39 = .ok (.iconst 0, 1) := by decide +kernel
theorem dX8_carryOut_40 : decode cX8_carryOut 40 = .ok (.putfield 178, 3) := by decide +kernel
theorem dX8_carryOut_43 : decode cX8_carryOut 43 = .ok (.iload_n 1, 1) := by decide +kernel
theorem dX8_carryOut_44 : decode cX8_carryOut 44 = .ok (.ireturn, 1) := by decide +kernel
theorem dX8_undo_0 : decode cX8_undo 0 = .ok (.aload_n 0, 1) := by decide +kernel
theorem dX8_undo_1 : decode cX8_undo 1 = .ok (.getfield 50, 3) := by decide +kernel
theorem dX8_undo_4 : decode cX8_undo 4 = .ok (.ifCond .ne 6, 3) := by decide +kernel
theorem dX8_undo_7 : decode cX8_undo 7 = .ok (.bipush (-5), 2) := by decide +kernel
theorem dX8_undo_9 : decode cX8_undo 9 = .ok (.ireturn, 1) := by decide +kernel
theorem dX8_undo_10 : decode cX8_undo 10 = .ok (.aload_n 0, 1) := by decide +kernel
theorem dX8_undo_11 : decode cX8_undo 11 = .ok (.dup, 1) := by decide +kernel
theorem dX8_undo_12 : decode cX8_undo 12 = .ok (.getfield 50, 3) := by decide +kernel
theorem dX8_undo_15 : decode cX8_undo 15 = .ok (.iconst 1, 1) := by decide +kernel
theorem dX8_undo_16 : decode cX8_undo 16 = .ok (.isub, 1) := by decide +kernel
theorem dX8_undo_17 : decode cX8_undo 17 = .ok (.putfield 50, 3) := by decide +kernel
theorem dX8_undo_20 : decode cX8_undo 20 = .ok (.aload_n 0, 1) := by decide +kernel
theorem dX8_undo_21 : decode cX8_undo 21 = .ok (.getfield 54, 3) := by decide +kernel
theorem dX8_undo_24 : decode cX8_undo 24 = .ok (.aload_n 0, 1) := by decide +kernel
theorem dX8_undo_25 : decode cX8_undo 25 = .ok (.getfield 50, 3) := by decide +kernel
theorem dX8_undo_28 : decode cX8_undo 28 = .ok (.iadd, 1) := by decide +kernel
theorem dX8_undo_29 : decode cX8_undo 29 = .ok (.bipush 6, 2) := by decide +kernel
theorem dX8_undo_31 : decode cX8_undo 31 = .ok (.irem, 1) := by decide +kernel
theorem dX8_undo_32 : decode cX8_undo 32 = .ok (.istore_n 1, 1) := by decide +kernel
theorem dX8_undo_33 : decode cX8_undo 33 = .ok (.iconst 0, 1) := by decide +kernel
theorem dX8_undo_34 : decode cX8_undo 34 = .ok (.istore_n 2, 1) := by decide +kernel
theorem dX8_undo_35 : decode cX8_undo 35 = .ok (.iload_n 2, 1) := by decide +kernel
theorem dX8_undo_36 : decode cX8_undo 36 = .ok (.sipush 770, 3) := by decide +kernel
theorem dX8_undo_39 : decode cX8_undo 39 = .ok (.if_icmp .ge 27, 3) := by decide +kernel
theorem dX8_undo_42 : decode cX8_undo 42 = .ok (.aload_n 0, 1) := by decide +kernel
theorem dX8_undo_43 : decode cX8_undo 43 = .ok (.getfield 7, 3) := by decide +kernel
theorem dX8_undo_46 : decode cX8_undo 46 = .ok (.iload_n 2, 1) := by decide +kernel
theorem dX8_undo_47 : decode cX8_undo 47 = .ok (.aload_n 0, 1) := by decide +kernel
theorem dX8_undo_48 : decode cX8_undo 48 = .ok (.getfield 13, 3) := by decide +kernel
theorem dX8_undo_51 : decode cX8_undo 51 = .ok (.sipush 770, 3) := by decide +kernel
theorem dX8_undo_54 : decode cX8_undo 54 = .ok (.iload_n 1, 1) := by decide +kernel
theorem dX8_undo_55 : decode cX8_undo 55 = .ok (.imul, 1) := by decide +kernel
theorem dX8_undo_56 : decode cX8_undo 56 = .ok (.iload_n 2, 1) := by decide +kernel
theorem dX8_undo_57 : decode cX8_undo 57 = .ok (.iadd, 1) := by decide +kernel
theorem dX8_undo_58 : decode cX8_undo 58 = .ok (.iaload, 1) := by decide +kernel
theorem dX8_undo_59 : decode cX8_undo 59 = .ok (.iastore, 1) := by decide +kernel
theorem dX8_undo_60 : decode cX8_undo 60 = .ok (.iinc 2 1, 3) := by decide +kernel
theorem dX8_undo_63 : decode cX8_undo 63 = .ok (.goto (-28), 3) := by decide +kernel
theorem dX8_undo_66 : decode cX8_undo 66 = .ok (.aload_n 0, 1) := by decide +kernel
theorem dX8_undo_67 : decode cX8_undo 67 = .ok (.getfield 50, 3) := by decide +kernel
theorem dX8_undo_70 : decode cX8_undo 70 = .ok (.ireturn, 1) := by decide +kernel
theorem dX8_save_0 : decode cX8_save 0 = .ok (.iload_n 1, 1) := by decide +kernel
theorem dX8_save_1 : decode cX8_save 1 = .ok (.iconst 0, 1) := by decide +kernel
theorem dX8_save_2 : decode cX8_save 2 = .ok (.iconst 1, 1) := by decide +kernel
theorem dX8_save_3 : decode cX8_save 3 = .ok (.invokestatic 38, 3) := by decide +kernel
theorem dX8_save_6 : decode cX8_save 6 = .ok (.ifCond .ne 6, 3) := by decide +kernel
theorem dX8_save_9 : decode cX8_save 9 = .ok (.bipush (-2), 2) := by decide +kernel
theorem dX8_save_11 : decode cX8_save 11 = .ok (.ireturn, 1) := by decide +kernel
theorem dX8_save_12 : decode cX8_save 12 = .ok (.iconst 0, 1) := by decide +kernel
theorem dX8_save_13 : decode cX8_save 13 = .ok (.istore_n 2, 1) := by decide +kernel
theorem dX8_save_14 : decode cX8_save 14 = .ok (.iload_n 2, 1) := by decide +kernel
theorem dX8_save_15 : decode cX8_save 15 = .ok (.sipush 770, 3) := by decide +kernel
theorem dX8_save_18 : decode cX8_save 18 = .ok (.if_icmp .ge 27, 3) := by decide +kernel
theorem dX8_save_21 : decode cX8_save 21 = .ok (.aload_n 0, 1) := by decide +kernel
theorem dX8_save_22 : decode cX8_save 22 = .ok (.getfield 16, 3) := by decide +kernel
theorem dX8_save_25 : decode cX8_save 25 = .ok (.sipush 770, 3) := by decide +kernel
theorem dX8_save_28 : decode cX8_save 28 = .ok (.iload_n 1, 1) := by decide +kernel
theorem dX8_save_29 : decode cX8_save 29 = .ok (.imul, 1) := by decide +kernel
theorem dX8_save_30 : decode cX8_save 30 = .ok (.iload_n 2, 1) := by decide +kernel
theorem dX8_save_31 : decode cX8_save 31 = .ok (.iadd, 1) := by decide +kernel
theorem dX8_save_32 : decode cX8_save 32 = .ok (.aload_n 0, 1) := by decide +kernel
theorem dX8_save_33 : decode cX8_save 33 = .ok (.getfield 7, 3) := by decide +kernel
theorem dX8_save_36 : decode cX8_save 36 = .ok (.iload_n 2, 1) := by decide +kernel
theorem dX8_save_37 : decode cX8_save 37 = .ok (.iaload, 1) := by decide +kernel
theorem dX8_save_38 : decode cX8_save 38 = .ok (.iastore, 1) := by decide +kernel
theorem dX8_save_39 : decode cX8_save 39 = .ok (.iinc 2 1, 3) := by decide +kernel
theorem dX8_save_42 : decode cX8_save 42 = .ok (.goto (-28), 3) := by decide +kernel
theorem dX8_save_45 : decode cX8_save 45 = .ok (.aload_n 0, 1) := by decide +kernel
theorem dX8_save_46 : decode cX8_save 46 = .ok (.getfield 19, 3) := by decide +kernel
theorem dX8_save_49 : decode cX8_save 49 = .ok (.iload_n 1, 1) := by decide +kernel
theorem dX8_save_50 : decode cX8_save 50 = .ok (.iconst 1, 1) := by decide +kernel
theorem dX8_save_51 : decode cX8_save 51 = .ok (.bastore, 1) := by decide +kernel
theorem dX8_save_52 : decode cX8_save 52 = .ok (.aload_n 0, 1) := by decide +kernel
theorem dX8_save_53 : decode cX8_save 53 = .ok (.getfield 7, 3) := by decide +kernel
theorem dX8_save_56 : decode cX8_save 56 = .ok (.iconst 4, 1) := by decide +kernel
theorem dX8_save_57 : decode cX8_save 57 = .ok (.iaload, 1) := by decide +kernel
theorem dX8_save_58 : decode cX8_save 58 = .ok (.ireturn, 1) := by decide +kernel
theorem dX8_restore_0 : decode cX8_restore 0 = .ok (.iload_n 1, 1) := by decide +kernel
theorem dX8_restore_1 : decode cX8_restore 1 = .ok (.iconst 0, 1) := by decide +kernel
theorem dX8_restore_2 : decode cX8_restore 2 = .ok (.iconst 1, 1) := by decide +kernel
theorem dX8_restore_3 : decode cX8_restore 3 = .ok (.invokestatic 38, 3) := by decide +kernel
theorem dX8_restore_6 : decode cX8_restore 6 = .ok (.ifCond .ne 6, 3) := by decide +kernel
theorem dX8_restore_9 : decode cX8_restore 9 = .ok (.bipush (-2), 2) := by decide +kernel
theorem dX8_restore_11 : decode cX8_restore 11 = .ok (.ireturn, 1) := by decide +kernel
theorem dX8_restore_12 : decode cX8_restore 12 = .ok (.aload_n 0, 1) := by decide +kernel
theorem dX8_restore_13 : decode cX8_restore 13 = .ok (.getfield 19, 3) := by decide +kernel
theorem dX8_restore_16 : decode cX8_restore 16 = .ok (.iload_n 1, 1) := by decide +kernel
theorem dX8_restore_17 : decode cX8_restore 17 = .ok (.baload, 1) := by decide +kernel
theorem dX8_restore_18 : decode cX8_restore 18 = .ok (.ifCond .ne 6, 3) := by decide +kernel
theorem dX8_restore_21 : decode cX8_restore 21 = .ok (.bipush (-5), 2) := by decide +kernel
theorem dX8_restore_23 : decode cX8_restore 23 = .ok (.ireturn, 1) := by decide +kernel
theorem dX8_restore_24 : decode cX8_restore 24 = .ok (.aload_n 0, 1) := by decide +kernel
theorem dX8_restore_25 : decode cX8_restore 25 = .ok (.invokevirtual 57, 3) := by decide +kernel
theorem dX8_restore_28 : decode cX8_restore 28 = .ok (.iconst 0, 1) := by decide +kernel
theorem dX8_restore_29 : decode cX8_restore 29 = .ok (.istore_n 2, 1) := by decide +kernel
theorem dX8_restore_30 : decode cX8_restore 30 = .ok (.iload_n 2, 1) := by decide +kernel
theorem dX8_restore_31 : decode cX8_restore 31 = .ok (.sipush 770, 3) := by decide +kernel
theorem dX8_restore_34 : decode cX8_restore 34 = .ok (.if_icmp .ge 27, 3) := by decide +kernel
theorem dX8_restore_37 : decode cX8_restore 37 = .ok (.aload_n 0, 1) := by decide +kernel
theorem dX8_restore_38 : decode cX8_restore 38 = .ok (.getfield 7, 3) := by decide +kernel
theorem dX8_restore_41 : decode cX8_restore 41 = .ok (.iload_n 2, 1) := by decide +kernel
theorem dX8_restore_42 : decode cX8_restore 42 = .ok (.aload_n 0, 1) := by decide +kernel
theorem dX8_restore_43 : decode cX8_restore 43 = .ok (.getfield 16, 3) := by decide +kernel
theorem dX8_restore_46 : decode cX8_restore 46 = .ok (.sipush 770, 3) := by decide +kernel
theorem dX8_restore_49 : decode cX8_restore 49 = .ok (.iload_n 1, 1) := by decide +kernel
theorem dX8_restore_50 : decode cX8_restore 50 = .ok (.imul, 1) := by decide +kernel
theorem dX8_restore_51 : decode cX8_restore 51 = .ok (.iload_n 2, 1) := by decide +kernel
theorem dX8_restore_52 : decode cX8_restore 52 = .ok (.iadd, 1) := by decide +kernel
theorem dX8_restore_53 : decode cX8_restore 53 = .ok (.iaload, 1) := by decide +kernel
theorem dX8_restore_54 : decode cX8_restore 54 = .ok (.iastore, 1) := by decide +kernel
theorem dX8_restore_55 : decode cX8_restore 55 = .ok (.iinc 2 1, 3) := by decide +kernel
theorem dX8_restore_58 : decode cX8_restore 58 = .ok (.goto (-28), 3) := by decide +kernel
theorem dX8_restore_61 : decode cX8_restore 61 = .ok (.aload_n 0, 1) := by decide +kernel
theorem dX8_restore_62 : decode cX8_restore 62 = .ok (.getfield 7, 3) := by decide +kernel
theorem dX8_restore_65 : decode cX8_restore 65 = .ok (.iconst 4, 1) := by decide +kernel
theorem dX8_restore_66 : decode cX8_restore 66 = .ok (.iaload, 1) := by decide +kernel
theorem dX8_restore_67 : decode cX8_restore 67 = .ok (.ireturn, 1) := by decide +kernel
