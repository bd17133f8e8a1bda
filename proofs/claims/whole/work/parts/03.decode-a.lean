theorem dX0_init_0 : decode cX0_init 0 = .ok (.aload_n 0, 1) := by decide +kernel
theorem dX0_init_1 : decode cX0_init 1 = .ok (.invokespecial 3, 3) := by decide +kernel
theorem dX0_init_4 : decode cX0_init 4 = .ok (.aload_n 0, 1) := by decide +kernel
theorem dX0_init_5 : decode cX0_init 5 = .ok (.bipush 12, 2) := by decide +kernel
theorem dX0_init_7 : decode cX0_init 7 = .ok (.newarray .int, 2) := by decide +kernel
theorem dX0_init_9 : decode cX0_init 9 = .ok (.putfield 9, 3) := by decide +kernel
theorem dX0_init_12 : decode cX0_init 12 = .ok (.return_, 1) := by decide +kernel
theorem dX0_begin_0 : decode cX0_begin 0 = .ok (.aload_n 0, 1) := by decide +kernel
theorem dX0_begin_1 : decode cX0_begin 1 = .ok (.iload_n 1, 1) := by decide +kernel
theorem dX0_begin_2 : decode cX0_begin 2 = .ok (.putfield 15, 3) := by decide +kernel
theorem dX0_begin_5 : decode cX0_begin 5 = .ok (.aload_n 0, 1) := by decide +kernel
theorem dX0_begin_6 : decode cX0_begin 6 = .ok (.iload_n 2, 1) := by decide +kernel
theorem dX0_begin_7 : decode cX0_begin 7 = .ok (.putfield 19, 3) := by decide +kernel
theorem dX0_begin_10 : decode cX0_begin 10 = .ok (.aload_n 0, 1) := by decide +kernel
theorem dX0_begin_11 : decode cX0_begin 11 = .ok (.iload_n 3, 1) := by decide +kernel
theorem dX0_begin_12 : decode cX0_begin 12 = .ok (.putfield 22, 3) := by decide +kernel
theorem dX0_begin_15 : decode cX0_begin 15 = .ok (.aload_n 0, 1) := by decide +kernel
theorem dX0_begin_16 : decode cX0_begin 16 = .ok (.iload 4, 2) := by decide +kernel
theorem dX0_begin_18 : decode cX0_begin 18 = .ok (.putfield 25, 3) := by decide +kernel
theorem dX0_begin_21 : decode cX0_begin 21 = .ok (.aload_n 0, 1) := by decide +kernel
theorem dX0_begin_22 : decode cX0_begin 22 = .ok (.iload 5, 2) := by decide +kernel
theorem dX0_begin_24 : decode cX0_begin 24 = .ok (.putfield 28, 3) := by decide +kernel
theorem dX0_begin_27 : decode cX0_begin 27 = .ok (.aload_n 0, 1) := by decide +kernel
theorem dX0_begin_28 : decode cX0_begin 28 = .ok (.iload_n 3, 1) := by decide +kernel
theorem dX0_begin_29 : decode cX0_begin 29 = .ok (.ifCond .ne 8, 3) := by decide +kernel
theorem dX0_begin_32 : decode cX0_begin 32 = .ok (.iload 5, 2) := by decide +kernel
theorem dX0_begin_34 : decode cX0_begin 34 = .ok (.goto 4, 3) := by decide +kernel
theorem dX0_begin_37 : decode cX0_begin 37 = .ok (.iconst 0, 1) := by decide +kernel
theorem dX0_begin_38 : decode cX0_begin 38 = .ok (.putfield 31, 3) := by decide +kernel
theorem dX0_begin_41 : decode cX0_begin 41 = .ok (.aload_n 0, 1) := by decide +kernel
theorem dX0_begin_42 : decode cX0_begin 42 = .ok (.iconst 0, 1) := by decide +kernel
theorem dX0_begin_43 : decode cX0_begin 43 = .ok (.putfield 34, 3) := by decide +kernel
theorem dX0_begin_46 : decode cX0_begin 46 = .ok (.aload_n 0, 1) := by decide +kernel
theorem dX0_begin_47 : decode cX0_begin 47 = .ok (.iconst 0, 1) := by decide +kernel
theorem dX0_begin_48 : decode cX0_begin 48 = .ok (.putfield 37, 3) := by decide +kernel
theorem dX0_begin_51 : decode cX0_begin 51 = .ok (.return_, 1) := by decide +kernel
theorem dX0_copyFrom_0 : decode cX0_copyFrom 0 = .ok (.aload_n 0, 1) := by decide +kernel
theorem dX0_copyFrom_1 : decode cX0_copyFrom 1 = .ok (.aload_n 1, 1) := by decide +kernel
theorem dX0_copyFrom_2 : decode cX0_copyFrom 2 = .ok (.getfield 22, 3) := by decide +kernel
theorem dX0_copyFrom_5 : decode cX0_copyFrom 5 = .ok (.putfield 22, 3) := by decide +kernel
theorem dX0_copyFrom_8 : decode cX0_copyFrom 8 = .ok (.aload_n 0, 1) := by decide +kernel
theorem dX0_copyFrom_9 : decode cX0_copyFrom 9 = .ok (.aload_n 1, 1) := by decide +kernel
theorem dX0_copyFrom_10 : decode cX0_copyFrom 10 = .ok (.getfield 15, 3) := by decide +kernel
theorem dX0_copyFrom_13 : decode cX0_copyFrom 13 = .ok (.putfield 15, 3) := by decide +kernel
theorem dX0_copyFrom_16 : decode cX0_copyFrom 16 = .ok (.aload_n 0, 1) := by decide +kernel
theorem dX0_copyFrom_17 : decode cX0_copyFrom 17 = .ok (.aload_n 1, 1) := by decide +kernel
theorem dX0_copyFrom_18 : decode cX0_copyFrom 18 = .ok (.getfield 19, 3) := by decide +kernel
theorem dX0_copyFrom_21 : decode cX0_copyFrom 21 = .ok (.putfield 19, 3) := by decide +kernel
theorem dX0_copyFrom_24 : decode cX0_copyFrom 24 = .ok (.aload_n 0, 1) := by decide +kernel
theorem dX0_copyFrom_25 : decode cX0_copyFrom 25 = .ok (.aload_n 1, 1) := by decide +kernel
theorem dX0_copyFrom_26 : decode cX0_copyFrom 26 = .ok (.getfield 25, 3) := by decide +kernel
theorem dX0_copyFrom_29 : decode cX0_copyFrom 29 = .ok (.putfield 25, 3) := by decide +kernel
theorem dX0_copyFrom_32 : decode cX0_copyFrom 32 = .ok (.aload_n 0, 1) := by decide +kernel
theorem dX0_copyFrom_33 : decode cX0_copyFrom 33 = .ok (.aload_n 1, 1) := by decide +kernel
theorem dX0_copyFrom_34 : decode cX0_copyFrom 34 = .ok (.getfield 28, 3) := by decide +kernel
theorem dX0_copyFrom_37 : decode cX0_copyFrom 37 = .ok (.putfield 28, 3) := by decide +kernel
theorem dX0_copyFrom_40 : decode cX0_copyFrom 40 = .ok (.aload_n 0, 1) := by decide +kernel
theorem dX0_copyFrom_41 : decode cX0_copyFrom 41 = .ok (.aload_n 1, 1) := by decide +kernel
theorem dX0_copyFrom_42 : decode cX0_copyFrom 42 = .ok (.getfield 31, 3) := by decide +kernel
theorem dX0_copyFrom_45 : decode cX0_copyFrom 45 = .ok (.putfield 31, 3) := by decide +kernel
theorem dX0_copyFrom_48 : decode cX0_copyFrom 48 = .ok (.aload_n 0, 1) := by decide +kernel
theorem dX0_copyFrom_49 : decode cX0_copyFrom 49 = .ok (.aload_n 1, 1) := by decide +kernel
theorem dX0_copyFrom_50 : decode cX0_copyFrom 50 = .ok (.getfield 34, 3) := by decide +kernel
theorem dX0_copyFrom_53 : decode cX0_copyFrom 53 = .ok (.putfield 34, 3) := by decide +kernel
theorem dX0_copyFrom_56 : decode cX0_copyFrom 56 = .ok (.aload_n 0, 1) := by decide +kernel
theorem dX0_copyFrom_57 : decode cX0_copyFrom 57 = .ok (.aload_n 1, 1) := by decide +kernel
theorem dX0_copyFrom_58 : decode cX0_copyFrom 58 = .ok (.getfield 37, 3) := by decide +kernel
theorem dX0_copyFrom_61 : decode cX0_copyFrom 61 = .ok (.putfield 37, 3) := by decide +kernel
theorem dX0_copyFrom_64 : decode cX0_copyFrom 64 = .ok (.aload_n 1, 1) := by decide +kernel
theorem dX0_copyFrom_65 : decode cX0_copyFrom 65 = .ok (.getfield 9, 3) := by decide +kernel
theorem dX0_copyFrom_68 : decode cX0_copyFrom 68 = .ok (.aload_n 0, 1) := by decide +kernel
theorem dX0_copyFrom_69 : decode cX0_copyFrom 69 = .ok (.getfield 9, 3) := by decide +kernel
theorem dX0_copyFrom_72 : decode cX0_copyFrom 72 = .ok (.invokestatic 40, 3) := by decide +kernel
theorem dX0_copyFrom_75 : decode cX0_copyFrom 75 = .ok (.return_, 1) := by decide +kernel
theorem dX0_keptAt_0 : decode cX0_keptAt 0 = .ok (.iload_n 1, 1) := by decide +kernel
theorem dX0_keptAt_1 : decode cX0_keptAt 1 = .ok (.ifCond .lt 20, 3) := by decide +kernel
theorem dX0_keptAt_4 : decode cX0_keptAt 4 = .ok (.iload_n 1, 1) := by decide +kernel
theorem dX0_keptAt_5 : decode cX0_keptAt 5 = .ok (.aload_n 0, 1) := by decide +kernel
theorem dX0_keptAt_6 : decode cX0_keptAt 6 = .ok (.getfield 37, 3) := by decide +kernel
theorem dX0_keptAt_9 : decode cX0_keptAt 9 = .ok (.if_icmp .ge 12, 3) := by decide +kernel
theorem dX0_keptAt_12 : decode cX0_keptAt 12 = .ok (.aload_n 0, 1) := by decide +kernel
theorem dX0_keptAt_13 : decode cX0_keptAt 13 = .ok (.getfield 9, 3) := by decide +kernel
theorem dX0_keptAt_16 : decode cX0_keptAt 16 = .ok (.iload_n 1, 1) := by decide +kernel
theorem dX0_keptAt_17 : decode cX0_keptAt 17 = .ok (.iaload, 1) := by decide +kernel
theorem dX0_keptAt_18 : decode cX0_keptAt 18 = .ok (.goto 5, 3) := by decide +kernel
theorem dX0_keptAt_21 : decode cX0_keptAt 21 = .ok (.bipush (-6), 2) := by decide +kernel
theorem dX0_keptAt_23 : decode cX0_keptAt 23 = .ok (.ireturn, 1) := by decide +kernel
theorem dX0_keepAsLast_0 : decode cX0_keepAsLast 0 = .ok (.aload_n 0, 1) := by decide +kernel
theorem dX0_keepAsLast_1 : decode cX0_keepAsLast 1 = .ok (.getfield 37, 3) := by decide +kernel
theorem dX0_keepAsLast_4 : decode cX0_keepAsLast 4 = .ok (.bipush 12, 2) := by decide +kernel
theorem dX0_keepAsLast_6 : decode cX0_keepAsLast 6 = .ok (.if_icmp .ge 23, 3) := by decide +kernel
theorem dX0_keepAsLast_9 : decode cX0_keepAsLast 9 = .ok (.aload_n 0, 1) := by decide +kernel
theorem dX0_keepAsLast_10 : decode cX0_keepAsLast 10 = .ok (.getfield 9, 3) := by decide +kernel
theorem dX0_keepAsLast_13 : decode cX0_keepAsLast 13 = .ok (.aload_n 0, 1) := by decide +kernel
theorem dX0_keepAsLast_14 : decode cX0_keepAsLast 14 = .ok (.getfield 37, 3) := by decide +kernel
theorem dX0_keepAsLast_17 : decode cX0_keepAsLast 17 = .ok (.iload_n 1, 1) := by decide +kernel
theorem dX0_keepAsLast_18 : decode cX0_keepAsLast 18 = .ok (.iastore, 1) := by decide +kernel
theorem dX0_keepAsLast_19 : decode cX0_keepAsLast 19 = .ok (.aload_n 0, 1) := by decide +kernel
theorem dX0_keepAsLast_20 : decode cX0_keepAsLast 20 = .ok (.dup, 1) := by decide +kernel
theorem dX0_keepAsLast_21 : decode cX0_keepAsLast 21 = .ok (.getfield 37, 3) := by decide +kernel
theorem dX0_keepAsLast_24 : decode cX0_keepAsLast 24 = .ok (.iconst 1, 1) := by decide +kernel
theorem dX0_keepAsLast_25 : decode cX0_keepAsLast 25 = .ok (.iadd, 1) := by decide +kernel
theorem dX0_keepAsLast_26 : decode cX0_keepAsLast 26 = .ok (.putfield 37, 3) := by decide +kernel
theorem dX0_keepAsLast_29 : decode cX0_keepAsLast 29 = .ok (.return_, 1) := by decide +kernel
theorem dX0_removeFirst_0 : decode cX0_removeFirst 0 = .ok (.aload_n 0, 1) := by decide +kernel
theorem dX0_removeFirst_1 : decode cX0_removeFirst 1 = .ok (.getfield 37, 3) := by decide +kernel
theorem dX0_removeFirst_4 : decode cX0_removeFirst 4 = .ok (.ifCond .le 32, 3) := by decide +kernel
theorem dX0_removeFirst_7 : decode cX0_removeFirst 7 = .ok (.aload_n 0, 1) := by decide +kernel
theorem dX0_removeFirst_8 : decode cX0_removeFirst 8 = .ok (.getfield 9, 3) := by decide +kernel
theorem dX0_removeFirst_11 : decode cX0_removeFirst 11 = .ok (.iconst 1, 1) := by decide +kernel
theorem dX0_removeFirst_12 : decode cX0_removeFirst 12 = .ok (.aload_n 0, 1) := by decide +kernel
theorem dX0_removeFirst_13 : decode cX0_removeFirst 13 = .ok (.getfield 9, 3) := by decide +kernel
theorem dX0_removeFirst_16 : decode cX0_removeFirst 16 = .ok (.iconst 0, 1) := by decide +kernel
theorem dX0_removeFirst_17 : decode cX0_removeFirst 17 = .ok (.aload_n 0, 1) := by decide +kernel
theorem dX0_removeFirst_18 : decode cX0_removeFirst 18 = .ok (.getfield 37, 3) := by decide +kernel
theorem dX0_removeFirst_21 : decode cX0_removeFirst 21 = .ok (.iconst 1, 1) := by decide +kernel
theorem dX0_removeFirst_22 : decode cX0_removeFirst 22 = .ok (.isub, 1) := by decide +kernel
theorem dX0_removeFirst_23 : decode cX0_removeFirst 23 = .ok (.invokestatic 44, 3) := by decide +kernel
theorem dX0_removeFirst_26 : decode cX0_removeFirst 26 = .ok (.aload_n 0, 1) := by decide +kernel
theorem dX0_removeFirst_27 : decode cX0_removeFirst 27 = .ok (.dup, 1) := by decide +kernel
theorem dX0_removeFirst_28 : decode cX0_removeFirst 28 = .ok (.getfield 37, 3) := by decide +kernel
theorem dX0_removeFirst_31 : decode cX0_removeFirst 31 = .ok (.iconst 1, 1) := by decide +kernel
theorem dX0_removeFirst_32 : decode cX0_removeFirst 32 = .ok (.isub, 1) := by decide +kernel
theorem dX0_removeFirst_33 : decode cX0_removeFirst 33 = .ok (.putfield 37, 3) := by decide +kernel
theorem dX0_removeFirst_36 : decode cX0_removeFirst 36 = .ok (.return_, 1) := by decide +kernel
theorem dX0_actOn_0 : decode cX0_actOn 0 = .ok (.aload_n 0, 1) := by decide +kernel
theorem dX0_actOn_1 : decode cX0_actOn 1 = .ok (.getfield 22, 3) := by decide +kernel
theorem dX0_actOn_4 : decode cX0_actOn 4 = .ok (.tableswitch 90 0 4 #[36, 44, 57, 74, 82], 36) := by decide +kernel
theorem dX0_actOn_40 : decode cX0_actOn 40 = .ok (.aload_n 0, 1) := by decide +kernel
theorem dX0_actOn_41 : decode cX0_actOn 41 = .ok (.aload_n 1, 1) := by decide +kernel
theorem dX0_actOn_42 : decode cX0_actOn 42 = .ok (.invokevirtual 50, 3) := by decide +kernel
theorem dX0_actOn_45 : decode cX0_actOn 45 = .ok (.goto 49, 3) := by decide +kernel
theorem dX0_actOn_48 : decode cX0_actOn 48 = .ok (.aload_n 0, 1) := by decide +kernel
theorem dX0_actOn_49 : decode cX0_actOn 49 = .ok (.aload_n 1, 1) := by decide +kernel
theorem dX0_actOn_50 : decode cX0_actOn 50 = .ok (.aload_n 2, 1) := by decide +kernel
theorem dX0_actOn_51 : decode cX0_actOn 51 = .ok (.iconst 1, 1) := by decide +kernel
theorem dX0_actOn_52 : decode cX0_actOn 52 = .ok (.invokevirtual 54, 3) := by decide +kernel
theorem dX0_actOn_55 : decode cX0_actOn 55 = .ok (.invokevirtual 60, 3) := by decide +kernel
theorem dX0_actOn_58 : decode cX0_actOn 58 = .ok (.goto 36, 3) := by decide +kernel
theorem dX0_actOn_61 : decode cX0_actOn 61 = .ok (.aload_n 0, 1) := by decide +kernel
theorem dX0_actOn_62 : decode cX0_actOn 62 = .ok (.aload_n 1, 1) := by decide +kernel
theorem dX0_actOn_63 : decode cX0_actOn 63 = .ok (.aload_n 2, 1) := by decide +kernel
theorem dX0_actOn_64 : decode cX0_actOn 64 = .ok (.iconst 3, 1) := by decide +kernel
theorem dX0_actOn_65 : decode cX0_actOn 65 = .ok (.invokevirtual 54, 3) := by decide +kernel
theorem dX0_actOn_68 : decode cX0_actOn 68 = .ok (.aload_n 2, 1) := by decide +kernel
theorem dX0_actOn_69 : decode cX0_actOn 69 = .ok (.getfield 64, 3) := by decide +kernel
theorem dX0_actOn_72 : decode cX0_actOn 72 = .ok (.invokevirtual 67, 3) := by decide +kernel
theorem dX0_actOn_75 : decode cX0_actOn 75 = .ok (.goto 19, 3) := by decide +kernel
theorem dX0_actOn_78 : decode cX0_actOn 78 = .ok (.aload_n 0, 1) := by decide +kernel
theorem dX0_actOn_79 : decode cX0_actOn 79 = .ok (.aload_n 1, 1) := by decide +kernel
theorem dX0_actOn_80 : decode cX0_actOn 80 = .ok (.invokevirtual 71, 3) := by decide +kernel
theorem dX0_actOn_83 : decode cX0_actOn 83 = .ok (.goto 11, 3) := by decide +kernel
theorem dX0_actOn_86 : decode cX0_actOn 86 = .ok (.aload_n 0, 1) := by decide +kernel
theorem dX0_actOn_87 : decode cX0_actOn 87 = .ok (.aload_n 1, 1) := by decide +kernel
theorem dX0_actOn_88 : decode cX0_actOn 88 = .ok (.invokevirtual 74, 3) := by decide +kernel
theorem dX0_actOn_91 : decode cX0_actOn 91 = .ok (.goto 3, 3) := by decide +kernel
theorem dX0_actOn_94 : decode cX0_actOn 94 = .ok (.return_, 1) := by decide +kernel
theorem dX0_amplify_0 : decode cX0_amplify 0 = .ok (.aload_n 1, 1) := by decide +kernel
theorem dX0_amplify_1 : decode cX0_amplify 1 = .ok (.aload_n 0, 1) := by decide +kernel
theorem dX0_amplify_2 : decode cX0_amplify 2 = .ok (.getfield 19, 3) := by decide +kernel
theorem dX0_amplify_5 : decode cX0_amplify 5 = .ok (.invokevirtual 77, 3) := by decide +kernel
theorem dX0_amplify_8 : decode cX0_amplify 8 = .ok (.istore_n 2, 1) := by decide +kernel
theorem dX0_amplify_9 : decode cX0_amplify 9 = .ok (.iload_n 2, 1) := by decide +kernel
theorem dX0_amplify_10 : decode cX0_amplify 10 = .ok (.ifCond .ne 4, 3) := by decide +kernel
theorem dX0_amplify_13 : decode cX0_amplify 13 = .ok (.return_, 1) := by decide +kernel
theorem dX0_amplify_14 : decode cX0_amplify 14 = .ok (.aload_n 0, 1) := by decide +kernel
theorem dX0_amplify_15 : decode cX0_amplify 15 = .ok (.getfield 25, 3) := by decide +kernel
theorem dX0_amplify_18 : decode cX0_amplify 18 = .ok (.aload_n 0, 1) := by decide +kernel
theorem dX0_amplify_19 : decode cX0_amplify 19 = .ok (.getfield 31, 3) := by decide +kernel
theorem dX0_amplify_22 : decode cX0_amplify 22 = .ok (.invokestatic 82, 3) := by decide +kernel
theorem dX0_amplify_25 : decode cX0_amplify 25 = .ok (.sipush 1000, 3) := by decide +kernel
theorem dX0_amplify_28 : decode cX0_amplify 28 = .ok (.iload_n 2, 1) := by decide +kernel
theorem dX0_amplify_29 : decode cX0_amplify 29 = .ok (.isub, 1) := by decide +kernel
theorem dX0_amplify_30 : decode cX0_amplify 30 = .ok (.invokestatic 82, 3) := by decide +kernel
theorem dX0_amplify_33 : decode cX0_amplify 33 = .ok (.istore_n 3, 1) := by decide +kernel
theorem dX0_amplify_34 : decode cX0_amplify 34 = .ok (.iload_n 3, 1) := by decide +kernel
theorem dX0_amplify_35 : decode cX0_amplify 35 = .ok (.ifCond .le 32, 3) := by decide +kernel
theorem dX0_amplify_38 : decode cX0_amplify 38 = .ok (.aload_n 1, 1) := by decide +kernel
theorem dX0_amplify_39 : decode cX0_amplify 39 = .ok (.aload_n 0, 1) := by decide +kernel
theorem dX0_amplify_40 : decode cX0_amplify 40 = .ok (.getfield 19, 3) := by decide +kernel
theorem dX0_amplify_43 : decode cX0_amplify 43 = .ok (.iload_n 3, 1) := by decide +kernel
theorem dX0_amplify_44 : decode cX0_amplify 44 = .ok (.invokevirtual 88, 3) := by decide +kernel
theorem dX0_amplify_47 : decode cX0_amplify 47 = .ok (.aload_n 0, 1) := by decide +kernel
theorem dX0_amplify_48 : decode cX0_amplify 48 = .ok (.dup, 1) := by decide +kernel
theorem dX0_amplify_49 : decode cX0_amplify 49 = .ok (.getfield 31, 3) := by decide +kernel
theorem dX0_amplify_52 : decode cX0_amplify 52 = .ok (.iload_n 3, 1) := by decide +kernel
theorem dX0_amplify_53 : decode cX0_amplify 53 = .ok (.isub, 1) := by decide +kernel
theorem dX0_amplify_54 : decode cX0_amplify 54 = .ok (.putfield 31, 3) := by decide +kernel
theorem dX0_amplify_57 : decode cX0_amplify 57 = .ok (.aload_n 0, 1) := by decide +kernel
theorem dX0_amplify_58 : decode cX0_amplify 58 = .ok (.dup, 1) := by decide +kernel
theorem dX0_amplify_59 : decode cX0_amplify 59 = .ok (.getfield 34, 3) := by decide +kernel
theorem dX0_amplify_62 : decode cX0_amplify 62 = .ok (.iconst 1, 1) := by decide +kernel
theorem dX0_amplify_63 : decode cX0_amplify 63 = .ok (.iadd, 1) := by decide +kernel
theorem dX0_amplify_64 : decode cX0_amplify 64 = .ok (.putfield 34, 3) := by decide +kernel
theorem dX0_amplify_67 : decode cX0_amplify 67 = .ok (.return_, 1) := by decide +kernel
theorem dX0_note_0 : decode cX0_note 0 = .ok (.aload_n 1, 1) := by decide +kernel
theorem dX0_note_1 : decode cX0_note 1 = .ok (.aload_n 0, 1) := by decide +kernel
theorem dX0_note_2 : decode cX0_note 2 = .ok (.getfield 19, 3) := by decide +kernel
theorem dX0_note_5 : decode cX0_note 5 = .ok (.invokevirtual 77, 3) := by decide +kernel
theorem dX0_note_8 : decode cX0_note 8 = .ok (.ifCond .ne 4, 3) := by decide +kernel
theorem dX0_note_11 : decode cX0_note 11 = .ok (.return_, 1) := by decide +kernel
theorem dX0_note_12 : decode cX0_note 12 = .ok (.aload_n 0, 1) := by decide +kernel
theorem dX0_note_13 : decode cX0_note 13 = .ok (.aload_n 0, 1) := by decide +kernel
theorem dX0_note_14 : decode cX0_note 14 = .ok (.getfield 37, 3) := by decide +kernel
theorem dX0_note_17 : decode cX0_note 17 = .ok (.iconst 1, 1) := by decide +kernel
theorem dX0_note_18 : decode cX0_note 18 = .ok (.iadd, 1) := by decide +kernel
theorem dX0_note_19 : decode cX0_note 19 = .ok (.bipush 8, 2) := by decide +kernel
theorem dX0_note_21 : decode cX0_note 21 = .ok (.invokestatic 82, 3) := by decide +kernel
theorem dX0_note_24 : decode cX0_note 24 = .ok (.putfield 37, 3) := by decide +kernel
theorem dX0_note_27 : decode cX0_note 27 = .ok (.aload_n 0, 1) := by decide +kernel
theorem dX0_note_28 : decode cX0_note 28 = .ok (.getfield 9, 3) := by decide +kernel
theorem dX0_note_31 : decode cX0_note 31 = .ok (.aload_n 0, 1) := by decide +kernel
theorem dX0_note_32 : decode cX0_note 32 = .ok (.getfield 37, 3) := by decide +kernel
theorem dX0_note_35 : decode cX0_note 35 = .ok (.invokestatic 92, 3) := by decide +kernel
theorem dX0_note_38 : decode cX0_note 38 = .ok (.aload_n 0, 1) := by decide +kernel
theorem dX0_note_39 : decode cX0_note 39 = .ok (.getfield 9, 3) := by decide +kernel
theorem dX0_note_42 : decode cX0_note 42 = .ok (.iconst 0, 1) := by decide +kernel
theorem dX0_note_43 : decode cX0_note 43 = .ok (.aload_n 1, 1) := by decide +kernel
theorem dX0_note_44 : decode cX0_note 44 = .ok (.aload_n 0, 1) := by decide +kernel
theorem dX0_note_45 : decode cX0_note 45 = .ok (.getfield 19, 3) := by decide +kernel
theorem dX0_note_48 : decode cX0_note 48 = .ok (.invokevirtual 96, 3) := by decide +kernel
theorem dX0_note_51 : decode cX0_note 51 = .ok (.iastore, 1) := by decide +kernel
theorem dX0_note_52 : decode cX0_note 52 = .ok (.aload_n 1, 1) := by decide +kernel
theorem dX0_note_53 : decode cX0_note 53 = .ok (.aload_n 0, 1) := by decide +kernel
theorem dX0_note_54 : decode cX0_note 54 = .ok (.getfield 19, 3) := by decide +kernel
theorem dX0_note_57 : decode cX0_note 57 = .ok (.iload_n 2, 1) := by decide +kernel
theorem dX0_note_58 : decode cX0_note 58 = .ok (.invokevirtual 99, 3) := by decide +kernel
theorem dX0_note_61 : decode cX0_note 61 = .ok (.aload_n 0, 1) := by decide +kernel
theorem dX0_note_62 : decode cX0_note 62 = .ok (.dup, 1) := by decide +kernel
theorem dX0_note_63 : decode cX0_note 63 = .ok (.getfield 34, 3) := by decide +kernel
theorem dX0_note_66 : decode cX0_note 66 = .ok (.iconst 1, 1) := by decide +kernel
theorem dX0_note_67 : decode cX0_note 67 = .ok (.iadd, 1) := by decide +kernel
theorem dX0_note_68 : decode cX0_note 68 = .ok (.putfield 34, 3) := by decide +kernel
theorem dX0_note_71 : decode cX0_note 71 = .ok (.return_, 1) := by decide +kernel
theorem dX0_putNext_0 : decode cX0_putNext 0 = .ok (.aload_n 0, 1) := by decide +kernel
theorem dX0_putNext_1 : decode cX0_putNext 1 = .ok (.getfield 37, 3) := by decide +kernel
theorem dX0_putNext_4 : decode cX0_putNext 4 = .ok (.ifCond .le 44, 3) := by decide +kernel
theorem dX0_putNext_7 : decode cX0_putNext 7 = .ok (.aload_n 1, 1) := by decide +kernel
theorem dX0_putNext_8 : decode cX0_putNext 8 = .ok (.aload_n 0, 1) := by decide +kernel
theorem dX0_putNext_9 : decode cX0_putNext 9 = .ok (.getfield 19, 3) := by decide +kernel
theorem dX0_putNext_12 : decode cX0_putNext 12 = .ok (.invokevirtual 77, 3) := by decide +kernel
theorem dX0_putNext_15 : decode cX0_putNext 15 = .ok (.ifCond .ne 33, 3) := by decide +kernel
theorem dX0_putNext_18 : decode cX0_putNext 18 = .ok (.aload_n 1, 1) := by decide +kernel
theorem dX0_putNext_19 : decode cX0_putNext 19 = .ok (.aload_n 0, 1) := by decide +kernel
theorem dX0_putNext_20 : decode cX0_putNext 20 = .ok (.getfield 19, 3) := by decide +kernel
theorem dX0_putNext_23 : decode cX0_putNext 23 = .ok (.aload_n 0, 1) := by decide +kernel
theorem dX0_putNext_24 : decode cX0_putNext 24 = .ok (.getfield 9, 3) := by decide +kernel
theorem dX0_putNext_27 : decode cX0_putNext 27 = .ok (.iconst 0, 1) := by decide +kernel
theorem dX0_putNext_28 : decode cX0_putNext 28 = .ok (.iaload, 1) := by decide +kernel
theorem dX0_putNext_29 : decode cX0_putNext 29 = .ok (.iload_n 2, 1) := by decide +kernel
theorem dX0_putNext_30 : decode cX0_putNext 30 = .ok (.iload_n 3, 1) := by decide +kernel
theorem dX0_putNext_31 : decode cX0_putNext 31 = .ok (.invokevirtual 102, 3) := by decide +kernel
theorem dX0_putNext_34 : decode cX0_putNext 34 = .ok (.aload_n 0, 1) := by decide +kernel
theorem dX0_putNext_35 : decode cX0_putNext 35 = .ok (.invokevirtual 106, 3) := by decide +kernel
theorem dX0_putNext_38 : decode cX0_putNext 38 = .ok (.aload_n 0, 1) := by decide +kernel
theorem dX0_putNext_39 : decode cX0_putNext 39 = .ok (.dup, 1) := by decide +kernel
theorem dX0_putNext_40 : decode cX0_putNext 40 = .ok (.getfield 34, 3) := by decide +kernel
theorem dX0_putNext_43 : decode cX0_putNext 43 = .ok (.iconst 1, 1) := by decide +kernel
theorem dX0_putNext_44 : decode cX0_putNext 44 = .ok (.iadd, 1) := by decide +kernel
theorem dX0_putNext_45 : decode cX0_putNext 45 = .ok (.putfield 34, 3) := by decide +kernel
theorem dX0_putNext_48 : decode cX0_putNext 48 = .ok (.return_, 1) := by decide +kernel
theorem dX0_change_0 : decode cX0_change 0 = .ok (.aload_n 1, 1) := by decide +kernel
theorem dX0_change_1 : decode cX0_change 1 = .ok (.aload_n 0, 1) := by decide +kernel
theorem dX0_change_2 : decode cX0_change 2 = .ok (.getfield 19, 3) := by decide +kernel
theorem dX0_change_5 : decode cX0_change 5 = .ok (.invokevirtual 96, 3) := by decide +kernel
theorem dX0_change_8 : decode cX0_change 8 = .ok (.aload_n 0, 1) := by decide +kernel
theorem dX0_change_9 : decode cX0_change 9 = .ok (.getfield 25, 3) := by decide +kernel
theorem dX0_change_12 : decode cX0_change 12 = .ok (.if_icmp .ne 25, 3) := by decide +kernel
theorem dX0_change_15 : decode cX0_change 15 = .ok (.aload_n 1, 1) := by decide +kernel
theorem dX0_change_16 : decode cX0_change 16 = .ok (.aload_n 0, 1) := by decide +kernel
theorem dX0_change_17 : decode cX0_change 17 = .ok (.getfield 19, 3) := by decide +kernel
theorem dX0_change_20 : decode cX0_change 20 = .ok (.aload_n 0, 1) := by decide +kernel
theorem dX0_change_21 : decode cX0_change 21 = .ok (.getfield 28, 3) := by decide +kernel
theorem dX0_change_24 : decode cX0_change 24 = .ok (.invokevirtual 109, 3) := by decide +kernel
theorem dX0_change_27 : decode cX0_change 27 = .ok (.aload_n 0, 1) := by decide +kernel
theorem dX0_change_28 : decode cX0_change 28 = .ok (.dup, 1) := by decide +kernel
theorem dX0_change_29 : decode cX0_change 29 = .ok (.getfield 34, 3) := by decide +kernel
theorem dX0_change_32 : decode cX0_change 32 = .ok (.iconst 1, 1) := by decide +kernel
theorem dX0_change_33 : decode cX0_change 33 = .ok (.iadd, 1) := by decide +kernel
theorem dX0_change_34 : decode cX0_change 34 = .ok (.putfield 34, 3) := by decide +kernel
theorem dX0_change_37 : decode cX0_change 37 = .ok (.return_, 1) := by decide +kernel
theorem dX0_dropValue_0 : decode cX0_dropValue 0 = .ok (.aload_n 1, 1) := by decide +kernel
theorem dX0_dropValue_1 : decode cX0_dropValue 1 = .ok (.aload_n 0, 1) := by decide +kernel
theorem dX0_dropValue_2 : decode cX0_dropValue 2 = .ok (.getfield 19, 3) := by decide +kernel
theorem dX0_dropValue_5 : decode cX0_dropValue 5 = .ok (.invokevirtual 96, 3) := by decide +kernel
theorem dX0_dropValue_8 : decode cX0_dropValue 8 = .ok (.aload_n 0, 1) := by decide +kernel
theorem dX0_dropValue_9 : decode cX0_dropValue 9 = .ok (.getfield 25, 3) := by decide +kernel
theorem dX0_dropValue_12 : decode cX0_dropValue 12 = .ok (.if_icmp .ne 21, 3) := by decide +kernel
theorem dX0_dropValue_15 : decode cX0_dropValue 15 = .ok (.aload_n 1, 1) := by decide +kernel
theorem dX0_dropValue_16 : decode cX0_dropValue 16 = .ok (.aload_n 0, 1) := by decide +kernel
theorem dX0_dropValue_17 : decode cX0_dropValue 17 = .ok (.getfield 19, 3) := by decide +kernel
theorem dX0_dropValue_20 : decode cX0_dropValue 20 = .ok (.invokevirtual 112, 3) := by decide +kernel
theorem dX0_dropValue_23 : decode cX0_dropValue 23 = .ok (.aload_n 0, 1) := by decide +kernel
theorem dX0_dropValue_24 : decode cX0_dropValue 24 = .ok (.dup, 1) := by decide +kernel
theorem dX0_dropValue_25 : decode cX0_dropValue 25 = .ok (.getfield 34, 3) := by decide +kernel
theorem dX0_dropValue_28 : decode cX0_dropValue 28 = .ok (.iconst 1, 1) := by decide +kernel
theorem dX0_dropValue_29 : decode cX0_dropValue 29 = .ok (.iadd, 1) := by decide +kernel
theorem dX0_dropValue_30 : decode cX0_dropValue 30 = .ok (.putfield 34, 3) := by decide +kernel
theorem dX0_dropValue_33 : decode cX0_dropValue 33 = .ok (.return_, 1) := by decide +kernel
theorem dX0_rest_0 : decode cX0_rest 0 = .ok (.aload_n 0, 1) := by decide +kernel
theorem dX0_rest_1 : decode cX0_rest 1 = .ok (.getfield 22, 3) := by decide +kernel
theorem dX0_rest_4 : decode cX0_rest 4 = .ok (.ifCond .ne 20, 3) := by decide +kernel
theorem dX0_rest_7 : decode cX0_rest 7 = .ok (.aload_n 0, 1) := by decide +kernel
theorem dX0_rest_8 : decode cX0_rest 8 = .ok (.aload_n 0, 1) := by decide +kernel
theorem dX0_rest_9 : decode cX0_rest 9 = .ok (.getfield 31, 3) := by decide +kernel
theorem dX0_rest_12 : decode cX0_rest 12 = .ok (.iload_n 1, 1) := by decide +kernel
theorem dX0_rest_13 : decode cX0_rest 13 = .ok (.iadd, 1) := by decide +kernel
theorem dX0_rest_14 : decode cX0_rest 14 = .ok (.aload_n 0, 1) := by decide +kernel
theorem dX0_rest_15 : decode cX0_rest 15 = .ok (.getfield 28, 3) := by decide +kernel
theorem dX0_rest_18 : decode cX0_rest 18 = .ok (.invokestatic 82, 3) := by decide +kernel
theorem dX0_rest_21 : decode cX0_rest 21 = .ok (.putfield 31, 3) := by decide +kernel
theorem dX0_rest_24 : decode cX0_rest 24 = .ok (.return_, 1) := by decide +kernel
theorem dX1_init_0 : decode cX1_init 0 = .ok (.aload_n 0, 1) := by decide +kernel
theorem dX1_init_1 : decode cX1_init 1 = .ok (.invokespecial 3, 3) := by decide +kernel
theorem dX1_init_4 : decode cX1_init 4 = .ok (.aload_n 0, 1) := by decide +kernel
theorem dX1_init_5 : decode cX1_init 5 = .ok (.bipush 7, 2) := by decide +kernel
theorem dX1_init_7 : decode cX1_init 7 = .ok (.anewarray 9, 3) := by decide +kernel
theorem dX1_init_10 : decode cX1_init 10 = .ok (.putfield 11, 3) := by decide +kernel
theorem dX1_init_13 : decode cX1_init 13 = .ok (.iconst 0, 1) := by decide +kernel
theorem dX1_init_14 : decode cX1_init 14 = .ok (.istore_n 1, 1) := by decide +kernel
theorem dX1_init_15 : decode cX1_init 15 = .ok (.iload_n 1, 1) := by decide +kernel
theorem dX1_init_16 : decode cX1_init 16 = .ok (.bipush 6, 2) := by decide +kernel
theorem dX1_init_18 : decode cX1_init 18 = .ok (.if_icmp .gt 22, 3) := by decide +kernel
theorem dX1_init_21 : decode cX1_init 21 = .ok (.aload_n 0, 1) := by decide +kernel
theorem dX1_init_22 : decode cX1_init 22 = .ok (.getfield 11, 3) := by decide +kernel
theorem dX1_init_25 : decode cX1_init 25 = .ok (.iload_n 1, 1) := by decide +kernel
theorem dX1_init_26 : decode cX1_init 26 = .ok (.new 9, 3) := by decide +kernel
theorem dX1_init_29 : decode cX1_init 29 = .ok (.dup, 1) := by decide +kernel
theorem dX1_init_30 : decode cX1_init 30 = .ok (.invokespecial 17, 3) := by decide +kernel
theorem dX1_init_33 : decode cX1_init 33 = .ok (.aastore, 1) := by decide +kernel
theorem dX1_init_34 : decode cX1_init 34 = .ok (.iinc 1 1, 3) := by decide +kernel
theorem dX1_init_37 : decode cX1_init 37 = .ok (.goto (-22), 3) := by decide +kernel
theorem dX1_init_40 : decode cX1_init 40 = .ok (.return_, 1) := by decide +kernel
theorem dX1_holdBack_0 : decode cX1_holdBack 0 = .ok (.aload_n 0, 1) := by decide +kernel
theorem dX1_holdBack_1 : decode cX1_holdBack 1 = .ok (.getfield 11, 3) := by decide +kernel
theorem dX1_holdBack_4 : decode cX1_holdBack 4 = .ok (.aload_n 0, 1) := by decide +kernel
theorem dX1_holdBack_5 : decode cX1_holdBack 5 = .ok (.getfield 18, 3) := by decide +kernel
theorem dX1_holdBack_8 : decode cX1_holdBack 8 = .ok (.aaload, 1) := by decide +kernel
theorem dX1_holdBack_9 : decode cX1_holdBack 9 = .ok (.aload_n 1, 1) := by decide +kernel
theorem dX1_holdBack_10 : decode cX1_holdBack 10 = .ok (.invokevirtual 22, 3) := by decide +kernel
theorem dX1_holdBack_13 : decode cX1_holdBack 13 = .ok (.return_, 1) := by decide +kernel
theorem dX1_keepIfDone_0 : decode cX1_keepIfDone 0 = .ok (.iload_n 1, 1) := by decide +kernel
theorem dX1_keepIfDone_1 : decode cX1_keepIfDone 1 = .ok (.ifCond .ge 5, 3) := by decide +kernel
theorem dX1_keepIfDone_4 : decode cX1_keepIfDone 4 = .ok (.iload_n 1, 1) := by decide +kernel
theorem dX1_keepIfDone_5 : decode cX1_keepIfDone 5 = .ok (.ireturn, 1) := by decide +kernel
theorem dX1_keepIfDone_6 : decode cX1_keepIfDone 6 = .ok (.aload_n 0, 1) := by decide +kernel
theorem dX1_keepIfDone_7 : decode cX1_keepIfDone 7 = .ok (.getfield 18, 3) := by decide +kernel
theorem dX1_keepIfDone_10 : decode cX1_keepIfDone 10 = .ok (.bipush 6, 2) := by decide +kernel
theorem dX1_keepIfDone_12 : decode cX1_keepIfDone 12 = .ok (.if_icmp .ge 16, 3) := by decide +kernel
theorem dX1_keepIfDone_15 : decode cX1_keepIfDone 15 = .ok (.aload_n 0, 1) := by decide +kernel
theorem dX1_keepIfDone_16 : decode cX1_keepIfDone 16 = .ok (.dup, 1) := by decide +kernel
theorem dX1_keepIfDone_17 : decode cX1_keepIfDone 17 = .ok (.getfield 18, 3) := by decide +kernel
theorem dX1_keepIfDone_20 : decode cX1_keepIfDone 20 = .ok (.iconst 1, 1) := by decide +kernel
theorem dX1_keepIfDone_21 : decode cX1_keepIfDone 21 = .ok (.iadd, 1) := by decide +kernel
theorem dX1_keepIfDone_22 : decode cX1_keepIfDone 22 = .ok (.putfield 18, 3) := by decide +kernel
theorem dX1_keepIfDone_25 : decode cX1_keepIfDone 25 = .ok (.goto 7, 3) := by decide +kernel
theorem dX1_keepIfDone_28 : decode cX1_keepIfDone 28 = .ok (.aload_n 0, 1) := by decide +kernel
theorem dX1_keepIfDone_29 : decode cX1_keepIfDone 29 = .ok (.invokevirtual 26, 3) := by decide +kernel
theorem dX1_keepIfDone_32 : decode cX1_keepIfDone 32 = .ok (.iload_n 1, 1) := by decide +kernel
theorem dX1_keepIfDone_33 : decode cX1_keepIfDone 33 = .ok (.ireturn, 1) := by decide +kernel
theorem dX1_dropOldest_0 : decode cX1_dropOldest 0 = .ok (.aload_n 0, 1) := by decide +kernel
theorem dX1_dropOldest_1 : decode cX1_dropOldest 1 = .ok (.getfield 11, 3) := by decide +kernel
theorem dX1_dropOldest_4 : decode cX1_dropOldest 4 = .ok (.iconst 0, 1) := by decide +kernel
theorem dX1_dropOldest_5 : decode cX1_dropOldest 5 = .ok (.aaload, 1) := by decide +kernel
theorem dX1_dropOldest_6 : decode cX1_dropOldest 6 = .ok (.astore_n 1, 1) := by decide +kernel
theorem dX1_dropOldest_7 : decode cX1_dropOldest 7 = .ok (.iconst 0, 1) := by decide +kernel
theorem dX1_dropOldest_8 : decode cX1_dropOldest 8 = .ok (.istore_n 2, 1) := by decide +kernel
theorem dX1_dropOldest_9 : decode cX1_dropOldest 9 = .ok (.iload_n 2, 1) := by decide +kernel
theorem dX1_dropOldest_10 : decode cX1_dropOldest 10 = .ok (.bipush 6, 2) := by decide +kernel
theorem dX1_dropOldest_12 : decode cX1_dropOldest 12 = .ok (.if_icmp .ge 23, 3) := by decide +kernel
theorem dX1_dropOldest_15 : decode cX1_dropOldest 15 = .ok (.aload_n 0, 1) := by decide +kernel
theorem dX1_dropOldest_16 : decode cX1_dropOldest 16 = .ok (.getfield 11, 3) := by decide +kernel
theorem dX1_dropOldest_19 : decode cX1_dropOldest 19 = .ok (.iload_n 2, 1) := by decide +kernel
theorem dX1_dropOldest_20 : decode cX1_dropOldest 20 = .ok (.aload_n 0, 1) := by decide +kernel
theorem dX1_dropOldest_21 : decode cX1_dropOldest 21 = .ok (.getfield 11, 3) := by decide +kernel
theorem dX1_dropOldest_24 : decode cX1_dropOldest 24 = .ok (.iload_n 2, 1) := by decide +kernel
theorem dX1_dropOldest_25 : decode cX1_dropOldest 25 = .ok (.iconst 1, 1) := by decide +kernel
theorem dX1_dropOldest_26 : decode cX1_dropOldest 26 = .ok (.iadd, 1) := by decide +kernel
theorem dX1_dropOldest_27 : decode cX1_dropOldest 27 = .ok (.aaload, 1) := by decide +kernel
theorem dX1_dropOldest_28 : decode cX1_dropOldest 28 = .ok (.aastore, 1) := by decide +kernel
theorem dX1_dropOldest_29 : decode cX1_dropOldest 29 = .ok (.iinc 2 1, 3) := by decide +kernel
theorem dX1_dropOldest_32 : decode cX1_dropOldest 32 = .ok (.goto (-23), 3) := by decide +kernel
theorem dX1_dropOldest_35 : decode cX1_dropOldest 35 = .ok (.aload_n 0, 1) := by decide +kernel
theorem dX1_dropOldest_36 : decode cX1_dropOldest 36 = .ok (.getfield 11, 3) := by decide +kernel
theorem dX1_dropOldest_39 : decode cX1_dropOldest 39 = .ok (.bipush 6, 2) := by decide +kernel
theorem dX1_dropOldest_41 : decode cX1_dropOldest 41 = .ok (.aload_n 1, 1) := by decide +kernel
theorem dX1_dropOldest_42 : decode cX1_dropOldest 42 = .ok (.aastore, 1) := by decide +kernel
theorem dX1_dropOldest_43 : decode cX1_dropOldest 43 = .ok (.return_, 1) := by decide +kernel
theorem dX1_takeLatest_0 : decode cX1_takeLatest 0 = .ok (.aload_n 0, 1) := by decide +kernel
theorem dX1_takeLatest_1 : decode cX1_takeLatest 1 = .ok (.getfield 18, 3) := by decide +kernel
theorem dX1_takeLatest_4 : decode cX1_takeLatest 4 = .ok (.ifCond .ne 5, 3) := by decide +kernel
theorem dX1_takeLatest_7 : decode cX1_takeLatest 7 = .ok (.aconst_null, 1) := by decide +kernel
theorem dX1_takeLatest_8 : decode cX1_takeLatest 8 = .ok (.areturn, 1) := by decide +kernel
theorem dX1_takeLatest_9 : decode cX1_takeLatest 9 = .ok (.aload_n 0, 1) := by decide +kernel
theorem dX1_takeLatest_10 : decode cX1_takeLatest 10 = .ok (.dup, 1) := by decide +kernel
theorem dX1_takeLatest_11 : decode cX1_takeLatest 11 = .ok (.getfield 18, 3) := by decide +kernel
theorem dX1_takeLatest_14 : decode cX1_takeLatest 14 = .ok (.iconst 1, 1) := by decide +kernel
theorem dX1_takeLatest_15 : decode cX1_takeLatest 15 = .ok (.isub, 1) := by decide +kernel
theorem dX1_takeLatest_16 : decode cX1_takeLatest 16 = .ok (.putfield 18, 3) := by decide +kernel
theorem dX1_takeLatest_19 : decode cX1_takeLatest 19 = .ok (.aload_n 0, 1) := by decide +kernel
theorem dX1_takeLatest_20 : decode cX1_takeLatest 20 = .ok (.getfield 11, 3) := by decide +kernel
theorem dX1_takeLatest_23 : decode cX1_takeLatest 23 = .ok (.aload_n 0, 1) := by decide +kernel
theorem dX1_takeLatest_24 : decode cX1_takeLatest 24 = .ok (.getfield 18, 3) := by decide +kernel
theorem dX1_takeLatest_27 : decode cX1_takeLatest 27 = .ok (.aaload, 1) := by decide +kernel
theorem dX1_takeLatest_28 : decode cX1_takeLatest 28 = .ok (.areturn, 1) := by decide +kernel
theorem dX2_init_0 : decode cX2_init 0 = .ok (.aload_n 0, 1) := by decide +kernel
theorem dX2_init_1 : decode cX2_init 1 = .ok (.invokespecial 3, 3) := by decide +kernel
theorem dX2_init_4 : decode cX2_init 4 = .ok (.return_, 1) := by decide +kernel
theorem dX2_begin_0 : decode cX2_begin 0 = .ok (.aload_n 0, 1) := by decide +kernel
theorem dX2_begin_1 : decode cX2_begin 1 = .ok (.iload_n 1, 1) := by decide +kernel
theorem dX2_begin_2 : decode cX2_begin 2 = .ok (.putfield 9, 3) := by decide +kernel
theorem dX2_begin_5 : decode cX2_begin 5 = .ok (.aload_n 0, 1) := by decide +kernel
theorem dX2_begin_6 : decode cX2_begin 6 = .ok (.iload_n 2, 1) := by decide +kernel
theorem dX2_begin_7 : decode cX2_begin 7 = .ok (.putfield 15, 3) := by decide +kernel
theorem dX2_begin_10 : decode cX2_begin 10 = .ok (.aload_n 0, 1) := by decide +kernel
theorem dX2_begin_11 : decode cX2_begin 11 = .ok (.iload_n 3, 1) := by decide +kernel
theorem dX2_begin_12 : decode cX2_begin 12 = .ok (.putfield 18, 3) := by decide +kernel
theorem dX2_begin_15 : decode cX2_begin 15 = .ok (.aload_n 0, 1) := by decide +kernel
theorem dX2_begin_16 : decode cX2_begin 16 = .ok (.iload 4, 2) := by decide +kernel
theorem dX2_begin_18 : decode cX2_begin 18 = .ok (.putfield 21, 3) := by decide +kernel
theorem dX2_begin_21 : decode cX2_begin 21 = .ok (.aload_n 0, 1) := by decide +kernel
theorem dX2_begin_22 : decode cX2_begin 22 = .ok (.iconst 0, 1) := by decide +kernel
theorem dX2_begin_23 : decode cX2_begin 23 = .ok (.putfield 24, 3) := by decide +kernel
theorem dX2_begin_26 : decode cX2_begin 26 = .ok (.aload_n 0, 1) := by decide +kernel
theorem dX2_begin_27 : decode cX2_begin 27 = .ok (.iconst 0, 1) := by decide +kernel
theorem dX2_begin_28 : decode cX2_begin 28 = .ok (.putfield 27, 3) := by decide +kernel
theorem dX2_begin_31 : decode cX2_begin 31 = .ok (.return_, 1) := by decide +kernel
theorem dX2_copyFrom_0 : decode cX2_copyFrom 0 = .ok (.aload_n 0, 1) := by decide +kernel
theorem dX2_copyFrom_1 : decode cX2_copyFrom 1 = .ok (.aload_n 1, 1) := by decide +kernel
theorem dX2_copyFrom_2 : decode cX2_copyFrom 2 = .ok (.getfield 9, 3) := by decide +kernel
theorem dX2_copyFrom_5 : decode cX2_copyFrom 5 = .ok (.putfield 9, 3) := by decide +kernel
theorem dX2_copyFrom_8 : decode cX2_copyFrom 8 = .ok (.aload_n 0, 1) := by decide +kernel
theorem dX2_copyFrom_9 : decode cX2_copyFrom 9 = .ok (.aload_n 1, 1) := by decide +kernel
theorem dX2_copyFrom_10 : decode cX2_copyFrom 10 = .ok (.getfield 15, 3) := by decide +kernel
theorem dX2_copyFrom_13 : decode cX2_copyFrom 13 = .ok (.putfield 15, 3) := by decide +kernel
theorem dX2_copyFrom_16 : decode cX2_copyFrom 16 = .ok (.aload_n 0, 1) := by decide +kernel
theorem dX2_copyFrom_17 : decode cX2_copyFrom 17 = .ok (.aload_n 1, 1) := by decide +kernel
theorem dX2_copyFrom_18 : decode cX2_copyFrom 18 = .ok (.getfield 18, 3) := by decide +kernel
theorem dX2_copyFrom_21 : decode cX2_copyFrom 21 = .ok (.putfield 18, 3) := by decide +kernel
theorem dX2_copyFrom_24 : decode cX2_copyFrom 24 = .ok (.aload_n 0, 1) := by decide +kernel
theorem dX2_copyFrom_25 : decode cX2_copyFrom 25 = .ok (.aload_n 1, 1) := by decide +kernel
theorem dX2_copyFrom_26 : decode cX2_copyFrom 26 = .ok (.getfield 21, 3) := by decide +kernel
theorem dX2_copyFrom_29 : decode cX2_copyFrom 29 = .ok (.putfield 21, 3) := by decide +kernel
theorem dX2_copyFrom_32 : decode cX2_copyFrom 32 = .ok (.aload_n 0, 1) := by decide +kernel
theorem dX2_copyFrom_33 : decode cX2_copyFrom 33 = .ok (.aload_n 1, 1) := by decide +kernel
theorem dX2_copyFrom_34 : decode cX2_copyFrom 34 = .ok (.getfield 24, 3) := by decide +kernel
theorem dX2_copyFrom_37 : decode cX2_copyFrom 37 = .ok (.putfield 24, 3) := by decide +kernel
theorem dX2_copyFrom_40 : decode cX2_copyFrom 40 = .ok (.aload_n 0, 1) := by decide +kernel
theorem dX2_copyFrom_41 : decode cX2_copyFrom 41 = .ok (.aload_n 1, 1) := by decide +kernel
theorem dX2_copyFrom_42 : decode cX2_copyFrom 42 = .ok (.getfield 27, 3) := by decide +kernel
theorem dX2_copyFrom_45 : decode cX2_copyFrom 45 = .ok (.putfield 27, 3) := by decide +kernel
theorem dX2_copyFrom_48 : decode cX2_copyFrom 48 = .ok (.return_, 1) := by decide +kernel
theorem dX2_actOn_0 : decode cX2_actOn 0 = .ok (.aload_n 1, 1) := by decide +kernel
theorem dX2_actOn_1 : decode cX2_actOn 1 = .ok (.aload_n 0, 1) := by decide +kernel
theorem dX2_actOn_2 : decode cX2_actOn 2 = .ok (.getfield 15, 3) := by decide +kernel
theorem dX2_actOn_5 : decode cX2_actOn 5 = .ok (.invokevirtual 30, 3) := by decide +kernel
theorem dX2_actOn_8 : decode cX2_actOn 8 = .ok (.ifCond .le 7, 3) := by decide +kernel
theorem dX2_actOn_11 : decode cX2_actOn 11 = .ok (.iconst 1, 1) := by decide +kernel
theorem dX2_actOn_12 : decode cX2_actOn 12 = .ok (.goto 4, 3) := by decide +kernel
theorem dX2_actOn_15 : decode cX2_actOn 15 = .ok (.iconst 0, 1) := by decide +kernel
theorem dX2_actOn_16 : decode cX2_actOn 16 = .ok (.istore_n 3, 1) := by decide +kernel
theorem dX2_actOn_17 : decode cX2_actOn 17 = .ok (.aload_n 2, 1) := by decide +kernel
theorem dX2_actOn_18 : decode cX2_actOn 18 = .ok (.aload_n 0, 1) := by decide +kernel
theorem dX2_actOn_19 : decode cX2_actOn 19 = .ok (.getfield 21, 3) := by decide +kernel
theorem dX2_actOn_22 : decode cX2_actOn 22 = .ok (.invokevirtual 30, 3) := by decide +kernel
theorem dX2_actOn_25 : decode cX2_actOn 25 = .ok (.ifCond .le 7, 3) := by decide +kernel
theorem dX2_actOn_28 : decode cX2_actOn 28 = .ok (.iconst 1, 1) := by decide +kernel
theorem dX2_actOn_29 : decode cX2_actOn 29 = .ok (.goto 4, 3) := by decide +kernel
theorem dX2_actOn_32 : decode cX2_actOn 32 = .ok (.iconst 0, 1) := by decide +kernel
theorem dX2_actOn_33 : decode cX2_actOn 33 = .ok (.istore 4, 2) := by decide +kernel
theorem dX2_actOn_35 : decode cX2_actOn 35 = .ok (.aload_n 0, 1) := by decide +kernel
theorem dX2_actOn_36 : decode cX2_actOn 36 = .ok (.getfield 24, 3) := by decide +kernel
theorem dX2_actOn_39 : decode cX2_actOn 39 = .ok (.ifCond .eq 16, 3) := by decide +kernel
theorem dX2_actOn_42 : decode cX2_actOn 42 = .ok (.aload_n 0, 1) := by decide +kernel
theorem dX2_actOn_43 : decode cX2_actOn 43 = .ok (.getfield 24, 3) := by decide +kernel
theorem dX2_actOn_46 : decode cX2_actOn 46 = .ok (.iconst 2, 1) := by decide +kernel
theorem dX2_actOn_47 : decode cX2_actOn 47 = .ok (.if_icmp .ne 9, 3) := by decide +kernel
theorem dX2_actOn_50 : decode cX2_actOn 50 = .ok (.iload 4, 2) := by decide +kernel
theorem dX2_actOn_52 : decode cX2_actOn 52 = .ok (.ifCond .eq 4, 3) := by decide +kernel
theorem dX2_actOn_55 : decode cX2_actOn 55 = .ok (.return_, 1) := by decide +kernel
theorem dX2_actOn_56 : decode cX2_actOn 56 = .ok (.aload_n 1, 1) := by decide +kernel
theorem dX2_actOn_57 : decode cX2_actOn 57 = .ok (.aload_n 0, 1) := by decide +kernel
theorem dX2_actOn_58 : decode cX2_actOn 58 = .ok (.getfield 15, 3) := by decide +kernel
theorem dX2_actOn_61 : decode cX2_actOn 61 = .ok (.aload_n 2, 1) := by decide +kernel
theorem dX2_actOn_62 : decode cX2_actOn 62 = .ok (.aload_n 0, 1) := by decide +kernel
theorem dX2_actOn_63 : decode cX2_actOn 63 = .ok (.getfield 21, 3) := by decide +kernel
theorem dX2_actOn_66 : decode cX2_actOn 66 = .ok (.invokevirtual 36, 3) := by decide +kernel
theorem dX2_actOn_69 : decode cX2_actOn 69 = .ok (.iload_n 3, 1) := by decide +kernel
theorem dX2_actOn_70 : decode cX2_actOn 70 = .ok (.ifCond .eq 18, 3) := by decide +kernel
theorem dX2_actOn_73 : decode cX2_actOn 73 = .ok (.aload_n 1, 1) := by decide +kernel
theorem dX2_actOn_74 : decode cX2_actOn 74 = .ok (.aload_n 2, 1) := by decide +kernel
theorem dX2_actOn_75 : decode cX2_actOn 75 = .ok (.invokevirtual 40, 3) := by decide +kernel
theorem dX2_actOn_78 : decode cX2_actOn 78 = .ok (.aload_n 0, 1) := by decide +kernel
theorem dX2_actOn_79 : decode cX2_actOn 79 = .ok (.dup, 1) := by decide +kernel
theorem dX2_actOn_80 : decode cX2_actOn 80 = .ok (.getfield 27, 3) := by decide +kernel
theorem dX2_actOn_83 : decode cX2_actOn 83 = .ok (.iconst 1, 1) := by decide +kernel
theorem dX2_actOn_84 : decode cX2_actOn 84 = .ok (.iadd, 1) := by decide +kernel
theorem dX2_actOn_85 : decode cX2_actOn 85 = .ok (.putfield 27, 3) := by decide +kernel
theorem dX2_actOn_88 : decode cX2_actOn 88 = .ok (.iload 4, 2) := by decide +kernel
theorem dX2_actOn_90 : decode cX2_actOn 90 = .ok (.ifCond .eq 18, 3) := by decide +kernel
theorem dX2_actOn_93 : decode cX2_actOn 93 = .ok (.aload_n 2, 1) := by decide +kernel
theorem dX2_actOn_94 : decode cX2_actOn 94 = .ok (.aload_n 1, 1) := by decide +kernel
theorem dX2_actOn_95 : decode cX2_actOn 95 = .ok (.invokevirtual 40, 3) := by decide +kernel
theorem dX2_actOn_98 : decode cX2_actOn 98 = .ok (.aload_n 0, 1) := by decide +kernel
theorem dX2_actOn_99 : decode cX2_actOn 99 = .ok (.dup, 1) := by decide +kernel
theorem dX2_actOn_100 : decode cX2_actOn 100 = .ok (.getfield 27, 3) := by decide +kernel
theorem dX2_actOn_103 : decode cX2_actOn 103 = .ok (.iconst 1, 1) := by decide +kernel
theorem dX2_actOn_104 : decode cX2_actOn 104 = .ok (.iadd, 1) := by decide +kernel
theorem dX2_actOn_105 : decode cX2_actOn 105 = .ok (.putfield 27, 3) := by decide +kernel
theorem dX2_actOn_108 : decode cX2_actOn 108 = .ok (.return_, 1) := by decide +kernel
theorem dX3_init_0 : decode cX3_init 0 = .ok (.aload_n 0, 1) := by decide +kernel
theorem dX3_init_1 : decode cX3_init 1 = .ok (.invokespecial 3, 3) := by decide +kernel
theorem dX3_init_4 : decode cX3_init 4 = .ok (.aload_n 0, 1) := by decide +kernel
theorem dX3_init_5 : decode cX3_init 5 = .ok (.bipush 80, 2) := by decide +kernel
theorem dX3_init_7 : decode cX3_init 7 = .ok (.newarray .int, 2) := by decide +kernel
theorem dX3_init_9 : decode cX3_init 9 = .ok (.putfield 9, 3) := by decide +kernel
theorem dX3_init_12 : decode cX3_init 12 = .ok (.aload_n 0, 1) := by decide +kernel
theorem dX3_init_13 : decode cX3_init 13 = .ok (.aload_n 1, 1) := by decide +kernel
theorem dX3_init_14 : decode cX3_init 14 = .ok (.putfield 15, 3) := by decide +kernel
theorem dX3_init_17 : decode cX3_init 17 = .ok (.return_, 1) := by decide +kernel
theorem dX3_goToStart_0 : decode cX3_goToStart 0 = .ok (.aload_n 0, 1) := by decide +kernel
theorem dX3_goToStart_1 : decode cX3_goToStart 1 = .ok (.iconst 0, 1) := by decide +kernel
theorem dX3_goToStart_2 : decode cX3_goToStart 2 = .ok (.putfield 19, 3) := by decide +kernel
theorem dX3_goToStart_5 : decode cX3_goToStart 5 = .ok (.return_, 1) := by decide +kernel
theorem dX3_number_0 : decode cX3_number 0 = .ok (.iload_n 1, 1) := by decide +kernel
theorem dX3_number_1 : decode cX3_number 1 = .ok (.ifCond .lt 20, 3) := by decide +kernel
theorem dX3_number_4 : decode cX3_number 4 = .ok (.iload_n 1, 1) := by decide +kernel
theorem dX3_number_5 : decode cX3_number 5 = .ok (.aload_n 0, 1) := by decide +kernel
theorem dX3_number_6 : decode cX3_number 6 = .ok (.getfield 23, 3) := by decide +kernel
theorem dX3_number_9 : decode cX3_number 9 = .ok (.if_icmp .ge 12, 3) := by decide +kernel
theorem dX3_number_12 : decode cX3_number 12 = .ok (.aload_n 0, 1) := by decide +kernel
theorem dX3_number_13 : decode cX3_number 13 = .ok (.getfield 9, 3) := by decide +kernel
theorem dX3_number_16 : decode cX3_number 16 = .ok (.iload_n 1, 1) := by decide +kernel
theorem dX3_number_17 : decode cX3_number 17 = .ok (.iaload, 1) := by decide +kernel
theorem dX3_number_18 : decode cX3_number 18 = .ok (.goto 4, 3) := by decide +kernel
theorem dX3_number_21 : decode cX3_number 21 = .ok (.iconst 0, 1) := by decide +kernel
theorem dX3_number_22 : decode cX3_number 22 = .ok (.ireturn, 1) := by decide +kernel
theorem dX3_firstFault_0 : decode cX3_firstFault 0 = .ok (.aload_n 0, 1) := by decide +kernel
theorem dX3_firstFault_1 : decode cX3_firstFault 1 = .ok (.invokevirtual 26, 3) := by decide +kernel
theorem dX3_firstFault_4 : decode cX3_firstFault 4 = .ok (.iconst 0, 1) := by decide +kernel
theorem dX3_firstFault_5 : decode cX3_firstFault 5 = .ok (.istore_n 1, 1) := by decide +kernel
theorem dX3_firstFault_6 : decode cX3_firstFault 6 = .ok (.iload_n 1, 1) := by decide +kernel
theorem dX3_firstFault_7 : decode cX3_firstFault 7 = .ok (.bipush 80, 2) := by decide +kernel
theorem dX3_firstFault_9 : decode cX3_firstFault 9 = .ok (.if_icmp .ge 52, 3) := by decide +kernel
theorem dX3_firstFault_12 : decode cX3_firstFault 12 = .ok (.aload_n 0, 1) := by decide +kernel
theorem dX3_firstFault_13 : decode cX3_firstFault 13 = .ok (.invokevirtual 29, 3) := by decide +kernel
theorem dX3_firstFault_16 : decode cX3_firstFault 16 = .ok (.ifCond .ne 8, 3) := by decide +kernel
theorem dX3_firstFault_19 : decode cX3_firstFault 19 = .ok (.aload_n 0, 1) := by decide +kernel
theorem dX3_firstFault_20 : decode cX3_firstFault 20 = .ok (.getfield 19, 3) := by decide +kernel
theorem dX3_firstFault_23 : decode cX3_firstFault 23 = .ok (.ireturn, 1) := by decide +kernel
theorem dX3_firstFault_24 : decode cX3_firstFault 24 = .ok (.aload_n 0, 1) := by decide +kernel
theorem dX3_firstFault_25 : decode cX3_firstFault 25 = .ok (.getfield 19, 3) := by decide +kernel
theorem dX3_firstFault_28 : decode cX3_firstFault 28 = .ok (.aload_n 0, 1) := by decide +kernel
theorem dX3_firstFault_29 : decode cX3_firstFault 29 = .ok (.getfield 15, 3) := by decide +kernel
theorem dX3_firstFault_32 : decode cX3_firstFault 32 = .ok (.getfield 33, 3) := by decide +kernel
theorem dX3_firstFault_35 : decode cX3_firstFault 35 = .ok (.if_icmp .ne 6, 3) := by decide +kernel
theorem dX3_firstFault_38 : decode cX3_firstFault 38 = .ok (.bipush (-6), 2) := by decide +kernel
theorem dX3_firstFault_40 : decode cX3_firstFault 40 = .ok (.ireturn, 1) := by decide +kernel
theorem dX3_firstFault_41 : decode cX3_firstFault 41 = .ok (.aload_n 0, 1) := by decide +kernel
theorem dX3_firstFault_42 : decode cX3_firstFault 42 = .ok (.bipush 59, 2) := by decide +kernel
theorem dX3_firstFault_44 : decode cX3_firstFault 44 = .ok (.invokevirtual 38, 3) := by decide +kernel
theorem dX3_firstFault_47 : decode cX3_firstFault 47 = .ok (.ifCond .ne 8, 3) := by decide +kernel
theorem dX3_firstFault_50 : decode cX3_firstFault 50 = .ok (.aload_n 0, 1) := by decide +kernel
theorem dX3_firstFault_51 : decode cX3_firstFault 51 = .ok (.getfield 19, 3) := by decide +kernel
theorem dX3_firstFault_54 : decode cX3_firstFault 54 = .ok (.ireturn, 1) := by decide +kernel
theorem dX3_firstFault_55 : decode cX3_firstFault 55 = .ok (.iinc 1 1, 3) := by decide +kernel
theorem dX3_firstFault_58 : decode cX3_firstFault 58 = .ok (.goto (-52), 3) := by decide +kernel
theorem dX3_firstFault_61 : decode cX3_firstFault 61 = .ok (.aload_n 0, 1) := by decide +kernel
theorem dX3_firstFault_62 : decode cX3_firstFault 62 = .ok (.getfield 19, 3) := by decide +kernel
theorem dX3_firstFault_65 : decode cX3_firstFault 65 = .ok (.ireturn, 1) := by decide +kernel
theorem dX3_readNext_0 : decode cX3_readNext 0 = .ok (.aload_n 0, 1) := by decide +kernel
theorem dX3_readNext_1 : decode cX3_readNext 1 = .ok (.bipush 59, 2) := by decide +kernel
theorem dX3_readNext_3 : decode cX3_readNext 3 = .ok (.invokevirtual 38, 3) := by decide +kernel
theorem dX3_readNext_6 : decode cX3_readNext 6 = .ok (.pop, 1) := by decide +kernel
theorem dX3_readNext_7 : decode cX3_readNext 7 = .ok (.aload_n 0, 1) := by decide +kernel
theorem dX3_readNext_8 : decode cX3_readNext 8 = .ok (.invokevirtual 29, 3) := by decide +kernel
theorem dX3_readNext_11 : decode cX3_readNext 11 = .ok (.ireturn, 1) := by decide +kernel
theorem dX3_readOrder_0 : decode cX3_readOrder 0 = .ok (.aload_n 0, 1) := by decide +kernel
theorem dX3_readOrder_1 : decode cX3_readOrder 1 = .ok (.aload_n 0, 1) := by decide +kernel
theorem dX3_readOrder_2 : decode cX3_readOrder 2 = .ok (.getfield 15, 3) := by decide +kernel
theorem dX3_readOrder_5 : decode cX3_readOrder 5 = .ok (.aload_n 0, 1) := by decide +kernel
theorem dX3_readOrder_6 : decode cX3_readOrder 6 = .ok (.getfield 19, 3) := by decide +kernel
theorem dX3_readOrder_9 : decode cX3_readOrder 9 = .ok (.invokevirtual 42, 3) := by decide +kernel
theorem dX3_readOrder_12 : decode cX3_readOrder 12 = .ok (.putfield 46, 3) := by decide +kernel
theorem dX3_readOrder_15 : decode cX3_readOrder 15 = .ok (.aload_n 0, 1) := by decide +kernel
theorem dX3_readOrder_16 : decode cX3_readOrder 16 = .ok (.iconst 0, 1) := by decide +kernel
theorem dX3_readOrder_17 : decode cX3_readOrder 17 = .ok (.putfield 23, 3) := by decide +kernel
theorem dX3_readOrder_20 : decode cX3_readOrder 20 = .ok (.aload_n 0, 1) := by decide +kernel
theorem dX3_readOrder_21 : decode cX3_readOrder 21 = .ok (.bipush 102, 2) := by decide +kernel
theorem dX3_readOrder_23 : decode cX3_readOrder 23 = .ok (.invokevirtual 38, 3) := by decide +kernel
theorem dX3_readOrder_26 : decode cX3_readOrder 26 = .ok (.ifCond .eq 32, 3) := by decide +kernel
theorem dX3_readOrder_29 : decode cX3_readOrder 29 = .ok (.aload_n 0, 1) := by decide +kernel
theorem dX3_readOrder_30 : decode cX3_readOrder 30 = .ok (.invokevirtual 50, 3) := by decide +kernel
theorem dX3_readOrder_33 : decode cX3_readOrder 33 = .ok (.ifCond .eq 23, 3) := by decide +kernel
theorem dX3_readOrder_36 : decode cX3_readOrder 36 = .ok (.aload_n 0, 1) := by decide +kernel
theorem dX3_readOrder_37 : decode cX3_readOrder 37 = .ok (.bipush 58, 2) := by decide +kernel
theorem dX3_readOrder_39 : decode cX3_readOrder 39 = .ok (.invokevirtual 38, 3) := by decide +kernel
theorem dX3_readOrder_42 : decode cX3_readOrder 42 = .ok (.ifCond .eq 14, 3) := by decide +kernel
theorem dX3_readOrder_45 : decode cX3_readOrder 45 = .ok (.aload_n 0, 1) := by decide +kernel
theorem dX3_readOrder_46 : decode cX3_readOrder 46 = .ok (.invokevirtual 53, 3) := by decide +kernel
theorem dX3_readOrder_49 : decode cX3_readOrder 49 = .ok (.ifCond .eq 7, 3) := by decide +kernel
theorem dX3_readOrder_52 : decode cX3_readOrder 52 = .ok (.iconst 1, 1) := by decide +kernel
theorem dX3_readOrder_53 : decode cX3_readOrder 53 = .ok (.goto 4, 3) := by decide +kernel
theorem dX3_readOrder_56 : decode cX3_readOrder 56 = .ok (.iconst 0, 1) := by decide +kernel
theorem dX3_readOrder_57 : decode cX3_readOrder 57 = .ok (.ireturn, 1) := by decide +kernel
theorem dX3_readOrder_58 : decode cX3_readOrder 58 = .ok (.aload_n 0, 1) := by decide +kernel
theorem dX3_readOrder_59 : decode cX3_readOrder 59 = .ok (.bipush 106, 2) := by decide +kernel
theorem dX3_readOrder_61 : decode cX3_readOrder 61 = .ok (.invokevirtual 38, 3) := by decide +kernel
theorem dX3_readOrder_64 : decode cX3_readOrder 64 = .ok (.ifCond .eq 32, 3) := by decide +kernel
theorem dX3_readOrder_67 : decode cX3_readOrder 67 = .ok (.aload_n 0, 1) := by decide +kernel
theorem dX3_readOrder_68 : decode cX3_readOrder 68 = .ok (.invokevirtual 50, 3) := by decide +kernel
theorem dX3_readOrder_71 : decode cX3_readOrder 71 = .ok (.ifCond .eq 23, 3) := by decide +kernel
theorem dX3_readOrder_74 : decode cX3_readOrder 74 = .ok (.aload_n 0, 1) := by decide +kernel
theorem dX3_readOrder_75 : decode cX3_readOrder 75 = .ok (.bipush 61, 2) := by decide +kernel
theorem dX3_readOrder_77 : decode cX3_readOrder 77 = .ok (.invokevirtual 38, 3) := by decide +kernel
theorem dX3_readOrder_80 : decode cX3_readOrder 80 = .ok (.ifCond .eq 14, 3) := by decide +kernel
theorem dX3_readOrder_83 : decode cX3_readOrder 83 = .ok (.aload_n 0, 1) := by decide +kernel
theorem dX3_readOrder_84 : decode cX3_readOrder 84 = .ok (.invokevirtual 56, 3) := by decide +kernel
theorem dX3_readOrder_87 : decode cX3_readOrder 87 = .ok (.ifCond .eq 7, 3) := by decide +kernel
theorem dX3_readOrder_90 : decode cX3_readOrder 90 = .ok (.iconst 1, 1) := by decide +kernel
theorem dX3_readOrder_91 : decode cX3_readOrder 91 = .ok (.goto 4, 3) := by decide +kernel
theorem dX3_readOrder_94 : decode cX3_readOrder 94 = .ok (.iconst 0, 1) := by decide +kernel
theorem dX3_readOrder_95 : decode cX3_readOrder 95 = .ok (.ireturn, 1) := by decide +kernel
theorem dX3_readOrder_96 : decode cX3_readOrder 96 = .ok (.aload_n 0, 1) := by decide +kernel
theorem dX3_readOrder_97 : decode cX3_readOrder 97 = .ok (.bipush 108, 2) := by decide +kernel
theorem dX3_readOrder_99 : decode cX3_readOrder 99 = .ok (.invokevirtual 38, 3) := by decide +kernel
theorem dX3_readOrder_102 : decode cX3_readOrder 102 = .ok (.ifCond .eq 48, 3) := by decide +kernel
theorem dX3_readOrder_105 : decode cX3_readOrder 105 = .ok (.aload_n 0, 1) := by decide +kernel
theorem dX3_readOrder_106 : decode cX3_readOrder 106 = .ok (.invokevirtual 50, 3) := by decide +kernel
theorem dX3_readOrder_109 : decode cX3_readOrder 109 = .ok (.ifCond .eq 39, 3) := by decide +kernel
theorem dX3_readOrder_112 : decode cX3_readOrder 112 = .ok (.aload_n 0, 1) := by decide +kernel
theorem dX3_readOrder_113 : decode cX3_readOrder 113 = .ok (.bipush 58, 2) := by decide +kernel
theorem dX3_readOrder_115 : decode cX3_readOrder 115 = .ok (.invokevirtual 38, 3) := by decide +kernel
theorem dX3_readOrder_118 : decode cX3_readOrder 118 = .ok (.ifCond .eq 30, 3) := by decide +kernel
theorem dX3_readOrder_121 : decode cX3_readOrder 121 = .ok (.aload_n 0, 1) := by decide +kernel
theorem dX3_readOrder_122 : decode cX3_readOrder 122 = .ok (.invokevirtual 50, 3) := by decide +kernel
theorem dX3_readOrder_125 : decode cX3_readOrder 125 = .ok (.ifCond .eq 23, 3) := by decide +kernel
theorem dX3_readOrder_128 : decode cX3_readOrder 128 = .ok (.aload_n 0, 1) := by decide +kernel
theorem dX3_readOrder_129 : decode cX3_readOrder 129 = .ok (.bipush 61, 2) := by decide +kernel
theorem dX3_readOrder_131 : decode cX3_readOrder 131 = .ok (.invokevirtual 38, 3) := by decide +kernel
theorem dX3_readOrder_134 : decode cX3_readOrder 134 = .ok (.ifCond .eq 14, 3) := by decide +kernel
theorem dX3_readOrder_137 : decode cX3_readOrder 137 = .ok (.aload_n 0, 1) := by decide +kernel
theorem dX3_readOrder_138 : decode cX3_readOrder 138 = .ok (.invokevirtual 50, 3) := by decide +kernel
theorem dX3_readOrder_141 : decode cX3_readOrder 141 = .ok (.ifCond .eq 7, 3) := by decide +kernel
theorem dX3_readOrder_144 : decode cX3_readOrder 144 = .ok (.iconst 1, 1) := by decide +kernel
theorem dX3_readOrder_145 : decode cX3_readOrder 145 = .ok (.goto 4, 3) := by decide +kernel
theorem dX3_readOrder_148 : decode cX3_readOrder 148 = .ok (.iconst 0, 1) := by decide +kernel
theorem dX3_readOrder_149 : decode cX3_readOrder 149 = .ok (.ireturn, 1) := by decide +kernel
theorem dX3_readOrder_150 : decode cX3_readOrder 150 = .ok (.aload_n 0, 1) := by decide +kernel
theorem dX3_readOrder_151 : decode cX3_readOrder 151 = .ok (.bipush 116, 2) := by decide +kernel
theorem dX3_readOrder_153 : decode cX3_readOrder 153 = .ok (.invokevirtual 38, 3) := by decide +kernel
theorem dX3_readOrder_156 : decode cX3_readOrder 156 = .ok (.ifCond .eq 14, 3) := by decide +kernel
theorem dX3_readOrder_159 : decode cX3_readOrder 159 = .ok (.aload_n 0, 1) := by decide +kernel
theorem dX3_readOrder_160 : decode cX3_readOrder 160 = .ok (.invokevirtual 50, 3) := by decide +kernel
theorem dX3_readOrder_163 : decode cX3_readOrder 163 = .ok (.ifCond .eq 7, 3) := by decide +kernel
theorem dX3_readOrder_166 : decode cX3_readOrder 166 = .ok (.iconst 1, 1) := by decide +kernel
theorem dX3_readOrder_167 : decode cX3_readOrder 167 = .ok (.goto 4, 3) := by decide +kernel
theorem dX3_readOrder_170 : decode cX3_readOrder 170 = .ok (.iconst 0, 1) := by decide +kernel
theorem dX3_readOrder_171 : decode cX3_readOrder 171 = .ok (.ireturn, 1) := by decide +kernel
theorem dX3_take_0 : decode cX3_take 0 = .ok (.aload_n 0, 1) := by decide +kernel
theorem dX3_take_1 : decode cX3_take 1 = .ok (.getfield 15, 3) := by decide +kernel
theorem dX3_take_4 : decode cX3_take 4 = .ok (.aload_n 0, 1) := by decide +kernel
theorem dX3_take_5 : decode cX3_take 5 = .ok (.getfield 19, 3) := by decide +kernel
theorem dX3_take_8 : decode cX3_take 8 = .ok (.invokevirtual 42, 3) := by decide +kernel
theorem dX3_take_11 : decode cX3_take 11 = .ok (.iload_n 1, 1) := by decide +kernel
theorem dX3_take_12 : decode cX3_take 12 = .ok (.if_icmp .eq 5, 3) := by decide +kernel
theorem dX3_take_15 : decode cX3_take 15 = .ok (.iconst 0, 1) := by decide +kernel
theorem dX3_take_16 : decode cX3_take 16 = .ok (.ireturn, 1) := by decide +kernel
theorem dX3_take_17 : decode cX3_take 17 = .ok (.aload_n 0, 1) := by decide +kernel
theorem dX3_take_18 : decode cX3_take 18 = .ok (.dup, 1) := by decide +kernel
theorem dX3_take_19 : decode cX3_take 19 = .ok (.getfield 19, 3) := by decide +kernel
theorem dX3_take_22 : decode cX3_take 22 = .ok (.iconst 1, 1) := by decide +kernel
theorem dX3_take_23 : decode cX3_take 23 = .ok (.iadd, 1) := by decide +kernel
theorem dX3_take_24 : decode cX3_take 24 = .ok (.putfield 19, 3) := by decide +kernel
theorem dX3_take_27 : decode cX3_take 27 = .ok (.iconst 1, 1) := by decide +kernel
theorem dX3_take_28 : decode cX3_take 28 = .ok (.ireturn, 1) := by decide +kernel
theorem dX3_readValues_0 : decode cX3_readValues 0 = .ok (.iconst 0, 1) := by decide +kernel
theorem dX3_readValues_1 : decode cX3_readValues 1 = .ok (.istore_n 1, 1) := by decide +kernel
theorem dX3_readValues_2 : decode cX3_readValues 2 = .ok (.iload_n 1, 1) := by decide +kernel
theorem dX3_readValues_3 : decode cX3_readValues 3 = .ok (.bipush 80, 2) := by decide +kernel
theorem dX3_readValues_5 : decode cX3_readValues 5 = .ok (.if_icmp .ge 29, 3) := by decide +kernel
theorem dX3_readValues_8 : decode cX3_readValues 8 = .ok (.aload_n 0, 1) := by decide +kernel
theorem dX3_readValues_9 : decode cX3_readValues 9 = .ok (.invokevirtual 50, 3) := by decide +kernel
theorem dX3_readValues_12 : decode cX3_readValues 12 = .ok (.ifCond .ne 5, 3) := by decide +kernel
theorem dX3_readValues_15 : decode cX3_readValues 15 = .ok (.iconst 0, 1) := by decide +kernel
theorem dX3_readValues_16 : decode cX3_readValues 16 = .ok (.ireturn, 1) := by decide +kernel
theorem dX3_readValues_17 : decode cX3_readValues 17 = .ok (.aload_n 0, 1) := by decide +kernel
theorem dX3_readValues_18 : decode cX3_readValues 18 = .ok (.bipush 44, 2) := by decide +kernel
theorem dX3_readValues_20 : decode cX3_readValues 20 = .ok (.invokevirtual 38, 3) := by decide +kernel
theorem dX3_readValues_23 : decode cX3_readValues 23 = .ok (.ifCond .ne 5, 3) := by decide +kernel
theorem dX3_readValues_26 : decode cX3_readValues 26 = .ok (.iconst 1, 1) := by decide +kernel
theorem dX3_readValues_27 : decode cX3_readValues 27 = .ok (.ireturn, 1) := by decide +kernel
theorem dX3_readValues_28 : decode cX3_readValues 28 = .ok (.iinc 1 1, 3) := by decide +kernel
theorem dX3_readValues_31 : decode cX3_readValues 31 = .ok (.goto (-29), 3) := by decide +kernel
theorem dX3_readValues_34 : decode cX3_readValues 34 = .ok (.iconst 0, 1) := by decide +kernel
theorem dX3_readValues_35 : decode cX3_readValues 35 = .ok (.ireturn, 1) := by decide +kernel
theorem dX3_digit_0 : decode cX3_digit 0 = .ok (.aload_n 0, 1) := by decide +kernel
theorem dX3_digit_1 : decode cX3_digit 1 = .ok (.getfield 15, 3) := by decide +kernel
theorem dX3_digit_4 : decode cX3_digit 4 = .ok (.aload_n 0, 1) := by decide +kernel
theorem dX3_digit_5 : decode cX3_digit 5 = .ok (.getfield 19, 3) := by decide +kernel
theorem dX3_digit_8 : decode cX3_digit 8 = .ok (.invokevirtual 42, 3) := by decide +kernel
theorem dX3_digit_11 : decode cX3_digit 11 = .ok (.istore_n 1, 1) := by decide +kernel
theorem dX3_digit_12 : decode cX3_digit 12 = .ok (.iload_n 1, 1) := by decide +kernel
theorem dX3_digit_13 : decode cX3_digit 13 = .ok (.bipush 48, 2) := by decide +kernel
theorem dX3_digit_15 : decode cX3_digit 15 = .ok (.bipush 57, 2) := by decide +kernel
theorem dX3_digit_17 : decode cX3_digit 17 = .ok (.invokestatic 59, 3) := by decide +kernel
theorem dX3_digit_20 : decode cX3_digit 20 = .ok (.ifCond .eq 10, 3) := by decide +kernel
theorem dX3_digit_23 : decode cX3_digit 23 = .ok (.iload_n 1, 1) := by decide +kernel
theorem dX3_digit_24 : decode cX3_digit 24 = .ok (.bipush 48, 2) := by decide +kernel
theorem dX3_digit_26 : decode cX3_digit 26 = .ok (.isub, 1) := by decide +kernel
theorem dX3_digit_27 : decode cX3_digit 27 = .ok (.goto 5, 3) := by decide +kernel
theorem dX3_digit_30 : decode cX3_digit 30 = .ok (.bipush (-6), 2) := by decide +kernel
theorem dX3_digit_32 : decode cX3_digit 32 = .ok (.ireturn, 1) := by decide +kernel
theorem dX3_readNumber_0 : decode cX3_readNumber 0 = .ok (.aload_n 0, 1) := by decide +kernel
theorem dX3_readNumber_1 : decode cX3_readNumber 1 = .ok (.invokevirtual 63, 3) := by decide +kernel
theorem dX3_readNumber_4 : decode cX3_readNumber 4 = .ok (.istore_n 1, 1) := by decide +kernel
theorem dX3_readNumber_5 : decode cX3_readNumber 5 = .ok (.iload_n 1, 1) := by decide +kernel
theorem dX3_readNumber_6 : decode cX3_readNumber 6 = .ok (.ifCond .ge 5, 3) := by decide +kernel
theorem dX3_readNumber_9 : decode cX3_readNumber 9 = .ok (.iconst 0, 1) := by decide +kernel
theorem dX3_readNumber_10 : decode cX3_readNumber 10 = .ok (.ireturn, 1) := by decide +kernel
theorem dX3_readNumber_11 : decode cX3_readNumber 11 = .ok (.aload_n 0, 1) := by decide +kernel
theorem dX3_readNumber_12 : decode cX3_readNumber 12 = .ok (.dup, 1) := by decide +kernel
theorem dX3_readNumber_13 : decode cX3_readNumber 13 = .ok (.getfield 19, 3) := by decide +kernel
theorem dX3_readNumber_16 : decode cX3_readNumber 16 = .ok (.iconst 1, 1) := by decide +kernel
theorem dX3_readNumber_17 : decode cX3_readNumber 17 = .ok (.iadd, 1) := by decide +kernel
theorem dX3_readNumber_18 : decode cX3_readNumber 18 = .ok (.putfield 19, 3) := by decide +kernel
theorem dX3_readNumber_21 : decode cX3_readNumber 21 = .ok (.iconst 0, 1) := by decide +kernel
theorem dX3_readNumber_22 : decode cX3_readNumber 22 = .ok (.istore_n 2, 1) := by decide +kernel
theorem dX3_readNumber_23 : decode cX3_readNumber 23 = .ok (.iload_n 2, 1) := by decide +kernel
theorem dX3_readNumber_24 : decode cX3_readNumber 24 = .ok (.iconst 2, 1) := by decide +kernel
theorem dX3_readNumber_25 : decode cX3_readNumber 25 = .ok (.if_icmp .ge 40, 3) := by decide +kernel
theorem dX3_readNumber_28 : decode cX3_readNumber 28 = .ok (.iload_n 1, 1) := by decide +kernel
theorem dX3_readNumber_29 : decode cX3_readNumber 29 = .ok (.ifCond .le 36, 3) := by decide +kernel
theorem dX3_readNumber_32 : decode cX3_readNumber 32 = .ok (.aload_n 0, 1) := by decide +kernel
theorem dX3_readNumber_33 : decode cX3_readNumber 33 = .ok (.invokevirtual 63, 3) := by decide +kernel
theorem dX3_readNumber_36 : decode cX3_readNumber 36 = .ok (.ifCond .lt 29, 3) := by decide +kernel
theorem dX3_readNumber_39 : decode cX3_readNumber 39 = .ok (.iload_n 1, 1) := by decide +kernel
theorem dX3_readNumber_40 : decode cX3_readNumber 40 = .ok (.bipush 10, 2) := by decide +kernel
theorem dX3_readNumber_42 : decode cX3_readNumber 42 = .ok (.imul, 1) := by decide +kernel
theorem dX3_readNumber_43 : decode cX3_readNumber 43 = .ok (.aload_n 0, 1) := by decide +kernel
theorem dX3_readNumber_44 : decode cX3_readNumber 44 = .ok (.invokevirtual 63, 3) := by decide +kernel
theorem dX3_readNumber_47 : decode cX3_readNumber 47 = .ok (.iadd, 1) := by decide +kernel
theorem dX3_readNumber_48 : decode cX3_readNumber 48 = .ok (.istore_n 1, 1) := by decide +kernel
theorem dX3_readNumber_49 : decode cX3_readNumber 49 = .ok (.aload_n 0, 1) := by decide +kernel
theorem dX3_readNumber_50 : decode cX3_readNumber 50 = .ok (.dup, 1) := by decide +kernel
theorem dX3_readNumber_51 : decode cX3_readNumber 51 = .ok (.getfield 19, 3) := by decide +kernel
theorem dX3_readNumber_54 : decode cX3_readNumber 54 = .ok (.iconst 1, 1) := by decide +kernel
theorem dX3_readNumber_55 : decode cX3_readNumber 55 = .ok (.iadd, 1) := by decide +kernel
theorem dX3_readNumber_56 : decode cX3_readNumber 56 = .ok (.putfield 19, 3) := by decide +kernel
theorem dX3_readNumber_59 : decode cX3_readNumber 59 = .ok (.iinc 2 1, 3) := by decide +kernel
theorem dX3_readNumber_62 : decode cX3_readNumber 62 = .ok (.goto (-39), 3) := by decide +kernel
theorem dX3_readNumber_65 : decode cX3_readNumber 65 = .ok (.aload_n 0, 1) := by decide +kernel
theorem dX3_readNumber_66 : decode cX3_readNumber 66 = .ok (.iload_n 1, 1) := by decide +kernel
theorem dX3_readNumber_67 : decode cX3_readNumber 67 = .ok (.invokevirtual 67, 3) := by decide +kernel
theorem dX3_readNumber_70 : decode cX3_readNumber 70 = .ok (.ireturn, 1) := by decide +kernel
theorem dX3_readMode_0 : decode cX3_readMode 0 = .ok (.aload_n 0, 1) := by decide +kernel
theorem dX3_readMode_1 : decode cX3_readMode 1 = .ok (.invokevirtual 63, 3) := by decide +kernel
theorem dX3_readMode_4 : decode cX3_readMode 4 = .ok (.istore_n 1, 1) := by decide +kernel
theorem dX3_readMode_5 : decode cX3_readMode 5 = .ok (.iload_n 1, 1) := by decide +kernel
theorem dX3_readMode_6 : decode cX3_readMode 6 = .ok (.iconst 0, 1) := by decide +kernel
theorem dX3_readMode_7 : decode cX3_readMode 7 = .ok (.iconst 2, 1) := by decide +kernel
theorem dX3_readMode_8 : decode cX3_readMode 8 = .ok (.invokestatic 59, 3) := by decide +kernel
theorem dX3_readMode_11 : decode cX3_readMode 11 = .ok (.ifCond .ne 5, 3) := by decide +kernel
theorem dX3_readMode_14 : decode cX3_readMode 14 = .ok (.iconst 0, 1) := by decide +kernel
theorem dX3_readMode_15 : decode cX3_readMode 15 = .ok (.ireturn, 1) := by decide +kernel
theorem dX3_readMode_16 : decode cX3_readMode 16 = .ok (.aload_n 0, 1) := by decide +kernel
theorem dX3_readMode_17 : decode cX3_readMode 17 = .ok (.dup, 1) := by decide +kernel
theorem dX3_readMode_18 : decode cX3_readMode 18 = .ok (.getfield 19, 3) := by decide +kernel
theorem dX3_readMode_21 : decode cX3_readMode 21 = .ok (.iconst 1, 1) := by decide +kernel
theorem dX3_readMode_22 : decode cX3_readMode 22 = .ok (.iadd, 1) := by decide +kernel
theorem dX3_readMode_23 : decode cX3_readMode 23 = .ok (.putfield 19, 3) := by decide +kernel
theorem dX3_readMode_26 : decode cX3_readMode 26 = .ok (.aload_n 0, 1) := by decide +kernel
theorem dX3_readMode_27 : decode cX3_readMode 27 = .ok (.iload_n 1, 1) := by decide +kernel
theorem dX3_readMode_28 : decode cX3_readMode 28 = .ok (.invokevirtual 67, 3) := by decide +kernel
theorem dX3_readMode_31 : decode cX3_readMode 31 = .ok (.ireturn, 1) := by decide +kernel
theorem dX3_keep_0 : decode cX3_keep 0 = .ok (.aload_n 0, 1) := by decide +kernel
theorem dX3_keep_1 : decode cX3_keep 1 = .ok (.getfield 23, 3) := by decide +kernel
theorem dX3_keep_4 : decode cX3_keep 4 = .ok (.bipush 80, 2) := by decide +kernel
theorem dX3_keep_6 : decode cX3_keep 6 = .ok (.if_icmp .lt 5, 3) := by decide +kernel
theorem dX3_keep_9 : decode cX3_keep 9 = .ok (.iconst 0, 1) := by decide +kernel
theorem dX3_keep_10 : decode cX3_keep 10 = .ok (.ireturn, 1) := by decide +kernel
theorem dX3_keep_11 : decode cX3_keep 11 = .ok (.aload_n 0, 1) := by decide +kernel
theorem dX3_keep_12 : decode cX3_keep 12 = .ok (.getfield 9, 3) := by decide +kernel
theorem dX3_keep_15 : decode cX3_keep 15 = .ok (.aload_n 0, 1) := by decide +kernel
theorem dX3_keep_16 : decode cX3_keep 16 = .ok (.getfield 23, 3) := by decide +kernel
theorem dX3_keep_19 : decode cX3_keep 19 = .ok (.iload_n 1, 1) := by decide +kernel
theorem dX3_keep_20 : decode cX3_keep 20 = .ok (.iastore, 1) := by decide +kernel
theorem dX3_keep_21 : decode cX3_keep 21 = .ok (.aload_n 0, 1) := by decide +kernel
theorem dX3_keep_22 : decode cX3_keep 22 = .ok (.dup, 1) := by decide +kernel
theorem dX3_keep_23 : decode cX3_keep 23 = .ok (.getfield 23, 3) := by decide +kernel
theorem dX3_keep_26 : decode cX3_keep 26 = .ok (.iconst 1, 1) := by decide +kernel
theorem dX3_keep_27 : decode cX3_keep 27 = .ok (.iadd, 1) := by decide +kernel
theorem dX3_keep_28 : decode cX3_keep 28 = .ok (.putfield 23, 3) := by decide +kernel
theorem dX3_keep_31 : decode cX3_keep 31 = .ok (.iconst 1, 1) := by decide +kernel
theorem dX3_keep_32 : decode cX3_keep 32 = .ok (.ireturn, 1) := by decide +kernel
theorem dX4_init_0 : decode cX4_init 0 = .ok (.aload_n 0, 1) := by decide +kernel
theorem dX4_init_1 : decode cX4_init 1 = .ok (.invokespecial 3, 3) := by decide +kernel
theorem dX4_init_4 : decode cX4_init 4 = .ok (.aload_n 0, 1) := by decide +kernel
theorem dX4_init_5 : decode cX4_init 5 = .ok (.bipush 80, 2) := by decide +kernel
theorem dX4_init_7 : decode cX4_init 7 = .ok (.newarray .char, 2) := by decide +kernel
theorem dX4_init_9 : decode cX4_init 9 = .ok (.putfield 9, 3) := by decide +kernel
theorem dX4_init_12 : decode cX4_init 12 = .ok (.return_, 1) := by decide +kernel
theorem dX4_append_0 : decode cX4_append 0 = .ok (.aload_n 0, 1) := by decide +kernel
theorem dX4_append_1 : decode cX4_append 1 = .ok (.getfield 15, 3) := by decide +kernel
theorem dX4_append_4 : decode cX4_append 4 = .ok (.bipush 80, 2) := by decide +kernel
theorem dX4_append_6 : decode cX4_append 6 = .ok (.if_icmp .ge 23, 3) := by decide +kernel
theorem dX4_append_9 : decode cX4_append 9 = .ok (.aload_n 0, 1) := by decide +kernel
theorem dX4_append_10 : decode cX4_append 10 = .ok (.getfield 9, 3) := by decide +kernel
theorem dX4_append_13 : decode cX4_append 13 = .ok (.aload_n 0, 1) := by decide +kernel
theorem dX4_append_14 : decode cX4_append 14 = .ok (.getfield 15, 3) := by decide +kernel
theorem dX4_append_17 : decode cX4_append 17 = .ok (.iload_n 1, 1) := by decide +kernel
theorem dX4_append_18 : decode cX4_append 18 = .ok (.castore, 1) := by decide +kernel
theorem dX4_append_19 : decode cX4_append 19 = .ok (.aload_n 0, 1) := by decide +kernel
theorem dX4_append_20 : decode cX4_append 20 = .ok (.dup, 1) := by decide +kernel
theorem dX4_append_21 : decode cX4_append 21 = .ok (.getfield 15, 3) := by decide +kernel
theorem dX4_append_24 : decode cX4_append 24 = .ok (.iconst 1, 1) := by decide +kernel
theorem dX4_append_25 : decode cX4_append 25 = .ok (.iadd, 1) := by decide +kernel
theorem dX4_append_26 : decode cX4_append 26 = .ok (.putfield 15, 3) := by decide +kernel
theorem dX4_append_29 : decode cX4_append 29 = .ok (.return_, 1) := by decide +kernel
theorem dX4_clear_0 : decode cX4_clear 0 = .ok (.aload_n 0, 1) := by decide +kernel
theorem dX4_clear_1 : decode cX4_clear 1 = .ok (.iconst 0, 1) := by decide +kernel
theorem dX4_clear_2 : decode cX4_clear 2 = .ok (.putfield 15, 3) := by decide +kernel
theorem dX4_clear_5 : decode cX4_clear 5 = .ok (.return_, 1) := by decide +kernel
theorem dX4_signAt_0 : decode cX4_signAt 0 = .ok (.iload_n 1, 1) := by decide +kernel
theorem dX4_signAt_1 : decode cX4_signAt 1 = .ok (.ifCond .lt 20, 3) := by decide +kernel
theorem dX4_signAt_4 : decode cX4_signAt 4 = .ok (.iload_n 1, 1) := by decide +kernel
theorem dX4_signAt_5 : decode cX4_signAt 5 = .ok (.aload_n 0, 1) := by decide +kernel
theorem dX4_signAt_6 : decode cX4_signAt 6 = .ok (.getfield 15, 3) := by decide +kernel
theorem dX4_signAt_9 : decode cX4_signAt 9 = .ok (.if_icmp .ge 12, 3) := by decide +kernel
theorem dX4_signAt_12 : decode cX4_signAt 12 = .ok (.aload_n 0, 1) := by decide +kernel
theorem dX4_signAt_13 : decode cX4_signAt 13 = .ok (.getfield 9, 3) := by decide +kernel
theorem dX4_signAt_16 : decode cX4_signAt 16 = .ok (.iload_n 1, 1) := by decide +kernel
theorem dX4_signAt_17 : decode cX4_signAt 17 = .ok (.caload, 1) := by decide +kernel
theorem dX4_signAt_18 : decode cX4_signAt 18 = .ok (.goto 4, 3) := by decide +kernel
theorem dX4_signAt_21 : decode cX4_signAt 21 = .ok (.iconst 0, 1) := by decide +kernel
theorem dX4_signAt_22 : decode cX4_signAt 22 = .ok (.ireturn, 1) := by decide +kernel
theorem dX5_init_0 : decode cX5_init 0 = .ok (.aload_n 0, 1) := by decide +kernel
theorem dX5_init_1 : decode cX5_init 1 = .ok (.invokespecial 3, 3) := by decide +kernel
theorem dX5_init_4 : decode cX5_init 4 = .ok (.aload_n 0, 1) := by decide +kernel
theorem dX5_init_5 : decode cX5_init 5 = .ok (.bipush 32, 2) := by decide +kernel
theorem dX5_init_7 : decode cX5_init 7 = .ok (.newarray .int, 2) := by decide +kernel
theorem dX5_init_9 : decode cX5_init 9 = .ok (.putfield 9, 3) := by decide +kernel
theorem dX5_init_12 : decode cX5_init 12 = .ok (.aload_n 0, 1) := by decide +kernel
theorem dX5_init_13 : decode cX5_init 13 = .ok (.bipush 32, 2) := by decide +kernel
theorem dX5_init_15 : decode cX5_init 15 = .ok (.newarray .int, 2) := by decide +kernel
theorem dX5_init_17 : decode cX5_init 17 = .ok (.putfield 15, 3) := by decide +kernel
theorem dX5_init_20 : decode cX5_init 20 = .ok (.aload_n 0, 1) := by decide +kernel
theorem dX5_init_21 : decode cX5_init 21 = .ok (.bipush 32, 2) := by decide +kernel
theorem dX5_init_23 : decode cX5_init 23 = .ok (.newarray .int, 2) := by decide +kernel
theorem dX5_init_25 : decode cX5_init 25 = .ok (.putfield 18, 3) := by decide +kernel
theorem dX5_init_28 : decode cX5_init 28 = .ok (.aload_n 0, 1) := by decide +kernel
theorem dX5_init_29 : decode cX5_init 29 = .ok (.iconst 5, 1) := by decide +kernel
theorem dX5_init_30 : decode cX5_init 30 = .ok (.newarray .int, 2) := by decide +kernel
theorem dX5_init_32 : decode cX5_init 32 = .ok (.putfield 21, 3) := by decide +kernel
theorem dX5_init_35 : decode cX5_init 35 = .ok (.return_, 1) := by decide +kernel
theorem dX5_begin_0 : decode cX5_begin 0 = .ok (.aload_n 0, 1) := by decide +kernel
theorem dX5_begin_1 : decode cX5_begin 1 = .ok (.iload_n 1, 1) := by decide +kernel
theorem dX5_begin_2 : decode cX5_begin 2 = .ok (.putfield 24, 3) := by decide +kernel
theorem dX5_begin_5 : decode cX5_begin 5 = .ok (.iconst 0, 1) := by decide +kernel
theorem dX5_begin_6 : decode cX5_begin 6 = .ok (.istore_n 2, 1) := by decide +kernel
theorem dX5_begin_7 : decode cX5_begin 7 = .ok (.iload_n 2, 1) := by decide +kernel
theorem dX5_begin_8 : decode cX5_begin 8 = .ok (.bipush 32, 2) := by decide +kernel
theorem dX5_begin_10 : decode cX5_begin 10 = .ok (.if_icmp .ge 16, 3) := by decide +kernel
theorem dX5_begin_13 : decode cX5_begin 13 = .ok (.aload_n 0, 1) := by decide +kernel
theorem dX5_begin_14 : decode cX5_begin 14 = .ok (.getfield 15, 3) := by decide +kernel
theorem dX5_begin_17 : decode cX5_begin 17 = .ok (.iload_n 2, 1) := by decide +kernel
theorem dX5_begin_18 : decode cX5_begin 18 = .ok (.iconst 0, 1) := by decide +kernel
theorem dX5_begin_19 : decode cX5_begin 19 = .ok (.iastore, 1) := by decide +kernel
theorem dX5_begin_20 : decode cX5_begin 20 = .ok (.iinc 2 1, 3) := by decide +kernel
theorem dX5_begin_23 : decode cX5_begin 23 = .ok (.goto (-16), 3) := by decide +kernel
theorem dX5_begin_26 : decode cX5_begin 26 = .ok (.iconst 0, 1) := by decide +kernel
theorem dX5_begin_27 : decode cX5_begin 27 = .ok (.istore_n 2, 1) := by decide +kernel
theorem dX5_begin_28 : decode cX5_begin 28 = .ok (.iload_n 2, 1) := by decide +kernel
theorem dX5_begin_29 : decode cX5_begin 29 = .ok (.iconst 5, 1) := by decide +kernel
theorem dX5_begin_30 : decode cX5_begin 30 = .ok (.if_icmp .ge 16, 3) := by decide +kernel
theorem dX5_begin_33 : decode cX5_begin 33 = .ok (.aload_n 0, 1) := by decide +kernel
theorem dX5_begin_34 : decode cX5_begin 34 = .ok (.getfield 21, 3) := by decide +kernel
theorem dX5_begin_37 : decode cX5_begin 37 = .ok (.iload_n 2, 1) := by decide +kernel
theorem dX5_begin_38 : decode cX5_begin 38 = .ok (.iconst 0, 1) := by decide +kernel
theorem dX5_begin_39 : decode cX5_begin 39 = .ok (.iastore, 1) := by decide +kernel
theorem dX5_begin_40 : decode cX5_begin 40 = .ok (.iinc 2 1, 3) := by decide +kernel
theorem dX5_begin_43 : decode cX5_begin 43 = .ok (.goto (-15), 3) := by decide +kernel
theorem dX5_begin_46 : decode cX5_begin 46 = .ok (.return_, 1) := by decide +kernel
theorem dX5_copyFrom_0 : decode cX5_copyFrom 0 = .ok (.aload_n 0, 1) := by decide +kernel
theorem dX5_copyFrom_1 : decode cX5_copyFrom 1 = .ok (.aload_n 1, 1) := by decide +kernel
theorem dX5_copyFrom_2 : decode cX5_copyFrom 2 = .ok (.getfield 24, 3) := by decide +kernel
theorem dX5_copyFrom_5 : decode cX5_copyFrom 5 = .ok (.putfield 24, 3) := by decide +kernel
theorem dX5_copyFrom_8 : decode cX5_copyFrom 8 = .ok (.aload_n 1, 1) := by decide +kernel
theorem dX5_copyFrom_9 : decode cX5_copyFrom 9 = .ok (.getfield 9, 3) := by decide +kernel
theorem dX5_copyFrom_12 : decode cX5_copyFrom 12 = .ok (.aload_n 0, 1) := by decide +kernel
theorem dX5_copyFrom_13 : decode cX5_copyFrom 13 = .ok (.getfield 9, 3) := by decide +kernel
theorem dX5_copyFrom_16 : decode cX5_copyFrom 16 = .ok (.invokestatic 28, 3) := by decide +kernel
theorem dX5_copyFrom_19 : decode cX5_copyFrom 19 = .ok (.aload_n 1, 1) := by decide +kernel
theorem dX5_copyFrom_20 : decode cX5_copyFrom 20 = .ok (.getfield 15, 3) := by decide +kernel
theorem dX5_copyFrom_23 : decode cX5_copyFrom 23 = .ok (.aload_n 0, 1) := by decide +kernel
theorem dX5_copyFrom_24 : decode cX5_copyFrom 24 = .ok (.getfield 15, 3) := by decide +kernel
theorem dX5_copyFrom_27 : decode cX5_copyFrom 27 = .ok (.invokestatic 28, 3) := by decide +kernel
theorem dX5_copyFrom_30 : decode cX5_copyFrom 30 = .ok (.aload_n 1, 1) := by decide +kernel
theorem dX5_copyFrom_31 : decode cX5_copyFrom 31 = .ok (.getfield 18, 3) := by decide +kernel
theorem dX5_copyFrom_34 : decode cX5_copyFrom 34 = .ok (.aload_n 0, 1) := by decide +kernel
theorem dX5_copyFrom_35 : decode cX5_copyFrom 35 = .ok (.getfield 18, 3) := by decide +kernel
theorem dX5_copyFrom_38 : decode cX5_copyFrom 38 = .ok (.invokestatic 28, 3) := by decide +kernel
theorem dX5_copyFrom_41 : decode cX5_copyFrom 41 = .ok (.aload_n 1, 1) := by decide +kernel
theorem dX5_copyFrom_42 : decode cX5_copyFrom 42 = .ok (.getfield 21, 3) := by decide +kernel
theorem dX5_copyFrom_45 : decode cX5_copyFrom 45 = .ok (.aload_n 0, 1) := by decide +kernel
theorem dX5_copyFrom_46 : decode cX5_copyFrom 46 = .ok (.getfield 21, 3) := by decide +kernel
theorem dX5_copyFrom_49 : decode cX5_copyFrom 49 = .ok (.invokestatic 28, 3) := by decide +kernel
theorem dX5_copyFrom_52 : decode cX5_copyFrom 52 = .ok (.return_, 1) := by decide +kernel
theorem dX5_has_0 : decode cX5_has 0 = .ok (.iload_n 1, 1) := by decide +kernel
theorem dX5_has_1 : decode cX5_has 1 = .ok (.ifCond .lt 15, 3) := by decide +kernel
theorem dX5_has_4 : decode cX5_has 4 = .ok (.iload_n 1, 1) := by decide +kernel
theorem dX5_has_5 : decode cX5_has 5 = .ok (.aload_n 0, 1) := by decide +kernel
theorem dX5_has_6 : decode cX5_has 6 = .ok (.getfield 24, 3) := by decide +kernel
theorem dX5_has_9 : decode cX5_has 9 = .ok (.if_icmp .ge 7, 3) := by decide +kernel
theorem dX5_has_12 : decode cX5_has 12 = .ok (.iconst 1, 1) := by decide +kernel
theorem dX5_has_13 : decode cX5_has 13 = .ok (.goto 4, 3) := by decide +kernel
theorem dX5_has_16 : decode cX5_has 16 = .ok (.iconst 0, 1) := by decide +kernel
theorem dX5_has_17 : decode cX5_has 17 = .ok (.ireturn, 1) := by decide +kernel
theorem dX5_strengthAt_0 : decode cX5_strengthAt 0 = .ok (.aload_n 0, 1) := by decide +kernel
theorem dX5_strengthAt_1 : decode cX5_strengthAt 1 = .ok (.iload_n 1, 1) := by decide +kernel
theorem dX5_strengthAt_2 : decode cX5_strengthAt 2 = .ok (.invokevirtual 32, 3) := by decide +kernel
theorem dX5_strengthAt_5 : decode cX5_strengthAt 5 = .ok (.ifCond .eq 12, 3) := by decide +kernel
theorem dX5_strengthAt_8 : decode cX5_strengthAt 8 = .ok (.aload_n 0, 1) := by decide +kernel
theorem dX5_strengthAt_9 : decode cX5_strengthAt 9 = .ok (.getfield 15, 3) := by decide +kernel
theorem dX5_strengthAt_12 : decode cX5_strengthAt 12 = .ok (.iload_n 1, 1) := by decide +kernel
theorem dX5_strengthAt_13 : decode cX5_strengthAt 13 = .ok (.iaload, 1) := by decide +kernel
theorem dX5_strengthAt_14 : decode cX5_strengthAt 14 = .ok (.goto 4, 3) := by decide +kernel
theorem dX5_strengthAt_17 : decode cX5_strengthAt 17 = .ok (.iconst 0, 1) := by decide +kernel
theorem dX5_strengthAt_18 : decode cX5_strengthAt 18 = .ok (.ireturn, 1) := by decide +kernel
theorem dX5_valueAt_0 : decode cX5_valueAt 0 = .ok (.aload_n 0, 1) := by decide +kernel
theorem dX5_valueAt_1 : decode cX5_valueAt 1 = .ok (.iload_n 1, 1) := by decide +kernel
theorem dX5_valueAt_2 : decode cX5_valueAt 2 = .ok (.invokevirtual 32, 3) := by decide +kernel
theorem dX5_valueAt_5 : decode cX5_valueAt 5 = .ok (.ifCond .eq 21, 3) := by decide +kernel
theorem dX5_valueAt_8 : decode cX5_valueAt 8 = .ok (.aload_n 0, 1) := by decide +kernel
theorem dX5_valueAt_9 : decode cX5_valueAt 9 = .ok (.getfield 15, 3) := by decide +kernel
theorem dX5_valueAt_12 : decode cX5_valueAt 12 = .ok (.iload_n 1, 1) := by decide +kernel
theorem dX5_valueAt_13 : decode cX5_valueAt 13 = .ok (.iaload, 1) := by decide +kernel
theorem dX5_valueAt_14 : decode cX5_valueAt 14 = .ok (.ifCond .le 12, 3) := by decide +kernel
theorem dX5_valueAt_17 : decode cX5_valueAt 17 = .ok (.aload_n 0, 1) := by decide +kernel
theorem dX5_valueAt_18 : decode cX5_valueAt 18 = .ok (.getfield 9, 3) := by decide +kernel
theorem dX5_valueAt_21 : decode cX5_valueAt 21 = .ok (.iload_n 1, 1) := by decide +kernel
theorem dX5_valueAt_22 : decode cX5_valueAt 22 = .ok (.iaload, 1) := by decide +kernel
theorem dX5_valueAt_23 : decode cX5_valueAt 23 = .ok (.goto 5, 3) := by decide +kernel
theorem dX5_valueAt_26 : decode cX5_valueAt 26 = .ok (.bipush (-6), 2) := by decide +kernel
theorem dX5_valueAt_28 : decode cX5_valueAt 28 = .ok (.ireturn, 1) := by decide +kernel
theorem dX5_birthAt_0 : decode cX5_birthAt 0 = .ok (.aload_n 0, 1) := by decide +kernel
theorem dX5_birthAt_1 : decode cX5_birthAt 1 = .ok (.iload_n 1, 1) := by decide +kernel
theorem dX5_birthAt_2 : decode cX5_birthAt 2 = .ok (.invokevirtual 32, 3) := by decide +kernel
theorem dX5_birthAt_5 : decode cX5_birthAt 5 = .ok (.ifCond .eq 12, 3) := by decide +kernel
theorem dX5_birthAt_8 : decode cX5_birthAt 8 = .ok (.aload_n 0, 1) := by decide +kernel
theorem dX5_birthAt_9 : decode cX5_birthAt 9 = .ok (.getfield 18, 3) := by decide +kernel
theorem dX5_birthAt_12 : decode cX5_birthAt 12 = .ok (.iload_n 1, 1) := by decide +kernel
theorem dX5_birthAt_13 : decode cX5_birthAt 13 = .ok (.iaload, 1) := by decide +kernel
theorem dX5_birthAt_14 : decode cX5_birthAt 14 = .ok (.goto 4, 3) := by decide +kernel
theorem dX5_birthAt_17 : decode cX5_birthAt 17 = .ok (.iconst 0, 1) := by decide +kernel
theorem dX5_birthAt_18 : decode cX5_birthAt 18 = .ok (.ireturn, 1) := by decide +kernel
theorem dX5_tally_0 : decode cX5_tally 0 = .ok (.iload_n 1, 1) := by decide +kernel
theorem dX5_tally_1 : decode cX5_tally 1 = .ok (.iconst 0, 1) := by decide +kernel
theorem dX5_tally_2 : decode cX5_tally 2 = .ok (.iconst 4, 1) := by decide +kernel
theorem dX5_tally_3 : decode cX5_tally 3 = .ok (.invokestatic 36, 3) := by decide +kernel
theorem dX5_tally_6 : decode cX5_tally 6 = .ok (.ifCond .eq 12, 3) := by decide +kernel
theorem dX5_tally_9 : decode cX5_tally 9 = .ok (.aload_n 0, 1) := by decide +kernel
theorem dX5_tally_10 : decode cX5_tally 10 = .ok (.getfield 21, 3) := by decide +kernel
theorem dX5_tally_13 : decode cX5_tally 13 = .ok (.iload_n 1, 1) := by decide +kernel
theorem dX5_tally_14 : decode cX5_tally 14 = .ok (.iaload, 1) := by decide +kernel
theorem dX5_tally_15 : decode cX5_tally 15 = .ok (.goto 4, 3) := by decide +kernel
theorem dX5_tally_18 : decode cX5_tally 18 = .ok (.iconst 0, 1) := by decide +kernel
theorem dX5_tally_19 : decode cX5_tally 19 = .ok (.ireturn, 1) := by decide +kernel
theorem dX5_flashes_0 : decode cX5_flashes 0 = .ok (.iconst 0, 1) := by decide +kernel
theorem dX5_flashes_1 : decode cX5_flashes 1 = .ok (.istore_n 1, 1) := by decide +kernel
theorem dX5_flashes_2 : decode cX5_flashes 2 = .ok (.iconst 0, 1) := by decide +kernel
theorem dX5_flashes_3 : decode cX5_flashes 3 = .ok (.istore_n 2, 1) := by decide +kernel
theorem dX5_flashes_4 : decode cX5_flashes 4 = .ok (.iload_n 2, 1) := by decide +kernel
theorem dX5_flashes_5 : decode cX5_flashes 5 = .ok (.aload_n 0, 1) := by decide +kernel
theorem dX5_flashes_6 : decode cX5_flashes 6 = .ok (.getfield 24, 3) := by decide +kernel
theorem dX5_flashes_9 : decode cX5_flashes 9 = .ok (.if_icmp .ge 21, 3) := by decide +kernel
theorem dX5_flashes_12 : decode cX5_flashes 12 = .ok (.aload_n 0, 1) := by decide +kernel
theorem dX5_flashes_13 : decode cX5_flashes 13 = .ok (.getfield 15, 3) := by decide +kernel
theorem dX5_flashes_16 : decode cX5_flashes 16 = .ok (.iload_n 2, 1) := by decide +kernel
theorem dX5_flashes_17 : decode cX5_flashes 17 = .ok (.iaload, 1) := by decide +kernel
theorem dX5_flashes_18 : decode cX5_flashes 18 = .ok (.ifCond .le 6, 3) := by decide +kernel
theorem dX5_flashes_21 : decode cX5_flashes 21 = .ok (.iinc 1 1, 3) := by decide +kernel
theorem dX5_flashes_24 : decode cX5_flashes 24 = .ok (.iinc 2 1, 3) := by decide +kernel
theorem dX5_flashes_27 : decode cX5_flashes 27 = .ok (.goto (-23), 3) := by decide +kernel
theorem dX5_flashes_30 : decode cX5_flashes 30 = .ok (.iload_n 1, 1) := by decide +kernel
theorem dX5_flashes_31 : decode cX5_flashes 31 = .ok (.ireturn, 1) := by decide +kernel
theorem dX5_strengthInAll_0 : decode cX5_strengthInAll 0 = .ok (.iconst 0, 1) := by decide +kernel
theorem dX5_strengthInAll_1 : decode cX5_strengthInAll 1 = .ok (.istore_n 1, 1) := by decide +kernel
theorem dX5_strengthInAll_2 : decode cX5_strengthInAll 2 = .ok (.iconst 0, 1) := by decide +kernel
theorem dX5_strengthInAll_3 : decode cX5_strengthInAll 3 = .ok (.istore_n 2, 1) := by decide +kernel
theorem dX5_strengthInAll_4 : decode cX5_strengthInAll 4 = .ok (.iload_n 2, 1) := by decide +kernel
theorem dX5_strengthInAll_5 : decode cX5_strengthInAll 5 = .ok (.aload_n 0, 1) := by decide +kernel
theorem dX5_strengthInAll_6 : decode cX5_strengthInAll 6 = .ok (.getfield 24, 3) := by decide +kernel
theorem dX5_strengthInAll_9 : decode cX5_strengthInAll 9 = .ok (.if_icmp .ge 18, 3) := by decide +kernel
theorem dX5_strengthInAll_12 : decode cX5_strengthInAll 12 = .ok (.iload_n 1, 1) := by decide +kernel
theorem dX5_strengthInAll_13 : decode cX5_strengthInAll 13 = .ok (.aload_n 0, 1) := by decide +kernel
theorem dX5_strengthInAll_14 : decode cX5_strengthInAll 14 = .ok (.getfield 15, 3) := by decide +kernel
theorem dX5_strengthInAll_17 : decode cX5_strengthInAll 17 = .ok (.iload_n 2, 1) := by decide +kernel
theorem dX5_strengthInAll_18 : decode cX5_strengthInAll 18 = .ok (.iaload, 1) := by decide +kernel
theorem dX5_strengthInAll_19 : decode cX5_strengthInAll 19 = .ok (.iadd, 1) := by decide +kernel
theorem dX5_strengthInAll_20 : decode cX5_strengthInAll 20 = .ok (.istore_n 1, 1) := by decide +kernel
theorem dX5_strengthInAll_21 : decode cX5_strengthInAll 21 = .ok (.iinc 2 1, 3) := by decide +kernel
theorem dX5_strengthInAll_24 : decode cX5_strengthInAll 24 = .ok (.goto (-20), 3) := by decide +kernel
theorem dX5_strengthInAll_27 : decode cX5_strengthInAll 27 = .ok (.iload_n 1, 1) := by decide +kernel
theorem dX5_strengthInAll_28 : decode cX5_strengthInAll 28 = .ok (.ireturn, 1) := by decide +kernel
theorem dX5_faintest_0 : decode cX5_faintest 0 = .ok (.iconst 0, 1) := by decide +kernel
theorem dX5_faintest_1 : decode cX5_faintest 1 = .ok (.istore_n 1, 1) := by decide +kernel
theorem dX5_faintest_2 : decode cX5_faintest 2 = .ok (.iconst 0, 1) := by decide +kernel
theorem dX5_faintest_3 : decode cX5_faintest 3 = .ok (.istore_n 2, 1) := by decide +kernel
theorem dX5_faintest_4 : decode cX5_faintest 4 = .ok (.iload_n 2, 1) := by decide +kernel
theorem dX5_faintest_5 : decode cX5_faintest 5 = .ok (.aload_n 0, 1) := by decide +kernel
theorem dX5_faintest_6 : decode cX5_faintest 6 = .ok (.getfield 24, 3) := by decide +kernel
theorem dX5_faintest_9 : decode cX5_faintest 9 = .ok (.if_icmp .ge 31, 3) := by decide +kernel
theorem dX5_faintest_12 : decode cX5_faintest 12 = .ok (.aload_n 0, 1) := by decide +kernel
theorem dX5_faintest_13 : decode cX5_faintest 13 = .ok (.getfield 15, 3) := by decide +kernel
theorem dX5_faintest_16 : decode cX5_faintest 16 = .ok (.iload_n 2, 1) := by decide +kernel
theorem dX5_faintest_17 : decode cX5_faintest 17 = .ok (.iaload, 1) := by decide +kernel
theorem dX5_faintest_18 : decode cX5_faintest 18 = .ok (.istore_n 3, 1) := by decide +kernel
theorem dX5_faintest_19 : decode cX5_faintest 19 = .ok (.iload_n 3, 1) := by decide +kernel
theorem dX5_faintest_20 : decode cX5_faintest 20 = .ok (.ifCond .le 14, 3) := by decide +kernel
theorem dX5_faintest_23 : decode cX5_faintest 23 = .ok (.iload_n 1, 1) := by decide +kernel
theorem dX5_faintest_24 : decode cX5_faintest 24 = .ok (.ifCond .eq 8, 3) := by decide +kernel
theorem dX5_faintest_27 : decode cX5_faintest 27 = .ok (.iload_n 3, 1) := by decide +kernel
theorem dX5_faintest_28 : decode cX5_faintest 28 = .ok (.iload_n 1, 1) := by decide +kernel
theorem dX5_faintest_29 : decode cX5_faintest 29 = .ok (.if_icmp .ge 5, 3) := by decide +kernel
theorem dX5_faintest_32 : decode cX5_faintest 32 = .ok (.iload_n 3, 1) := by decide +kernel
theorem dX5_faintest_33 : decode cX5_faintest 33 = .ok (.istore_n 1, 1) := by decide +kernel
theorem dX5_faintest_34 : decode cX5_faintest 34 = .ok (.iinc 2 1, 3) := by decide +kernel
theorem dX5_faintest_37 : decode cX5_faintest 37 = .ok (.goto (-33), 3) := by decide +kernel
theorem dX5_faintest_40 : decode cX5_faintest 40 = .ok (.iload_n 1, 1) := by decide +kernel
theorem dX5_faintest_41 : decode cX5_faintest 41 = .ok (.ireturn, 1) := by decide +kernel
theorem dX5_moveOn_0 : decode cX5_moveOn 0 = .ok (.aload_n 0, 1) := by decide +kernel
theorem dX5_moveOn_1 : decode cX5_moveOn 1 = .ok (.getfield 9, 3) := by decide +kernel
theorem dX5_moveOn_4 : decode cX5_moveOn 4 = .ok (.aload_n 0, 1) := by decide +kernel
theorem dX5_moveOn_5 : decode cX5_moveOn 5 = .ok (.getfield 24, 3) := by decide +kernel
theorem dX5_moveOn_8 : decode cX5_moveOn 8 = .ok (.invokestatic 40, 3) := by decide +kernel
theorem dX5_moveOn_11 : decode cX5_moveOn 11 = .ok (.aload_n 0, 1) := by decide +kernel
theorem dX5_moveOn_12 : decode cX5_moveOn 12 = .ok (.getfield 15, 3) := by decide +kernel
theorem dX5_moveOn_15 : decode cX5_moveOn 15 = .ok (.aload_n 0, 1) := by decide +kernel
theorem dX5_moveOn_16 : decode cX5_moveOn 16 = .ok (.getfield 24, 3) := by decide +kernel
theorem dX5_moveOn_19 : decode cX5_moveOn 19 = .ok (.invokestatic 40, 3) := by decide +kernel
theorem dX5_moveOn_22 : decode cX5_moveOn 22 = .ok (.aload_n 0, 1) := by decide +kernel
theorem dX5_moveOn_23 : decode cX5_moveOn 23 = .ok (.getfield 18, 3) := by decide +kernel
theorem dX5_moveOn_26 : decode cX5_moveOn 26 = .ok (.aload_n 0, 1) := by decide +kernel
theorem dX5_moveOn_27 : decode cX5_moveOn 27 = .ok (.getfield 24, 3) := by decide +kernel
theorem dX5_moveOn_30 : decode cX5_moveOn 30 = .ok (.invokestatic 40, 3) := by decide +kernel
theorem dX5_moveOn_33 : decode cX5_moveOn 33 = .ok (.iconst 0, 1) := by decide +kernel
theorem dX5_moveOn_34 : decode cX5_moveOn 34 = .ok (.istore_n 2, 1) := by decide +kernel
theorem dX5_moveOn_35 : decode cX5_moveOn 35 = .ok (.iload_n 2, 1) := by decide +kernel
theorem dX5_moveOn_36 : decode cX5_moveOn 36 = .ok (.aload_n 0, 1) := by decide +kernel
theorem dX5_moveOn_37 : decode cX5_moveOn 37 = .ok (.getfield 24, 3) := by decide +kernel
theorem dX5_moveOn_40 : decode cX5_moveOn 40 = .ok (.if_icmp .ge 24, 3) := by decide +kernel
theorem dX5_moveOn_43 : decode cX5_moveOn 43 = .ok (.aload_n 0, 1) := by decide +kernel
theorem dX5_moveOn_44 : decode cX5_moveOn 44 = .ok (.getfield 15, 3) := by decide +kernel
theorem dX5_moveOn_47 : decode cX5_moveOn 47 = .ok (.iload_n 2, 1) := by decide +kernel
theorem dX5_moveOn_48 : decode cX5_moveOn 48 = .ok (.iaload, 1) := by decide +kernel
theorem dX5_moveOn_49 : decode cX5_moveOn 49 = .ok (.ifCond .le 9, 3) := by decide +kernel
theorem dX5_moveOn_52 : decode cX5_moveOn 52 = .ok (.aload_n 0, 1) := by decide +kernel
theorem dX5_moveOn_53 : decode cX5_moveOn 53 = .ok (.iload_n 2, 1) := by decide +kernel
theorem dX5_moveOn_54 : decode cX5_moveOn 54 = .ok (.iload_n 1, 1) := by decide +kernel
theorem dX5_moveOn_55 : decode cX5_moveOn 55 = .ok (.invokevirtual 44, 3) := by decide +kernel
theorem dX5_moveOn_58 : decode cX5_moveOn 58 = .ok (.iinc 2 1, 3) := by decide +kernel
theorem dX5_moveOn_61 : decode cX5_moveOn 61 = .ok (.goto (-26), 3) := by decide +kernel
theorem dX5_moveOn_64 : decode cX5_moveOn 64 = .ok (.return_, 1) := by decide +kernel
theorem dX5_fade_0 : decode cX5_fade 0 = .ok (.aload_n 0, 1) := by decide +kernel
theorem dX5_fade_1 : decode cX5_fade 1 = .ok (.iload_n 1, 1) := by decide +kernel
theorem dX5_fade_2 : decode cX5_fade 2 = .ok (.invokevirtual 32, 3) := by decide +kernel
theorem dX5_fade_5 : decode cX5_fade 5 = .ok (.ifCond .ne 4, 3) := by decide +kernel
theorem dX5_fade_8 : decode cX5_fade 8 = .ok (.return_, 1) := by decide +kernel
theorem dX5_fade_9 : decode cX5_fade 9 = .ok (.aload_n 0, 1) := by decide +kernel
theorem dX5_fade_10 : decode cX5_fade 10 = .ok (.getfield 15, 3) := by decide +kernel
theorem dX5_fade_13 : decode cX5_fade 13 = .ok (.iload_n 1, 1) := by decide +kernel
theorem dX5_fade_14 : decode cX5_fade 14 = .ok (.dup2, 1) := by decide +kernel
theorem dX5_fade_15 : decode cX5_fade 15 = .ok (.iaload, 1) := by decide +kernel
theorem dX5_fade_16 : decode cX5_fade 16 = .ok (.iload_n 2, 1) := by decide +kernel
theorem dX5_fade_17 : decode cX5_fade 17 = .ok (.isub, 1) := by decide +kernel
theorem dX5_fade_18 : decode cX5_fade 18 = .ok (.iastore, 1) := by decide +kernel
theorem dX5_fade_19 : decode cX5_fade 19 = .ok (.aload_n 0, 1) := by decide +kernel
theorem dX5_fade_20 : decode cX5_fade 20 = .ok (.getfield 15, 3) := by decide +kernel
theorem dX5_fade_23 : decode cX5_fade 23 = .ok (.iload_n 1, 1) := by decide +kernel
theorem dX5_fade_24 : decode cX5_fade 24 = .ok (.iaload, 1) := by decide +kernel
theorem dX5_fade_25 : decode cX5_fade 25 = .ok (.ifCond .gt 20, 3) := by decide +kernel
theorem dX5_fade_28 : decode cX5_fade 28 = .ok (.aload_n 0, 1) := by decide +kernel
theorem dX5_fade_29 : decode cX5_fade 29 = .ok (.getfield 15, 3) := by decide +kernel
theorem dX5_fade_32 : decode cX5_fade 32 = .ok (.iload_n 1, 1) := by decide +kernel
theorem dX5_fade_33 : decode cX5_fade 33 = .ok (.iconst 0, 1) := by decide +kernel
theorem dX5_fade_34 : decode cX5_fade 34 = .ok (.iastore, 1) := by decide +kernel
theorem dX5_fade_35 : decode cX5_fade 35 = .ok (.aload_n 0, 1) := by decide +kernel
theorem dX5_fade_36 : decode cX5_fade 36 = .ok (.getfield 21, 3) := by decide +kernel
theorem dX5_fade_39 : decode cX5_fade 39 = .ok (.iconst 1, 1) := by decide +kernel
theorem dX5_fade_40 : decode cX5_fade 40 = .ok (.dup2, 1) := by decide +kernel
theorem dX5_fade_41 : decode cX5_fade 41 = .ok (.iaload, 1) := by decide +kernel
theorem dX5_fade_42 : decode cX5_fade 42 = .ok (.iconst 1, 1) := by decide +kernel
theorem dX5_fade_43 : decode cX5_fade 43 = .ok (.iadd, 1) := by decide +kernel
theorem dX5_fade_44 : decode cX5_fade 44 = .ok (.iastore, 1) := by decide +kernel
theorem dX5_fade_45 : decode cX5_fade 45 = .ok (.return_, 1) := by decide +kernel
theorem dX5_strengthen_0 : decode cX5_strengthen 0 = .ok (.aload_n 0, 1) := by decide +kernel
theorem dX5_strengthen_1 : decode cX5_strengthen 1 = .ok (.iload_n 1, 1) := by decide +kernel
theorem dX5_strengthen_2 : decode cX5_strengthen 2 = .ok (.invokevirtual 32, 3) := by decide +kernel
theorem dX5_strengthen_5 : decode cX5_strengthen 5 = .ok (.ifCond .eq 13, 3) := by decide +kernel
theorem dX5_strengthen_8 : decode cX5_strengthen 8 = .ok (.aload_n 0, 1) := by decide +kernel
theorem dX5_strengthen_9 : decode cX5_strengthen 9 = .ok (.getfield 15, 3) := by decide +kernel
theorem dX5_strengthen_12 : decode cX5_strengthen 12 = .ok (.iload_n 1, 1) := by decide +kernel
theorem dX5_strengthen_13 : decode cX5_strengthen 13 = .ok (.dup2, 1) := by decide +kernel
theorem dX5_strengthen_14 : decode cX5_strengthen 14 = .ok (.iaload, 1) := by decide +kernel
theorem dX5_strengthen_15 : decode cX5_strengthen 15 = .ok (.iload_n 2, 1) := by decide +kernel
theorem dX5_strengthen_16 : decode cX5_strengthen 16 = .ok (.iadd, 1) := by decide +kernel
theorem dX5_strengthen_17 : decode cX5_strengthen 17 = .ok (.iastore, 1) := by decide +kernel
theorem dX5_strengthen_18 : decode cX5_strengthen 18 = .ok (.return_, 1) := by decide +kernel
theorem dX5_changeValue_0 : decode cX5_changeValue 0 = .ok (.aload_n 0, 1) := by decide +kernel
theorem dX5_changeValue_1 : decode cX5_changeValue 1 = .ok (.iload_n 1, 1) := by decide +kernel
theorem dX5_changeValue_2 : decode cX5_changeValue 2 = .ok (.invokevirtual 32, 3) := by decide +kernel
theorem dX5_changeValue_5 : decode cX5_changeValue 5 = .ok (.ifCond .eq 10, 3) := by decide +kernel
theorem dX5_changeValue_8 : decode cX5_changeValue 8 = .ok (.aload_n 0, 1) := by decide +kernel
theorem dX5_changeValue_9 : decode cX5_changeValue 9 = .ok (.getfield 9, 3) := by decide +kernel
theorem dX5_changeValue_12 : decode cX5_changeValue 12 = .ok (.iload_n 1, 1) := by decide +kernel
theorem dX5_changeValue_13 : decode cX5_changeValue 13 = .ok (.iload_n 2, 1) := by decide +kernel
theorem dX5_changeValue_14 : decode cX5_changeValue 14 = .ok (.iastore, 1) := by decide +kernel
theorem dX5_changeValue_15 : decode cX5_changeValue 15 = .ok (.return_, 1) := by decide +kernel
theorem dX5_putIn_0 : decode cX5_putIn 0 = .ok (.aload_n 0, 1) := by decide +kernel
theorem dX5_putIn_1 : decode cX5_putIn 1 = .ok (.iload_n 1, 1) := by decide +kernel
theorem dX5_putIn_2 : decode cX5_putIn 2 = .ok (.invokevirtual 32, 3) := by decide +kernel
theorem dX5_putIn_5 : decode cX5_putIn 5 = .ok (.ifCond .eq 35, 3) := by decide +kernel
theorem dX5_putIn_8 : decode cX5_putIn 8 = .ok (.aload_n 0, 1) := by decide +kernel
theorem dX5_putIn_9 : decode cX5_putIn 9 = .ok (.getfield 9, 3) := by decide +kernel
theorem dX5_putIn_12 : decode cX5_putIn 12 = .ok (.iload_n 1, 1) := by decide +kernel
theorem dX5_putIn_13 : decode cX5_putIn 13 = .ok (.iload_n 2, 1) := by decide +kernel
theorem dX5_putIn_14 : decode cX5_putIn 14 = .ok (.iastore, 1) := by decide +kernel
theorem dX5_putIn_15 : decode cX5_putIn 15 = .ok (.aload_n 0, 1) := by decide +kernel
theorem dX5_putIn_16 : decode cX5_putIn 16 = .ok (.getfield 15, 3) := by decide +kernel
theorem dX5_putIn_19 : decode cX5_putIn 19 = .ok (.iload_n 1, 1) := by decide +kernel
theorem dX5_putIn_20 : decode cX5_putIn 20 = .ok (.iload_n 3, 1) := by decide +kernel
theorem dX5_putIn_21 : decode cX5_putIn 21 = .ok (.iastore, 1) := by decide +kernel
theorem dX5_putIn_22 : decode cX5_putIn 22 = .ok (.aload_n 0, 1) := by decide +kernel
theorem dX5_putIn_23 : decode cX5_putIn 23 = .ok (.getfield 18, 3) := by decide +kernel
theorem dX5_putIn_26 : decode cX5_putIn 26 = .ok (.iload_n 1, 1) := by decide +kernel
theorem dX5_putIn_27 : decode cX5_putIn 27 = .ok (.iload 4, 2) := by decide +kernel
theorem dX5_putIn_29 : decode cX5_putIn 29 = .ok (.iastore, 1) := by decide +kernel
theorem dX5_putIn_30 : decode cX5_putIn 30 = .ok (.aload_n 0, 1) := by decide +kernel
theorem dX5_putIn_31 : decode cX5_putIn 31 = .ok (.getfield 21, 3) := by decide +kernel
theorem dX5_putIn_34 : decode cX5_putIn 34 = .ok (.iconst 0, 1) := by decide +kernel
theorem dX5_putIn_35 : decode cX5_putIn 35 = .ok (.dup2, 1) := by decide +kernel
theorem dX5_putIn_36 : decode cX5_putIn 36 = .ok (.iaload, 1) := by decide +kernel
theorem dX5_putIn_37 : decode cX5_putIn 37 = .ok (.iconst 1, 1) := by decide +kernel
theorem dX5_putIn_38 : decode cX5_putIn 38 = .ok (.iadd, 1) := by decide +kernel
theorem dX5_putIn_39 : decode cX5_putIn 39 = .ok (.iastore, 1) := by decide +kernel
theorem dX5_putIn_40 : decode cX5_putIn 40 = .ok (.return_, 1) := by decide +kernel
theorem dX5_drop_0 : decode cX5_drop 0 = .ok (.aload_n 0, 1) := by decide +kernel
theorem dX5_drop_1 : decode cX5_drop 1 = .ok (.iload_n 1, 1) := by decide +kernel
theorem dX5_drop_2 : decode cX5_drop 2 = .ok (.invokevirtual 32, 3) := by decide +kernel
theorem dX5_drop_5 : decode cX5_drop 5 = .ok (.ifCond .eq 20, 3) := by decide +kernel
theorem dX5_drop_8 : decode cX5_drop 8 = .ok (.aload_n 0, 1) := by decide +kernel
theorem dX5_drop_9 : decode cX5_drop 9 = .ok (.getfield 15, 3) := by decide +kernel
theorem dX5_drop_12 : decode cX5_drop 12 = .ok (.iload_n 1, 1) := by decide +kernel
theorem dX5_drop_13 : decode cX5_drop 13 = .ok (.iconst 0, 1) := by decide +kernel
theorem dX5_drop_14 : decode cX5_drop 14 = .ok (.iastore, 1) := by decide +kernel
theorem dX5_drop_15 : decode cX5_drop 15 = .ok (.aload_n 0, 1) := by decide +kernel
theorem dX5_drop_16 : decode cX5_drop 16 = .ok (.getfield 21, 3) := by decide +kernel
theorem dX5_drop_19 : decode cX5_drop 19 = .ok (.iconst 2, 1) := by decide +kernel
theorem dX5_drop_20 : decode cX5_drop 20 = .ok (.dup2, 1) := by decide +kernel
theorem dX5_drop_21 : decode cX5_drop 21 = .ok (.iaload, 1) := by decide +kernel
theorem dX5_drop_22 : decode cX5_drop 22 = .ok (.iconst 1, 1) := by decide +kernel
theorem dX5_drop_23 : decode cX5_drop 23 = .ok (.iadd, 1) := by decide +kernel
theorem dX5_drop_24 : decode cX5_drop 24 = .ok (.iastore, 1) := by decide +kernel
theorem dX5_drop_25 : decode cX5_drop 25 = .ok (.return_, 1) := by decide +kernel
theorem dX5_exchange_0 : decode cX5_exchange 0 = .ok (.aload_n 0, 1) := by decide +kernel
theorem dX5_exchange_1 : decode cX5_exchange 1 = .ok (.iload_n 1, 1) := by decide +kernel
theorem dX5_exchange_2 : decode cX5_exchange 2 = .ok (.invokevirtual 32, 3) := by decide +kernel
theorem dX5_exchange_5 : decode cX5_exchange 5 = .ok (.ifCond .eq 11, 3) := by decide +kernel
theorem dX5_exchange_8 : decode cX5_exchange 8 = .ok (.aload_n 2, 1) := by decide +kernel
theorem dX5_exchange_9 : decode cX5_exchange 9 = .ok (.iload_n 3, 1) := by decide +kernel
theorem dX5_exchange_10 : decode cX5_exchange 10 = .ok (.invokevirtual 32, 3) := by decide +kernel
theorem dX5_exchange_13 : decode cX5_exchange 13 = .ok (.ifCond .ne 4, 3) := by decide +kernel
theorem dX5_exchange_16 : decode cX5_exchange 16 = .ok (.return_, 1) := by decide +kernel
theorem dX5_exchange_17 : decode cX5_exchange 17 = .ok (.aload_n 0, 1) := by decide +kernel
theorem dX5_exchange_18 : decode cX5_exchange 18 = .ok (.getfield 9, 3) := by decide +kernel
theorem dX5_exchange_21 : decode cX5_exchange 21 = .ok (.iload_n 1, 1) := by decide +kernel
theorem dX5_exchange_22 : decode cX5_exchange 22 = .ok (.iaload, 1) := by decide +kernel
theorem dX5_exchange_23 : decode cX5_exchange 23 = .ok (.istore 4, 2) := by decide +kernel
theorem dX5_exchange_25 : decode cX5_exchange 25 = .ok (.aload_n 0, 1) := by decide +kernel
theorem dX5_exchange_26 : decode cX5_exchange 26 = .ok (.getfield 15, 3) := by decide +kernel
theorem dX5_exchange_29 : decode cX5_exchange 29 = .ok (.iload_n 1, 1) := by decide +kernel
theorem dX5_exchange_30 : decode cX5_exchange 30 = .ok (.iaload, 1) := by decide +kernel
theorem dX5_exchange_31 : decode cX5_exchange 31 = .ok (.istore 5, 2) := by decide +kernel
theorem dX5_exchange_33 : decode cX5_exchange 33 = .ok (.aload_n 0, 1) := by decide +kernel
theorem dX5_exchange_34 : decode cX5_exchange 34 = .ok (.getfield 18, 3) := by decide +kernel
theorem dX5_exchange_37 : decode cX5_exchange 37 = .ok (.iload_n 1, 1) := by decide +kernel
theorem dX5_exchange_38 : decode cX5_exchange 38 = .ok (.iaload, 1) := by decide +kernel
theorem dX5_exchange_39 : decode cX5_exchange 39 = .ok (.istore 6, 2) := by decide +kernel
theorem dX5_exchange_41 : decode cX5_exchange 41 = .ok (.aload_n 0, 1) := by decide +kernel
theorem dX5_exchange_42 : decode cX5_exchange 42 = .ok (.getfield 9, 3) := by decide +kernel
theorem dX5_exchange_45 : decode cX5_exchange 45 = .ok (.iload_n 1, 1) := by decide +kernel
theorem dX5_exchange_46 : decode cX5_exchange 46 = .ok (.aload_n 2, 1) := by decide +kernel
theorem dX5_exchange_47 : decode cX5_exchange 47 = .ok (.getfield 9, 3) := by decide +kernel
theorem dX5_exchange_50 : decode cX5_exchange 50 = .ok (.iload_n 3, 1) := by decide +kernel
theorem dX5_exchange_51 : decode cX5_exchange 51 = .ok (.iaload, 1) := by decide +kernel
theorem dX5_exchange_52 : decode cX5_exchange 52 = .ok (.iastore, 1) := by decide +kernel
theorem dX5_exchange_53 : decode cX5_exchange 53 = .ok (.aload_n 0, 1) := by decide +kernel
theorem dX5_exchange_54 : decode cX5_exchange 54 = .ok (.getfield 15, 3) := by decide +kernel
theorem dX5_exchange_57 : decode cX5_exchange 57 = .ok (.iload_n 1, 1) := by decide +kernel
theorem dX5_exchange_58 : decode cX5_exchange 58 = .ok (.aload_n 2, 1) := by decide +kernel
theorem dX5_exchange_59 : decode cX5_exchange 59 = .ok (.getfield 15, 3) := by decide +kernel
theorem dX5_exchange_62 : decode cX5_exchange 62 = .ok (.iload_n 3, 1) := by decide +kernel
theorem dX5_exchange_63 : decode cX5_exchange 63 = .ok (.iaload, 1) := by decide +kernel
theorem dX5_exchange_64 : decode cX5_exchange 64 = .ok (.iastore, 1) := by decide +kernel
theorem dX5_exchange_65 : decode cX5_exchange 65 = .ok (.aload_n 0, 1) := by decide +kernel
theorem dX5_exchange_66 : decode cX5_exchange 66 = .ok (.getfield 18, 3) := by decide +kernel
theorem dX5_exchange_69 : decode cX5_exchange 69 = .ok (.iload_n 1, 1) := by decide +kernel
theorem dX5_exchange_70 : decode cX5_exchange 70 = .ok (.aload_n 2, 1) := by decide +kernel
theorem dX5_exchange_71 : decode cX5_exchange 71 = .ok (.getfield 18, 3) := by decide +kernel
theorem dX5_exchange_74 : decode cX5_exchange 74 = .ok (.iload_n 3, 1) := by decide +kernel
theorem dX5_exchange_75 : decode cX5_exchange 75 = .ok (.iaload, 1) := by decide +kernel
theorem dX5_exchange_76 : decode cX5_exchange 76 = .ok (.iastore, 1) := by decide +kernel
theorem dX5_exchange_77 : decode cX5_exchange 77 = .ok (.aload_n 2, 1) := by decide +kernel
theorem dX5_exchange_78 : decode cX5_exchange 78 = .ok (.getfield 9, 3) := by decide +kernel
theorem dX5_exchange_81 : decode cX5_exchange 81 = .ok (.iload_n 3, 1) := by decide +kernel
theorem dX5_exchange_82 : decode cX5_exchange 82 = .ok (.iload 4, 2) := by decide +kernel
theorem dX5_exchange_84 : decode cX5_exchange 84 = .ok (.iastore, 1) := by decide +kernel
theorem dX5_exchange_85 : decode cX5_exchange 85 = .ok (.aload_n 2, 1) := by decide +kernel
theorem dX5_exchange_86 : decode cX5_exchange 86 = .ok (.getfield 15, 3) := by decide +kernel
theorem dX5_exchange_89 : decode cX5_exchange 89 = .ok (.iload_n 3, 1) := by decide +kernel
theorem dX5_exchange_90 : decode cX5_exchange 90 = .ok (.iload 5, 2) := by decide +kernel
theorem dX5_exchange_92 : decode cX5_exchange 92 = .ok (.iastore, 1) := by decide +kernel
theorem dX5_exchange_93 : decode cX5_exchange 93 = .ok (.aload_n 2, 1) := by decide +kernel
theorem dX5_exchange_94 : decode cX5_exchange 94 = .ok (.getfield 18, 3) := by decide +kernel
theorem dX5_exchange_97 : decode cX5_exchange 97 = .ok (.iload_n 3, 1) := by decide +kernel
theorem dX5_exchange_98 : decode cX5_exchange 98 = .ok (.iload 6, 2) := by decide +kernel
theorem dX5_exchange_100 : decode cX5_exchange 100 = .ok (.iastore, 1) := by decide +kernel
theorem dX5_exchange_101 : decode cX5_exchange 101 = .ok (.return_, 1) := by decide +kernel
theorem dX5_tellCrossing_0 : decode cX5_tellCrossing 0 = .ok (.aload_n 0, 1) := by decide +kernel
theorem dX5_tellCrossing_1 : decode cX5_tellCrossing 1 = .ok (.getfield 21, 3) := by decide +kernel
theorem dX5_tellCrossing_4 : decode cX5_tellCrossing 4 = .ok (.iconst 4, 1) := by decide +kernel
theorem dX5_tellCrossing_5 : decode cX5_tellCrossing 5 = .ok (.dup2, 1) := by decide +kernel
theorem dX5_tellCrossing_6 : decode cX5_tellCrossing 6 = .ok (.iaload, 1) := by decide +kernel
theorem dX5_tellCrossing_7 : decode cX5_tellCrossing 7 = .ok (.iconst 1, 1) := by decide +kernel
theorem dX5_tellCrossing_8 : decode cX5_tellCrossing 8 = .ok (.iadd, 1) := by decide +kernel
theorem dX5_tellCrossing_9 : decode cX5_tellCrossing 9 = .ok (.iastore, 1) := by decide +kernel
theorem dX5_tellCrossing_10 : decode cX5_tellCrossing 10 = .ok (.aload_n 1, 1) := by decide +kernel
theorem dX5_tellCrossing_11 : decode cX5_tellCrossing 11 = .ok (.getfield 21, 3) := by decide +kernel
theorem dX5_tellCrossing_14 : decode cX5_tellCrossing 14 = .ok (.iconst 3, 1) := by decide +kernel
theorem dX5_tellCrossing_15 : decode cX5_tellCrossing 15 = .ok (.dup2, 1) := by decide +kernel
theorem dX5_tellCrossing_16 : decode cX5_tellCrossing 16 = .ok (.iaload, 1) := by decide +kernel
theorem dX5_tellCrossing_17 : decode cX5_tellCrossing 17 = .ok (.iconst 1, 1) := by decide +kernel
theorem dX5_tellCrossing_18 : decode cX5_tellCrossing 18 = .ok (.iadd, 1) := by decide +kernel
theorem dX5_tellCrossing_19 : decode cX5_tellCrossing 19 = .ok (.iastore, 1) := by decide +kernel
theorem dX5_tellCrossing_20 : decode cX5_tellCrossing 20 = .ok (.return_, 1) := by decide +kernel
theorem dX6_init_0 : decode cX6_init 0 = .ok (.aload_n 0, 1) := by decide +kernel
theorem dX6_init_1 : decode cX6_init 1 = .ok (.invokespecial 3, 3) := by decide +kernel
theorem dX6_init_4 : decode cX6_init 4 = .ok (.aload_n 0, 1) := by decide +kernel
theorem dX6_init_5 : decode cX6_init 5 = .ok (.iconst 4, 1) := by decide +kernel
theorem dX6_init_6 : decode cX6_init 6 = .ok (.newarray .int, 2) := by decide +kernel
theorem dX6_init_8 : decode cX6_init 8 = .ok (.putfield 9, 3) := by decide +kernel
theorem dX6_init_11 : decode cX6_init 11 = .ok (.aload_n 0, 1) := by decide +kernel
theorem dX6_init_12 : decode cX6_init 12 = .ok (.iconst 5, 1) := by decide +kernel
theorem dX6_init_13 : decode cX6_init 13 = .ok (.anewarray 15, 3) := by decide +kernel
theorem dX6_init_16 : decode cX6_init 16 = .ok (.putfield 17, 3) := by decide +kernel
theorem dX6_init_19 : decode cX6_init 19 = .ok (.aload_n 0, 1) := by decide +kernel
theorem dX6_init_20 : decode cX6_init 20 = .ok (.bipush 12, 2) := by decide +kernel
theorem dX6_init_22 : decode cX6_init 22 = .ok (.anewarray 21, 3) := by decide +kernel
theorem dX6_init_25 : decode cX6_init 25 = .ok (.putfield 23, 3) := by decide +kernel
theorem dX6_init_28 : decode cX6_init 28 = .ok (.aload_n 0, 1) := by decide +kernel
theorem dX6_init_29 : decode cX6_init 29 = .ok (.iconst 4, 1) := by decide +kernel
theorem dX6_init_30 : decode cX6_init 30 = .ok (.anewarray 27, 3) := by decide +kernel
theorem dX6_init_33 : decode cX6_init 33 = .ok (.putfield 29, 3) := by decide +kernel
theorem dX6_init_36 : decode cX6_init 36 = .ok (.getstatic 33, 3) := by decide +kernel
theorem dX6_init_39 : decode cX6_init 39 = .ok (.aload_n 0, 1) := by decide +kernel
theorem dX6_init_40 : decode cX6_init 40 = .ok (.getfield 9, 3) := by decide +kernel
theorem dX6_init_43 : decode cX6_init 43 = .ok (.invokestatic 36, 3) := by decide +kernel
theorem dX6_init_46 : decode cX6_init 46 = .ok (.iconst 0, 1) := by decide +kernel
theorem dX6_init_47 : decode cX6_init 47 = .ok (.istore_n 1, 1) := by decide +kernel
theorem dX6_init_48 : decode cX6_init 48 = .ok (.iload_n 1, 1) := by decide +kernel
theorem dX6_init_49 : decode cX6_init 49 = .ok (.iconst 5, 1) := by decide +kernel
theorem dX6_init_50 : decode cX6_init 50 = .ok (.if_icmp .ge 22, 3) := by decide +kernel
theorem dX6_init_53 : decode cX6_init 53 = .ok (.aload_n 0, 1) := by decide +kernel
theorem dX6_init_54 : decode cX6_init 54 = .ok (.getfield 17, 3) := by decide +kernel
theorem dX6_init_57 : decode cX6_init 57 = .ok (.iload_n 1, 1) := by decide +kernel
theorem dX6_init_58 : decode cX6_init 58 = .ok (.new 15, 3) := by decide +kernel
theorem dX6_init_61 : decode cX6_init 61 = .ok (.dup, 1) := by decide +kernel
theorem dX6_init_62 : decode cX6_init 62 = .ok (.invokespecial 40, 3) := by decide +kernel
theorem dX6_init_65 : decode cX6_init 65 = .ok (.aastore, 1) := by decide +kernel
theorem dX6_init_66 : decode cX6_init 66 = .ok (.iinc 1 1, 3) := by decide +kernel
theorem dX6_init_69 : decode cX6_init 69 = .ok (.goto (-21), 3) := by decide +kernel
theorem dX6_init_72 : decode cX6_init 72 = .ok (.iconst 0, 1) := by decide +kernel
theorem dX6_init_73 : decode cX6_init 73 = .ok (.istore_n 1, 1) := by decide +kernel
theorem dX6_init_74 : decode cX6_init 74 = .ok (.iload_n 1, 1) := by decide +kernel
theorem dX6_init_75 : decode cX6_init 75 = .ok (.bipush 12, 2) := by decide +kernel
theorem dX6_init_77 : decode cX6_init 77 = .ok (.if_icmp .ge 22, 3) := by decide +kernel
theorem dX6_init_80 : decode cX6_init 80 = .ok (.aload_n 0, 1) := by decide +kernel
theorem dX6_init_81 : decode cX6_init 81 = .ok (.getfield 23, 3) := by decide +kernel
theorem dX6_init_84 : decode cX6_init 84 = .ok (.iload_n 1, 1) := by decide +kernel
theorem dX6_init_85 : decode cX6_init 85 = .ok (.new 21, 3) := by decide +kernel
theorem dX6_init_88 : decode cX6_init 88 = .ok (.dup, 1) := by decide +kernel
theorem dX6_init_89 : decode cX6_init 89 = .ok (.invokespecial 41, 3) := by decide +kernel
theorem dX6_init_92 : decode cX6_init 92 = .ok (.aastore, 1) := by decide +kernel
theorem dX6_init_93 : decode cX6_init 93 = .ok (.iinc 1 1, 3) := by decide +kernel
theorem dX6_init_96 : decode cX6_init 96 = .ok (.goto (-22), 3) := by decide +kernel
theorem dX6_init_99 : decode cX6_init 99 = .ok (.iconst 0, 1) := by decide +kernel
theorem dX6_init_100 : decode cX6_init 100 = .ok (.istore_n 1, 1) := by decide +kernel
theorem dX6_init_101 : decode cX6_init 101 = .ok (.iload_n 1, 1) := by decide +kernel
theorem dX6_init_102 : decode cX6_init 102 = .ok (.iconst 4, 1) := by decide +kernel
theorem dX6_init_103 : decode cX6_init 103 = .ok (.if_icmp .ge 22, 3) := by decide +kernel
theorem dX6_init_106 : decode cX6_init 106 = .ok (.aload_n 0, 1) := by decide +kernel
theorem dX6_init_107 : decode cX6_init 107 = .ok (.getfield 29, 3) := by decide +kernel
theorem dX6_init_110 : decode cX6_init 110 = .ok (.iload_n 1, 1) := by decide +kernel
theorem dX6_init_111 : decode cX6_init 111 = .ok (.new 27, 3) := by decide +kernel
theorem dX6_init_114 : decode cX6_init 114 = .ok (.dup, 1) := by decide +kernel
theorem dX6_init_115 : decode cX6_init 115 = .ok (.invokespecial 42, 3) := by decide +kernel
theorem dX6_init_118 : decode cX6_init 118 = .ok (.aastore, 1) := by decide +kernel
theorem dX6_init_119 : decode cX6_init 119 = .ok (.iinc 1 1, 3) := by decide +kernel
theorem dX6_init_122 : decode cX6_init 122 = .ok (.goto (-21), 3) := by decide +kernel
theorem dX6_init_125 : decode cX6_init 125 = .ok (.return_, 1) := by decide +kernel
theorem dX6_copyFrom_0 : decode cX6_copyFrom 0 = .ok (.aload_n 1, 1) := by decide +kernel
theorem dX6_copyFrom_1 : decode cX6_copyFrom 1 = .ok (.getfield 9, 3) := by decide +kernel
theorem dX6_copyFrom_4 : decode cX6_copyFrom 4 = .ok (.aload_n 0, 1) := by decide +kernel
theorem dX6_copyFrom_5 : decode cX6_copyFrom 5 = .ok (.getfield 9, 3) := by decide +kernel
theorem dX6_copyFrom_8 : decode cX6_copyFrom 8 = .ok (.invokestatic 36, 3) := by decide +kernel
theorem dX6_copyFrom_11 : decode cX6_copyFrom 11 = .ok (.aload_n 0, 1) := by decide +kernel
theorem dX6_copyFrom_12 : decode cX6_copyFrom 12 = .ok (.aload_n 1, 1) := by decide +kernel
theorem dX6_copyFrom_13 : decode cX6_copyFrom 13 = .ok (.getfield 43, 3) := by decide +kernel
theorem dX6_copyFrom_16 : decode cX6_copyFrom 16 = .ok (.putfield 43, 3) := by decide +kernel
theorem dX6_copyFrom_19 : decode cX6_copyFrom 19 = .ok (.aload_n 0, 1) := by decide +kernel
theorem dX6_copyFrom_20 : decode cX6_copyFrom 20 = .ok (.aload_n 1, 1) := by decide +kernel
theorem dX6_copyFrom_21 : decode cX6_copyFrom 21 = .ok (.getfield 47, 3) := by decide +kernel
theorem dX6_copyFrom_24 : decode cX6_copyFrom 24 = .ok (.putfield 47, 3) := by decide +kernel
theorem dX6_copyFrom_27 : decode cX6_copyFrom 27 = .ok (.aload_n 0, 1) := by decide +kernel
theorem dX6_copyFrom_28 : decode cX6_copyFrom 28 = .ok (.aload_n 1, 1) := by decide +kernel
theorem dX6_copyFrom_29 : decode cX6_copyFrom 29 = .ok (.getfield 50, 3) := by decide +kernel
theorem dX6_copyFrom_32 : decode cX6_copyFrom 32 = .ok (.putfield 50, 3) := by decide +kernel
theorem dX6_copyFrom_35 : decode cX6_copyFrom 35 = .ok (.aload_n 0, 1) := by decide +kernel
theorem dX6_copyFrom_36 : decode cX6_copyFrom 36 = .ok (.aload_n 1, 1) := by decide +kernel
theorem dX6_copyFrom_37 : decode cX6_copyFrom 37 = .ok (.getfield 53, 3) := by decide +kernel
theorem dX6_copyFrom_40 : decode cX6_copyFrom 40 = .ok (.putfield 53, 3) := by decide +kernel
theorem dX6_copyFrom_43 : decode cX6_copyFrom 43 = .ok (.iconst 0, 1) := by decide +kernel
theorem dX6_copyFrom_44 : decode cX6_copyFrom 44 = .ok (.istore_n 2, 1) := by decide +kernel
theorem dX6_copyFrom_45 : decode cX6_copyFrom 45 = .ok (.iload_n 2, 1) := by decide +kernel
theorem dX6_copyFrom_46 : decode cX6_copyFrom 46 = .ok (.aload_n 0, 1) := by decide +kernel
theorem dX6_copyFrom_47 : decode cX6_copyFrom 47 = .ok (.getfield 47, 3) := by decide +kernel
theorem dX6_copyFrom_50 : decode cX6_copyFrom 50 = .ok (.if_icmp .ge 24, 3) := by decide +kernel
theorem dX6_copyFrom_53 : decode cX6_copyFrom 53 = .ok (.aload_n 0, 1) := by decide +kernel
theorem dX6_copyFrom_54 : decode cX6_copyFrom 54 = .ok (.getfield 17, 3) := by decide +kernel
theorem dX6_copyFrom_57 : decode cX6_copyFrom 57 = .ok (.iload_n 2, 1) := by decide +kernel
theorem dX6_copyFrom_58 : decode cX6_copyFrom 58 = .ok (.aaload, 1) := by decide +kernel
theorem dX6_copyFrom_59 : decode cX6_copyFrom 59 = .ok (.aload_n 1, 1) := by decide +kernel
theorem dX6_copyFrom_60 : decode cX6_copyFrom 60 = .ok (.getfield 17, 3) := by decide +kernel
theorem dX6_copyFrom_63 : decode cX6_copyFrom 63 = .ok (.iload_n 2, 1) := by decide +kernel
theorem dX6_copyFrom_64 : decode cX6_copyFrom 64 = .ok (.aaload, 1) := by decide +kernel
theorem dX6_copyFrom_65 : decode cX6_copyFrom 65 = .ok (.invokevirtual 56, 3) := by decide +kernel
theorem dX6_copyFrom_68 : decode cX6_copyFrom 68 = .ok (.iinc 2 1, 3) := by decide +kernel
theorem dX6_copyFrom_71 : decode cX6_copyFrom 71 = .ok (.goto (-26), 3) := by decide +kernel
theorem dX6_copyFrom_74 : decode cX6_copyFrom 74 = .ok (.iconst 0, 1) := by decide +kernel
theorem dX6_copyFrom_75 : decode cX6_copyFrom 75 = .ok (.istore_n 2, 1) := by decide +kernel
theorem dX6_copyFrom_76 : decode cX6_copyFrom 76 = .ok (.iload_n 2, 1) := by decide +kernel
theorem dX6_copyFrom_77 : decode cX6_copyFrom 77 = .ok (.aload_n 0, 1) := by decide +kernel
theorem dX6_copyFrom_78 : decode cX6_copyFrom 78 = .ok (.getfield 50, 3) := by decide +kernel
theorem dX6_copyFrom_81 : decode cX6_copyFrom 81 = .ok (.if_icmp .ge 24, 3) := by decide +kernel
theorem dX6_copyFrom_84 : decode cX6_copyFrom 84 = .ok (.aload_n 0, 1) := by decide +kernel
theorem dX6_copyFrom_85 : decode cX6_copyFrom 85 = .ok (.getfield 23, 3) := by decide +kernel
theorem dX6_copyFrom_88 : decode cX6_copyFrom 88 = .ok (.iload_n 2, 1) := by decide +kernel
theorem dX6_copyFrom_89 : decode cX6_copyFrom 89 = .ok (.aaload, 1) := by decide +kernel
theorem dX6_copyFrom_90 : decode cX6_copyFrom 90 = .ok (.aload_n 1, 1) := by decide +kernel
theorem dX6_copyFrom_91 : decode cX6_copyFrom 91 = .ok (.getfield 23, 3) := by decide +kernel
theorem dX6_copyFrom_94 : decode cX6_copyFrom 94 = .ok (.iload_n 2, 1) := by decide +kernel
theorem dX6_copyFrom_95 : decode cX6_copyFrom 95 = .ok (.aaload, 1) := by decide +kernel
theorem dX6_copyFrom_96 : decode cX6_copyFrom 96 = .ok (.invokevirtual 60, 3) := by decide +kernel
theorem dX6_copyFrom_99 : decode cX6_copyFrom 99 = .ok (.iinc 2 1, 3) := by decide +kernel
theorem dX6_copyFrom_102 : decode cX6_copyFrom 102 = .ok (.goto (-26), 3) := by decide +kernel
theorem dX6_copyFrom_105 : decode cX6_copyFrom 105 = .ok (.iconst 0, 1) := by decide +kernel
theorem dX6_copyFrom_106 : decode cX6_copyFrom 106 = .ok (.istore_n 2, 1) := by decide +kernel
theorem dX6_copyFrom_107 : decode cX6_copyFrom 107 = .ok (.iload_n 2, 1) := by decide +kernel
theorem dX6_copyFrom_108 : decode cX6_copyFrom 108 = .ok (.aload_n 0, 1) := by decide +kernel
theorem dX6_copyFrom_109 : decode cX6_copyFrom 109 = .ok (.getfield 53, 3) := by decide +kernel
theorem dX6_copyFrom_112 : decode cX6_copyFrom 112 = .ok (.if_icmp .ge 24, 3) := by decide +kernel
theorem dX6_copyFrom_115 : decode cX6_copyFrom 115 = .ok (.aload_n 0, 1) := by decide +kernel
theorem dX6_copyFrom_116 : decode cX6_copyFrom 116 = .ok (.getfield 29, 3) := by decide +kernel
theorem dX6_copyFrom_119 : decode cX6_copyFrom 119 = .ok (.iload_n 2, 1) := by decide +kernel
theorem dX6_copyFrom_120 : decode cX6_copyFrom 120 = .ok (.aaload, 1) := by decide +kernel
theorem dX6_copyFrom_121 : decode cX6_copyFrom 121 = .ok (.aload_n 1, 1) := by decide +kernel
theorem dX6_copyFrom_122 : decode cX6_copyFrom 122 = .ok (.getfield 29, 3) := by decide +kernel
theorem dX6_copyFrom_125 : decode cX6_copyFrom 125 = .ok (.iload_n 2, 1) := by decide +kernel
theorem dX6_copyFrom_126 : decode cX6_copyFrom 126 = .ok (.aaload, 1) := by decide +kernel
theorem dX6_copyFrom_127 : decode cX6_copyFrom 127 = .ok (.invokevirtual 63, 3) := by decide +kernel
theorem dX6_copyFrom_130 : decode cX6_copyFrom 130 = .ok (.iinc 2 1, 3) := by decide +kernel
theorem dX6_copyFrom_133 : decode cX6_copyFrom 133 = .ok (.goto (-26), 3) := by decide +kernel
theorem dX6_copyFrom_136 : decode cX6_copyFrom 136 = .ok (.return_, 1) := by decide +kernel
theorem dX6_ringOf_0 : decode cX6_ringOf 0 = .ok (.iload_n 1, 1) := by decide +kernel
theorem dX6_ringOf_1 : decode cX6_ringOf 1 = .ok (.ifCond .lt 20, 3) := by decide +kernel
theorem dX6_ringOf_4 : decode cX6_ringOf 4 = .ok (.iload_n 1, 1) := by decide +kernel
theorem dX6_ringOf_5 : decode cX6_ringOf 5 = .ok (.aload_n 0, 1) := by decide +kernel
theorem dX6_ringOf_6 : decode cX6_ringOf 6 = .ok (.getfield 47, 3) := by decide +kernel
theorem dX6_ringOf_9 : decode cX6_ringOf 9 = .ok (.if_icmp .ge 12, 3) := by decide +kernel
theorem dX6_ringOf_12 : decode cX6_ringOf 12 = .ok (.aload_n 0, 1) := by decide +kernel
theorem dX6_ringOf_13 : decode cX6_ringOf 13 = .ok (.getfield 17, 3) := by decide +kernel
theorem dX6_ringOf_16 : decode cX6_ringOf 16 = .ok (.iload_n 1, 1) := by decide +kernel
theorem dX6_ringOf_17 : decode cX6_ringOf 17 = .ok (.aaload, 1) := by decide +kernel
theorem dX6_ringOf_18 : decode cX6_ringOf 18 = .ok (.goto 4, 3) := by decide +kernel
theorem dX6_ringOf_21 : decode cX6_ringOf 21 = .ok (.aconst_null, 1) := by decide +kernel
theorem dX6_ringOf_22 : decode cX6_ringOf 22 = .ok (.areturn, 1) := by decide +kernel
theorem dX6_ringWith_0 : decode cX6_ringWith 0 = .ok (.aload_n 0, 1) := by decide +kernel
theorem dX6_ringWith_1 : decode cX6_ringWith 1 = .ok (.iload_n 1, 1) := by decide +kernel
theorem dX6_ringWith_2 : decode cX6_ringWith 2 = .ok (.invokevirtual 66, 3) := by decide +kernel
theorem dX6_ringWith_5 : decode cX6_ringWith 5 = .ok (.astore_n 3, 1) := by decide +kernel
theorem dX6_ringWith_6 : decode cX6_ringWith 6 = .ok (.aload_n 3, 1) := by decide +kernel
theorem dX6_ringWith_7 : decode cX6_ringWith 7 = .ok (.ifnull 15, 3) := by decide +kernel
theorem dX6_ringWith_10 : decode cX6_ringWith 10 = .ok (.aload_n 3, 1) := by decide +kernel
theorem dX6_ringWith_11 : decode cX6_ringWith 11 = .ok (.iload_n 2, 1) := by decide +kernel
theorem dX6_ringWith_12 : decode cX6_ringWith 12 = .ok (.invokevirtual 70, 3) := by decide +kernel
theorem dX6_ringWith_15 : decode cX6_ringWith 15 = .ok (.ifCond .eq 7, 3) := by decide +kernel
theorem dX6_ringWith_18 : decode cX6_ringWith 18 = .ok (.aload_n 3, 1) := by decide +kernel
theorem dX6_ringWith_19 : decode cX6_ringWith 19 = .ok (.goto 4, 3) := by decide +kernel
theorem dX6_ringWith_22 : decode cX6_ringWith 22 = .ok (.aconst_null, 1) := by decide +kernel
theorem dX6_ringWith_23 : decode cX6_ringWith 23 = .ok (.areturn, 1) := by decide +kernel
theorem dX6_deviceOf_0 : decode cX6_deviceOf 0 = .ok (.iload_n 1, 1) := by decide +kernel
theorem dX6_deviceOf_1 : decode cX6_deviceOf 1 = .ok (.ifCond .lt 20, 3) := by decide +kernel
theorem dX6_deviceOf_4 : decode cX6_deviceOf 4 = .ok (.iload_n 1, 1) := by decide +kernel
theorem dX6_deviceOf_5 : decode cX6_deviceOf 5 = .ok (.aload_n 0, 1) := by decide +kernel
theorem dX6_deviceOf_6 : decode cX6_deviceOf 6 = .ok (.getfield 50, 3) := by decide +kernel
theorem dX6_deviceOf_9 : decode cX6_deviceOf 9 = .ok (.if_icmp .ge 12, 3) := by decide +kernel
theorem dX6_deviceOf_12 : decode cX6_deviceOf 12 = .ok (.aload_n 0, 1) := by decide +kernel
theorem dX6_deviceOf_13 : decode cX6_deviceOf 13 = .ok (.getfield 23, 3) := by decide +kernel
theorem dX6_deviceOf_16 : decode cX6_deviceOf 16 = .ok (.iload_n 1, 1) := by decide +kernel
theorem dX6_deviceOf_17 : decode cX6_deviceOf 17 = .ok (.aaload, 1) := by decide +kernel
theorem dX6_deviceOf_18 : decode cX6_deviceOf 18 = .ok (.goto 4, 3) := by decide +kernel
theorem dX6_deviceOf_21 : decode cX6_deviceOf 21 = .ok (.aconst_null, 1) := by decide +kernel
theorem dX6_deviceOf_22 : decode cX6_deviceOf 22 = .ok (.areturn, 1) := by decide +kernel
theorem dX6_joinOf_0 : decode cX6_joinOf 0 = .ok (.iload_n 1, 1) := by decide +kernel
theorem dX6_joinOf_1 : decode cX6_joinOf 1 = .ok (.ifCond .lt 20, 3) := by decide +kernel
theorem dX6_joinOf_4 : decode cX6_joinOf 4 = .ok (.iload_n 1, 1) := by decide +kernel
theorem dX6_joinOf_5 : decode cX6_joinOf 5 = .ok (.aload_n 0, 1) := by decide +kernel
theorem dX6_joinOf_6 : decode cX6_joinOf 6 = .ok (.getfield 53, 3) := by decide +kernel
theorem dX6_joinOf_9 : decode cX6_joinOf 9 = .ok (.if_icmp .ge 12, 3) := by decide +kernel
theorem dX6_joinOf_12 : decode cX6_joinOf 12 = .ok (.aload_n 0, 1) := by decide +kernel
theorem dX6_joinOf_13 : decode cX6_joinOf 13 = .ok (.getfield 29, 3) := by decide +kernel
theorem dX6_joinOf_16 : decode cX6_joinOf 16 = .ok (.iload_n 1, 1) := by decide +kernel
theorem dX6_joinOf_17 : decode cX6_joinOf 17 = .ok (.aaload, 1) := by decide +kernel
theorem dX6_joinOf_18 : decode cX6_joinOf 18 = .ok (.goto 4, 3) := by decide +kernel
theorem dX6_joinOf_21 : decode cX6_joinOf 21 = .ok (.aconst_null, 1) := by decide +kernel
theorem dX6_joinOf_22 : decode cX6_joinOf 22 = .ok (.areturn, 1) := by decide +kernel
theorem dX6_setting_0 : decode cX6_setting 0 = .ok (.iload_n 1, 1) := by decide +kernel
theorem dX6_setting_1 : decode cX6_setting 1 = .ok (.iconst 0, 1) := by decide +kernel
theorem dX6_setting_2 : decode cX6_setting 2 = .ok (.iconst 3, 1) := by decide +kernel
theorem dX6_setting_3 : decode cX6_setting 3 = .ok (.invokestatic 74, 3) := by decide +kernel
theorem dX6_setting_6 : decode cX6_setting 6 = .ok (.ifCond .eq 12, 3) := by decide +kernel
theorem dX6_setting_9 : decode cX6_setting 9 = .ok (.aload_n 0, 1) := by decide +kernel
theorem dX6_setting_10 : decode cX6_setting 10 = .ok (.getfield 9, 3) := by decide +kernel
theorem dX6_setting_13 : decode cX6_setting 13 = .ok (.iload_n 1, 1) := by decide +kernel
theorem dX6_setting_14 : decode cX6_setting 14 = .ok (.iaload, 1) := by decide +kernel
theorem dX6_setting_15 : decode cX6_setting 15 = .ok (.goto 4, 3) := by decide +kernel
theorem dX6_setting_18 : decode cX6_setting 18 = .ok (.iconst 0, 1) := by decide +kernel
theorem dX6_setting_19 : decode cX6_setting 19 = .ok (.ireturn, 1) := by decide +kernel
theorem dX6_changeSetting_0 : decode cX6_changeSetting 0 = .ok (.iload_n 1, 1) := by decide +kernel
theorem dX6_changeSetting_1 : decode cX6_changeSetting 1 = .ok (.iconst 0, 1) := by decide +kernel
theorem dX6_changeSetting_2 : decode cX6_changeSetting 2 = .ok (.iconst 3, 1) := by decide +kernel
theorem dX6_changeSetting_3 : decode cX6_changeSetting 3 = .ok (.invokestatic 74, 3) := by decide +kernel
theorem dX6_changeSetting_6 : decode cX6_changeSetting 6 = .ok (.ifCond .ne 6, 3) := by decide +kernel
theorem dX6_changeSetting_9 : decode cX6_changeSetting 9 = .ok (.bipush (-2), 2) := by decide +kernel
theorem dX6_changeSetting_11 : decode cX6_changeSetting 11 = .ok (.ireturn, 1) := by decide +kernel
theorem dX6_changeSetting_12 : decode cX6_changeSetting 12 = .ok (.iload_n 2, 1) := by decide +kernel
theorem dX6_changeSetting_13 : decode cX6_changeSetting 13 = .ok (.getstatic 78, 3) := by decide +kernel
theorem dX6_changeSetting_16 : decode cX6_changeSetting 16 = .ok (.iload_n 1, 1) := by decide +kernel
theorem dX6_changeSetting_17 : decode cX6_changeSetting 17 = .ok (.iaload, 1) := by decide +kernel
theorem dX6_changeSetting_18 : decode cX6_changeSetting 18 = .ok (.getstatic 81, 3) := by decide +kernel
theorem dX6_changeSetting_21 : decode cX6_changeSetting 21 = .ok (.iload_n 1, 1) := by decide +kernel
theorem dX6_changeSetting_22 : decode cX6_changeSetting 22 = .ok (.iaload, 1) := by decide +kernel
theorem dX6_changeSetting_23 : decode cX6_changeSetting 23 = .ok (.invokestatic 74, 3) := by decide +kernel
theorem dX6_changeSetting_26 : decode cX6_changeSetting 26 = .ok (.ifCond .ne 6, 3) := by decide +kernel
theorem dX6_changeSetting_29 : decode cX6_changeSetting 29 = .ok (.bipush (-2), 2) := by decide +kernel
theorem dX6_changeSetting_31 : decode cX6_changeSetting 31 = .ok (.ireturn, 1) := by decide +kernel
theorem dX6_changeSetting_32 : decode cX6_changeSetting 32 = .ok (.aload_n 0, 1) := by decide +kernel
theorem dX6_changeSetting_33 : decode cX6_changeSetting 33 = .ok (.getfield 9, 3) := by decide +kernel
theorem dX6_changeSetting_36 : decode cX6_changeSetting 36 = .ok (.iload_n 1, 1) := by decide +kernel
theorem dX6_changeSetting_37 : decode cX6_changeSetting 37 = .ok (.iaload, 1) := by decide +kernel
theorem dX6_changeSetting_38 : decode cX6_changeSetting 38 = .ok (.istore_n 3, 1) := by decide +kernel
theorem dX6_changeSetting_39 : decode cX6_changeSetting 39 = .ok (.aload_n 0, 1) := by decide +kernel
theorem dX6_changeSetting_40 : decode cX6_changeSetting 40 = .ok (.getfield 9, 3) := by decide +kernel
theorem dX6_changeSetting_43 : decode cX6_changeSetting 43 = .ok (.iload_n 1, 1) := by decide +kernel
theorem dX6_changeSetting_44 : decode cX6_changeSetting 44 = .ok (.iload_n 2, 1) := by decide +kernel
theorem dX6_changeSetting_45 : decode cX6_changeSetting 45 = .ok (.iastore, 1) := by decide +kernel
theorem dX6_changeSetting_46 : decode cX6_changeSetting 46 = .ok (.iload_n 3, 1) := by decide +kernel
theorem dX6_changeSetting_47 : decode cX6_changeSetting 47 = .ok (.ireturn, 1) := by decide +kernel
theorem dX6_addRing_0 : decode cX6_addRing 0 = .ok (.iload_n 1, 1) := by decide +kernel
theorem dX6_addRing_1 : decode cX6_addRing 1 = .ok (.iconst 4, 1) := by decide +kernel
theorem dX6_addRing_2 : decode cX6_addRing 2 = .ok (.bipush 32, 2) := by decide +kernel
theorem dX6_addRing_4 : decode cX6_addRing 4 = .ok (.invokestatic 74, 3) := by decide +kernel
theorem dX6_addRing_7 : decode cX6_addRing 7 = .ok (.ifCond .ne 6, 3) := by decide +kernel
theorem dX6_addRing_10 : decode cX6_addRing 10 = .ok (.bipush (-2), 2) := by decide +kernel
theorem dX6_addRing_12 : decode cX6_addRing 12 = .ok (.ireturn, 1) := by decide +kernel
theorem dX6_addRing_13 : decode cX6_addRing 13 = .ok (.aload_n 0, 1) := by decide +kernel
theorem dX6_addRing_14 : decode cX6_addRing 14 = .ok (.getfield 47, 3) := by decide +kernel
theorem dX6_addRing_17 : decode cX6_addRing 17 = .ok (.iconst 5, 1) := by decide +kernel
theorem dX6_addRing_18 : decode cX6_addRing 18 = .ok (.if_icmp .lt 6, 3) := by decide +kernel
theorem dX6_addRing_21 : decode cX6_addRing 21 = .ok (.bipush (-4), 2) := by decide +kernel
theorem dX6_addRing_23 : decode cX6_addRing 23 = .ok (.ireturn, 1) := by decide +kernel
theorem dX6_addRing_24 : decode cX6_addRing 24 = .ok (.aload_n 0, 1) := by decide +kernel
theorem dX6_addRing_25 : decode cX6_addRing 25 = .ok (.getfield 17, 3) := by decide +kernel
theorem dX6_addRing_28 : decode cX6_addRing 28 = .ok (.aload_n 0, 1) := by decide +kernel
theorem dX6_addRing_29 : decode cX6_addRing 29 = .ok (.getfield 47, 3) := by decide +kernel
theorem dX6_addRing_32 : decode cX6_addRing 32 = .ok (.aaload, 1) := by decide +kernel
theorem dX6_addRing_33 : decode cX6_addRing 33 = .ok (.iload_n 1, 1) := by decide +kernel
theorem dX6_addRing_34 : decode cX6_addRing 34 = .ok (.invokevirtual 84, 3) := by decide +kernel
theorem dX6_addRing_37 : decode cX6_addRing 37 = .ok (.aload_n 0, 1) := by decide +kernel
theorem dX6_addRing_38 : decode cX6_addRing 38 = .ok (.dup, 1) := by decide +kernel
theorem dX6_addRing_39 : decode cX6_addRing 39 = .ok (.getfield 47, 3) := by decide +kernel
theorem dX6_addRing_42 : decode cX6_addRing 42 = .ok (.iconst 1, 1) := by decide +kernel
theorem dX6_addRing_43 : decode cX6_addRing 43 = .ok (.iadd, 1) := by decide +kernel
theorem dX6_addRing_44 : decode cX6_addRing 44 = .ok (.putfield 47, 3) := by decide +kernel
theorem dX6_addRing_47 : decode cX6_addRing 47 = .ok (.aload_n 0, 1) := by decide +kernel
theorem dX6_addRing_48 : decode cX6_addRing 48 = .ok (.getfield 47, 3) := by decide +kernel
theorem dX6_addRing_51 : decode cX6_addRing 51 = .ok (.iconst 1, 1) := by decide +kernel
theorem dX6_addRing_52 : decode cX6_addRing 52 = .ok (.isub, 1) := by decide +kernel
theorem dX6_addRing_53 : decode cX6_addRing 53 = .ok (.ireturn, 1) := by decide +kernel
theorem dX6_addDevice_0 : decode cX6_addDevice 0 = .ok (.aload_n 0, 1) := by decide +kernel
theorem dX6_addDevice_1 : decode cX6_addDevice 1 = .ok (.iload_n 1, 1) := by decide +kernel
theorem dX6_addDevice_2 : decode cX6_addDevice 2 = .ok (.iload_n 2, 1) := by decide +kernel
theorem dX6_addDevice_3 : decode cX6_addDevice 3 = .ok (.invokevirtual 88, 3) := by decide +kernel
theorem dX6_addDevice_6 : decode cX6_addDevice 6 = .ok (.ifnonnull 5, 3) := by decide +kernel
theorem dX6_addDevice_9 : decode cX6_addDevice 9 = .ok (.iconst (-1), 1) := by decide +kernel
theorem dX6_addDevice_10 : decode cX6_addDevice 10 = .ok (.ireturn, 1) := by decide +kernel
theorem dX6_addDevice_11 : decode cX6_addDevice 11 = .ok (.iload_n 3, 1) := by decide +kernel
theorem dX6_addDevice_12 : decode cX6_addDevice 12 = .ok (.iload 4, 2) := by decide +kernel
theorem dX6_addDevice_14 : decode cX6_addDevice 14 = .ok (.iload 5, 2) := by decide +kernel
theorem dX6_addDevice_16 : decode cX6_addDevice 16 = .ok (.invokestatic 92, 3) := by decide +kernel
theorem dX6_addDevice_19 : decode cX6_addDevice 19 = .ok (.ifCond .ne 6, 3) := by decide +kernel
theorem dX6_addDevice_22 : decode cX6_addDevice 22 = .ok (.bipush (-2), 2) := by decide +kernel
theorem dX6_addDevice_24 : decode cX6_addDevice 24 = .ok (.ireturn, 1) := by decide +kernel
theorem dX6_addDevice_25 : decode cX6_addDevice 25 = .ok (.aload_n 0, 1) := by decide +kernel
theorem dX6_addDevice_26 : decode cX6_addDevice 26 = .ok (.getfield 50, 3) := by decide +kernel
theorem dX6_addDevice_29 : decode cX6_addDevice 29 = .ok (.bipush 12, 2) := by decide +kernel
theorem dX6_addDevice_31 : decode cX6_addDevice 31 = .ok (.if_icmp .lt 6, 3) := by decide +kernel
theorem dX6_addDevice_34 : decode cX6_addDevice 34 = .ok (.bipush (-4), 2) := by decide +kernel
theorem dX6_addDevice_36 : decode cX6_addDevice 36 = .ok (.ireturn, 1) := by decide +kernel
theorem dX6_addDevice_37 : decode cX6_addDevice 37 = .ok (.aload_n 0, 1) := by decide +kernel
theorem dX6_addDevice_38 : decode cX6_addDevice 38 = .ok (.getfield 23, 3) := by decide +kernel
theorem dX6_addDevice_41 : decode cX6_addDevice 41 = .ok (.aload_n 0, 1) := by decide +kernel
theorem dX6_addDevice_42 : decode cX6_addDevice 42 = .ok (.getfield 50, 3) := by decide +kernel
theorem dX6_addDevice_45 : decode cX6_addDevice 45 = .ok (.aaload, 1) := by decide +kernel
theorem dX6_addDevice_46 : decode cX6_addDevice 46 = .ok (.iload_n 1, 1) := by decide +kernel
theorem dX6_addDevice_47 : decode cX6_addDevice 47 = .ok (.iload_n 2, 1) := by decide +kernel
theorem dX6_addDevice_48 : decode cX6_addDevice 48 = .ok (.iload_n 3, 1) := by decide +kernel
theorem dX6_addDevice_49 : decode cX6_addDevice 49 = .ok (.iload 4, 2) := by decide +kernel
theorem dX6_addDevice_51 : decode cX6_addDevice 51 = .ok (.iload 5, 2) := by decide +kernel
theorem dX6_addDevice_53 : decode cX6_addDevice 53 = .ok (.invokevirtual 95, 3) := by decide +kernel
theorem dX6_addDevice_56 : decode cX6_addDevice 56 = .ok (.aload_n 0, 1) := by decide +kernel
theorem dX6_addDevice_57 : decode cX6_addDevice 57 = .ok (.dup, 1) := by decide +kernel
theorem dX6_addDevice_58 : decode cX6_addDevice 58 = .ok (.getfield 50, 3) := by decide +kernel
theorem dX6_addDevice_61 : decode cX6_addDevice 61 = .ok (.iconst 1, 1) := by decide +kernel
theorem dX6_addDevice_62 : decode cX6_addDevice 62 = .ok (.iadd, 1) := by decide +kernel
theorem dX6_addDevice_63 : decode cX6_addDevice 63 = .ok (.putfield 50, 3) := by decide +kernel
theorem dX6_addDevice_66 : decode cX6_addDevice 66 = .ok (.aload_n 0, 1) := by decide +kernel
theorem dX6_addDevice_67 : decode cX6_addDevice 67 = .ok (.getfield 50, 3) := by decide +kernel
theorem dX6_addDevice_70 : decode cX6_addDevice 70 = .ok (.iconst 1, 1) := by decide +kernel
theorem dX6_addDevice_71 : decode cX6_addDevice 71 = .ok (.isub, 1) := by decide +kernel
theorem dX6_addDevice_72 : decode cX6_addDevice 72 = .ok (.ireturn, 1) := by decide +kernel
theorem dX6_addJoin_0 : decode cX6_addJoin 0 = .ok (.aload_n 0, 1) := by decide +kernel
theorem dX6_addJoin_1 : decode cX6_addJoin 1 = .ok (.iload_n 1, 1) := by decide +kernel
theorem dX6_addJoin_2 : decode cX6_addJoin 2 = .ok (.iload_n 2, 1) := by decide +kernel
theorem dX6_addJoin_3 : decode cX6_addJoin 3 = .ok (.invokevirtual 88, 3) := by decide +kernel
theorem dX6_addJoin_6 : decode cX6_addJoin 6 = .ok (.ifnull 13, 3) := by decide +kernel
theorem dX6_addJoin_9 : decode cX6_addJoin 9 = .ok (.aload_n 0, 1) := by decide +kernel
theorem dX6_addJoin_10 : decode cX6_addJoin 10 = .ok (.iload_n 3, 1) := by decide +kernel
theorem dX6_addJoin_11 : decode cX6_addJoin 11 = .ok (.iload 4, 2) := by decide +kernel
theorem dX6_addJoin_13 : decode cX6_addJoin 13 = .ok (.invokevirtual 88, 3) := by decide +kernel
theorem dX6_addJoin_16 : decode cX6_addJoin 16 = .ok (.ifnonnull 5, 3) := by decide +kernel
theorem dX6_addJoin_19 : decode cX6_addJoin 19 = .ok (.iconst (-1), 1) := by decide +kernel
theorem dX6_addJoin_20 : decode cX6_addJoin 20 = .ok (.ireturn, 1) := by decide +kernel
theorem dX6_addJoin_21 : decode cX6_addJoin 21 = .ok (.iload_n 1, 1) := by decide +kernel
theorem dX6_addJoin_22 : decode cX6_addJoin 22 = .ok (.iload_n 3, 1) := by decide +kernel
theorem dX6_addJoin_23 : decode cX6_addJoin 23 = .ok (.if_icmp .ne 6, 3) := by decide +kernel
theorem dX6_addJoin_26 : decode cX6_addJoin 26 = .ok (.bipush (-2), 2) := by decide +kernel
theorem dX6_addJoin_28 : decode cX6_addJoin 28 = .ok (.ireturn, 1) := by decide +kernel
theorem dX6_addJoin_29 : decode cX6_addJoin 29 = .ok (.aload_n 0, 1) := by decide +kernel
theorem dX6_addJoin_30 : decode cX6_addJoin 30 = .ok (.getfield 53, 3) := by decide +kernel
theorem dX6_addJoin_33 : decode cX6_addJoin 33 = .ok (.iconst 4, 1) := by decide +kernel
theorem dX6_addJoin_34 : decode cX6_addJoin 34 = .ok (.if_icmp .lt 6, 3) := by decide +kernel
theorem dX6_addJoin_37 : decode cX6_addJoin 37 = .ok (.bipush (-4), 2) := by decide +kernel
theorem dX6_addJoin_39 : decode cX6_addJoin 39 = .ok (.ireturn, 1) := by decide +kernel
theorem dX6_addJoin_40 : decode cX6_addJoin 40 = .ok (.aload_n 0, 1) := by decide +kernel
theorem dX6_addJoin_41 : decode cX6_addJoin 41 = .ok (.getfield 29, 3) := by decide +kernel
theorem dX6_addJoin_44 : decode cX6_addJoin 44 = .ok (.aload_n 0, 1) := by decide +kernel
theorem dX6_addJoin_45 : decode cX6_addJoin 45 = .ok (.getfield 53, 3) := by decide +kernel
theorem dX6_addJoin_48 : decode cX6_addJoin 48 = .ok (.aaload, 1) := by decide +kernel
theorem dX6_addJoin_49 : decode cX6_addJoin 49 = .ok (.iload_n 1, 1) := by decide +kernel
theorem dX6_addJoin_50 : decode cX6_addJoin 50 = .ok (.iload_n 2, 1) := by decide +kernel
theorem dX6_addJoin_51 : decode cX6_addJoin 51 = .ok (.iload_n 3, 1) := by decide +kernel
theorem dX6_addJoin_52 : decode cX6_addJoin 52 = .ok (.iload 4, 2) := by decide +kernel
theorem dX6_addJoin_54 : decode cX6_addJoin 54 = .ok (.invokevirtual 98, 3) := by decide +kernel
theorem dX6_addJoin_57 : decode cX6_addJoin 57 = .ok (.aload_n 0, 1) := by decide +kernel
theorem dX6_addJoin_58 : decode cX6_addJoin 58 = .ok (.dup, 1) := by decide +kernel
theorem dX6_addJoin_59 : decode cX6_addJoin 59 = .ok (.getfield 53, 3) := by decide +kernel
theorem dX6_addJoin_62 : decode cX6_addJoin 62 = .ok (.iconst 1, 1) := by decide +kernel
theorem dX6_addJoin_63 : decode cX6_addJoin 63 = .ok (.iadd, 1) := by decide +kernel
theorem dX6_addJoin_64 : decode cX6_addJoin 64 = .ok (.putfield 53, 3) := by decide +kernel
theorem dX6_addJoin_67 : decode cX6_addJoin 67 = .ok (.aload_n 0, 1) := by decide +kernel
theorem dX6_addJoin_68 : decode cX6_addJoin 68 = .ok (.getfield 53, 3) := by decide +kernel
theorem dX6_addJoin_71 : decode cX6_addJoin 71 = .ok (.iconst 1, 1) := by decide +kernel
theorem dX6_addJoin_72 : decode cX6_addJoin 72 = .ok (.isub, 1) := by decide +kernel
theorem dX6_addJoin_73 : decode cX6_addJoin 73 = .ok (.ireturn, 1) := by decide +kernel
theorem dX6_turnJoin_0 : decode cX6_turnJoin 0 = .ok (.aload_n 0, 1) := by decide +kernel
theorem dX6_turnJoin_1 : decode cX6_turnJoin 1 = .ok (.iload_n 1, 1) := by decide +kernel
theorem dX6_turnJoin_2 : decode cX6_turnJoin 2 = .ok (.invokevirtual 101, 3) := by decide +kernel
theorem dX6_turnJoin_5 : decode cX6_turnJoin 5 = .ok (.astore_n 3, 1) := by decide +kernel
theorem dX6_turnJoin_6 : decode cX6_turnJoin 6 = .ok (.aload_n 3, 1) := by decide +kernel
theorem dX6_turnJoin_7 : decode cX6_turnJoin 7 = .ok (.ifnonnull 5, 3) := by decide +kernel
theorem dX6_turnJoin_10 : decode cX6_turnJoin 10 = .ok (.iconst (-1), 1) := by decide +kernel
theorem dX6_turnJoin_11 : decode cX6_turnJoin 11 = .ok (.ireturn, 1) := by decide +kernel
theorem dX6_turnJoin_12 : decode cX6_turnJoin 12 = .ok (.iload_n 2, 1) := by decide +kernel
theorem dX6_turnJoin_13 : decode cX6_turnJoin 13 = .ok (.iconst 0, 1) := by decide +kernel
theorem dX6_turnJoin_14 : decode cX6_turnJoin 14 = .ok (.iconst 2, 1) := by decide +kernel
theorem dX6_turnJoin_15 : decode cX6_turnJoin 15 = .ok (.invokestatic 74, 3) := by decide +kernel
theorem dX6_turnJoin_18 : decode cX6_turnJoin 18 = .ok (.ifCond .ne 6, 3) := by decide +kernel
theorem dX6_turnJoin_21 : decode cX6_turnJoin 21 = .ok (.bipush (-2), 2) := by decide +kernel
theorem dX6_turnJoin_23 : decode cX6_turnJoin 23 = .ok (.ireturn, 1) := by decide +kernel
theorem dX6_turnJoin_24 : decode cX6_turnJoin 24 = .ok (.aload_n 3, 1) := by decide +kernel
theorem dX6_turnJoin_25 : decode cX6_turnJoin 25 = .ok (.getfield 105, 3) := by decide +kernel
theorem dX6_turnJoin_28 : decode cX6_turnJoin 28 = .ok (.istore 4, 2) := by decide +kernel
theorem dX6_turnJoin_30 : decode cX6_turnJoin 30 = .ok (.aload_n 3, 1) := by decide +kernel
theorem dX6_turnJoin_31 : decode cX6_turnJoin 31 = .ok (.iload_n 2, 1) := by decide +kernel
theorem dX6_turnJoin_32 : decode cX6_turnJoin 32 = .ok (.putfield 105, 3) := by decide +kernel
theorem dX6_turnJoin_35 : decode cX6_turnJoin 35 = .ok (.iload 4, 2) := by decide +kernel
theorem dX6_turnJoin_37 : decode cX6_turnJoin 37 = .ok (.ireturn, 1) := by decide +kernel
theorem dX6_feedDevice_0 : decode cX6_feedDevice 0 = .ok (.aload_n 0, 1) := by decide +kernel
theorem dX6_feedDevice_1 : decode cX6_feedDevice 1 = .ok (.iload_n 1, 1) := by decide +kernel
theorem dX6_feedDevice_2 : decode cX6_feedDevice 2 = .ok (.invokevirtual 108, 3) := by decide +kernel
theorem dX6_feedDevice_5 : decode cX6_feedDevice 5 = .ok (.astore_n 3, 1) := by decide +kernel
theorem dX6_feedDevice_6 : decode cX6_feedDevice 6 = .ok (.aload_n 3, 1) := by decide +kernel
theorem dX6_feedDevice_7 : decode cX6_feedDevice 7 = .ok (.ifnull 11, 3) := by decide +kernel
theorem dX6_feedDevice_10 : decode cX6_feedDevice 10 = .ok (.aload_n 3, 1) := by decide +kernel
theorem dX6_feedDevice_11 : decode cX6_feedDevice 11 = .ok (.getfield 112, 3) := by decide +kernel
theorem dX6_feedDevice_14 : decode cX6_feedDevice 14 = .ok (.iconst 2, 1) := by decide +kernel
theorem dX6_feedDevice_15 : decode cX6_feedDevice 15 = .ok (.if_icmp .eq 5, 3) := by decide +kernel
theorem dX6_feedDevice_18 : decode cX6_feedDevice 18 = .ok (.iconst (-1), 1) := by decide +kernel
theorem dX6_feedDevice_19 : decode cX6_feedDevice 19 = .ok (.ireturn, 1) := by decide +kernel
theorem dX6_feedDevice_20 : decode cX6_feedDevice 20 = .ok (.iload_n 2, 1) := by decide +kernel
theorem dX6_feedDevice_21 : decode cX6_feedDevice 21 = .ok (.invokestatic 115, 3) := by decide +kernel
theorem dX6_feedDevice_24 : decode cX6_feedDevice 24 = .ok (.ifCond .ne 6, 3) := by decide +kernel
theorem dX6_feedDevice_27 : decode cX6_feedDevice 27 = .ok (.bipush (-2), 2) := by decide +kernel
theorem dX6_feedDevice_29 : decode cX6_feedDevice 29 = .ok (.ireturn, 1) := by decide +kernel
theorem dX6_feedDevice_30 : decode cX6_feedDevice 30 = .ok (.aload_n 3, 1) := by decide +kernel
theorem dX6_feedDevice_31 : decode cX6_feedDevice 31 = .ok (.getfield 118, 3) := by decide +kernel
theorem dX6_feedDevice_34 : decode cX6_feedDevice 34 = .ok (.bipush 12, 2) := by decide +kernel
theorem dX6_feedDevice_36 : decode cX6_feedDevice 36 = .ok (.if_icmp .lt 6, 3) := by decide +kernel
theorem dX6_feedDevice_39 : decode cX6_feedDevice 39 = .ok (.bipush (-4), 2) := by decide +kernel
theorem dX6_feedDevice_41 : decode cX6_feedDevice 41 = .ok (.ireturn, 1) := by decide +kernel
theorem dX6_feedDevice_42 : decode cX6_feedDevice 42 = .ok (.aload_n 3, 1) := by decide +kernel
theorem dX6_feedDevice_43 : decode cX6_feedDevice 43 = .ok (.iload_n 2, 1) := by decide +kernel
theorem dX6_feedDevice_44 : decode cX6_feedDevice 44 = .ok (.invokevirtual 121, 3) := by decide +kernel
theorem dX6_feedDevice_47 : decode cX6_feedDevice 47 = .ok (.aload_n 3, 1) := by decide +kernel
theorem dX6_feedDevice_48 : decode cX6_feedDevice 48 = .ok (.getfield 118, 3) := by decide +kernel
theorem dX6_feedDevice_51 : decode cX6_feedDevice 51 = .ok (.ireturn, 1) := by decide +kernel
theorem dX6_lightFlash_0 : decode cX6_lightFlash 0 = .ok (.aload_n 0, 1) := by decide +kernel
theorem dX6_lightFlash_1 : decode cX6_lightFlash 1 = .ok (.iload_n 1, 1) := by decide +kernel
theorem dX6_lightFlash_2 : decode cX6_lightFlash 2 = .ok (.iload_n 2, 1) := by decide +kernel
theorem dX6_lightFlash_3 : decode cX6_lightFlash 3 = .ok (.invokevirtual 88, 3) := by decide +kernel
theorem dX6_lightFlash_6 : decode cX6_lightFlash 6 = .ok (.astore 4, 2) := by decide +kernel
theorem dX6_lightFlash_8 : decode cX6_lightFlash 8 = .ok (.aload 4, 2) := by decide +kernel
theorem dX6_lightFlash_10 : decode cX6_lightFlash 10 = .ok (.ifnonnull 5, 3) := by decide +kernel
theorem dX6_lightFlash_13 : decode cX6_lightFlash 13 = .ok (.iconst (-1), 1) := by decide +kernel
theorem dX6_lightFlash_14 : decode cX6_lightFlash 14 = .ok (.ireturn, 1) := by decide +kernel
theorem dX6_lightFlash_15 : decode cX6_lightFlash 15 = .ok (.iload_n 3, 1) := by decide +kernel
theorem dX6_lightFlash_16 : decode cX6_lightFlash 16 = .ok (.invokestatic 115, 3) := by decide +kernel
theorem dX6_lightFlash_19 : decode cX6_lightFlash 19 = .ok (.ifCond .ne 6, 3) := by decide +kernel
theorem dX6_lightFlash_22 : decode cX6_lightFlash 22 = .ok (.bipush (-2), 2) := by decide +kernel
theorem dX6_lightFlash_24 : decode cX6_lightFlash 24 = .ok (.ireturn, 1) := by decide +kernel
theorem dX6_lightFlash_25 : decode cX6_lightFlash 25 = .ok (.aload 4, 2) := by decide +kernel
theorem dX6_lightFlash_27 : decode cX6_lightFlash 27 = .ok (.iload_n 2, 1) := by decide +kernel
theorem dX6_lightFlash_28 : decode cX6_lightFlash 28 = .ok (.invokevirtual 124, 3) := by decide +kernel
theorem dX6_lightFlash_31 : decode cX6_lightFlash 31 = .ok (.ifCond .le 6, 3) := by decide +kernel
theorem dX6_lightFlash_34 : decode cX6_lightFlash 34 = .ok (.bipush (-5), 2) := by decide +kernel
theorem dX6_lightFlash_36 : decode cX6_lightFlash 36 = .ok (.ireturn, 1) := by decide +kernel
theorem dX6_lightFlash_37 : decode cX6_lightFlash 37 = .ok (.aload 4, 2) := by decide +kernel
theorem dX6_lightFlash_39 : decode cX6_lightFlash 39 = .ok (.iload_n 2, 1) := by decide +kernel
theorem dX6_lightFlash_40 : decode cX6_lightFlash 40 = .ok (.iload_n 3, 1) := by decide +kernel
theorem dX6_lightFlash_41 : decode cX6_lightFlash 41 = .ok (.aload_n 0, 1) := by decide +kernel
theorem dX6_lightFlash_42 : decode cX6_lightFlash 42 = .ok (.iconst 3, 1) := by decide +kernel
theorem dX6_lightFlash_43 : decode cX6_lightFlash 43 = .ok (.invokevirtual 128, 3) := by decide +kernel
theorem dX6_lightFlash_46 : decode cX6_lightFlash 46 = .ok (.aload_n 0, 1) := by decide +kernel
theorem dX6_lightFlash_47 : decode cX6_lightFlash 47 = .ok (.getfield 43, 3) := by decide +kernel
theorem dX6_lightFlash_50 : decode cX6_lightFlash 50 = .ok (.invokevirtual 131, 3) := by decide +kernel
theorem dX6_lightFlash_53 : decode cX6_lightFlash 53 = .ok (.aload 4, 2) := by decide +kernel
theorem dX6_lightFlash_55 : decode cX6_lightFlash 55 = .ok (.invokevirtual 134, 3) := by decide +kernel
theorem dX6_lightFlash_58 : decode cX6_lightFlash 58 = .ok (.ireturn, 1) := by decide +kernel
theorem dX6_passTicks_0 : decode cX6_passTicks 0 = .ok (.iload_n 1, 1) := by decide +kernel
theorem dX6_passTicks_1 : decode cX6_passTicks 1 = .ok (.iconst 1, 1) := by decide +kernel
theorem dX6_passTicks_2 : decode cX6_passTicks 2 = .ok (.sipush 200, 3) := by decide +kernel
theorem dX6_passTicks_5 : decode cX6_passTicks 5 = .ok (.invokestatic 74, 3) := by decide +kernel
theorem dX6_passTicks_8 : decode cX6_passTicks 8 = .ok (.ifCond .ne 6, 3) := by decide +kernel
theorem dX6_passTicks_11 : decode cX6_passTicks 11 = .ok (.bipush (-2), 2) := by decide +kernel
theorem dX6_passTicks_13 : decode cX6_passTicks 13 = .ok (.ireturn, 1) := by decide +kernel
theorem dX6_passTicks_14 : decode cX6_passTicks 14 = .ok (.iconst 0, 1) := by decide +kernel
theorem dX6_passTicks_15 : decode cX6_passTicks 15 = .ok (.istore_n 2, 1) := by decide +kernel
theorem dX6_passTicks_16 : decode cX6_passTicks 16 = .ok (.iload_n 2, 1) := by decide +kernel
theorem dX6_passTicks_17 : decode cX6_passTicks 17 = .ok (.iload_n 1, 1) := by decide +kernel
theorem dX6_passTicks_18 : decode cX6_passTicks 18 = .ok (.if_icmp .ge 13, 3) := by decide +kernel
theorem dX6_passTicks_21 : decode cX6_passTicks 21 = .ok (.aload_n 0, 1) := by decide +kernel
theorem dX6_passTicks_22 : decode cX6_passTicks 22 = .ok (.invokevirtual 138, 3) := by decide +kernel
theorem dX6_passTicks_25 : decode cX6_passTicks 25 = .ok (.iinc 2 1, 3) := by decide +kernel
theorem dX6_passTicks_28 : decode cX6_passTicks 28 = .ok (.goto (-12), 3) := by decide +kernel
theorem dX6_passTicks_31 : decode cX6_passTicks 31 = .ok (.aload_n 0, 1) := by decide +kernel
theorem dX6_passTicks_32 : decode cX6_passTicks 32 = .ok (.getfield 43, 3) := by decide +kernel
theorem dX6_passTicks_35 : decode cX6_passTicks 35 = .ok (.ireturn, 1) := by decide +kernel
theorem dX6_ticksToLoss_0 : decode cX6_ticksToLoss 0 = .ok (.aload_n 0, 1) := by decide +kernel
theorem dX6_ticksToLoss_1 : decode cX6_ticksToLoss 1 = .ok (.iconst 1, 1) := by decide +kernel
theorem dX6_ticksToLoss_2 : decode cX6_ticksToLoss 2 = .ok (.invokevirtual 141, 3) := by decide +kernel
theorem dX6_ticksToLoss_5 : decode cX6_ticksToLoss 5 = .ok (.istore_n 2, 1) := by decide +kernel
theorem dX6_ticksToLoss_6 : decode cX6_ticksToLoss 6 = .ok (.iconst 1, 1) := by decide +kernel
theorem dX6_ticksToLoss_7 : decode cX6_ticksToLoss 7 = .ok (.istore_n 3, 1) := by decide +kernel
theorem dX6_ticksToLoss_8 : decode cX6_ticksToLoss 8 = .ok (.iload_n 3, 1) := by decide +kernel
theorem dX6_ticksToLoss_9 : decode cX6_ticksToLoss 9 = .ok (.iload_n 1, 1) := by decide +kernel
theorem dX6_ticksToLoss_10 : decode cX6_ticksToLoss 10 = .ok (.if_icmp .gt 24, 3) := by decide +kernel
theorem dX6_ticksToLoss_13 : decode cX6_ticksToLoss 13 = .ok (.aload_n 0, 1) := by decide +kernel
theorem dX6_ticksToLoss_14 : decode cX6_ticksToLoss 14 = .ok (.invokevirtual 138, 3) := by decide +kernel
theorem dX6_ticksToLoss_17 : decode cX6_ticksToLoss 17 = .ok (.aload_n 0, 1) := by decide +kernel
theorem dX6_ticksToLoss_18 : decode cX6_ticksToLoss 18 = .ok (.iconst 1, 1) := by decide +kernel
theorem dX6_ticksToLoss_19 : decode cX6_ticksToLoss 19 = .ok (.invokevirtual 141, 3) := by decide +kernel
theorem dX6_ticksToLoss_22 : decode cX6_ticksToLoss 22 = .ok (.iload_n 2, 1) := by decide +kernel
theorem dX6_ticksToLoss_23 : decode cX6_ticksToLoss 23 = .ok (.if_icmp .le 5, 3) := by decide +kernel
theorem dX6_ticksToLoss_26 : decode cX6_ticksToLoss 26 = .ok (.iload_n 3, 1) := by decide +kernel
theorem dX6_ticksToLoss_27 : decode cX6_ticksToLoss 27 = .ok (.ireturn, 1) := by decide +kernel
theorem dX6_ticksToLoss_28 : decode cX6_ticksToLoss 28 = .ok (.iinc 3 1, 3) := by decide +kernel
theorem dX6_ticksToLoss_31 : decode cX6_ticksToLoss 31 = .ok (.goto (-23), 3) := by decide +kernel
theorem dX6_ticksToLoss_34 : decode cX6_ticksToLoss 34 = .ok (.bipush (-6), 2) := by decide +kernel
theorem dX6_ticksToLoss_36 : decode cX6_ticksToLoss 36 = .ok (.ireturn, 1) := by decide +kernel
theorem dX6_passOne_0 : decode cX6_passOne 0 = .ok (.iconst 0, 1) := by decide +kernel
theorem dX6_passOne_1 : decode cX6_passOne 1 = .ok (.istore_n 1, 1) := by decide +kernel
theorem dX6_passOne_2 : decode cX6_passOne 2 = .ok (.iload_n 1, 1) := by decide +kernel
theorem dX6_passOne_3 : decode cX6_passOne 3 = .ok (.aload_n 0, 1) := by decide +kernel
theorem dX6_passOne_4 : decode cX6_passOne 4 = .ok (.getfield 47, 3) := by decide +kernel
theorem dX6_passOne_7 : decode cX6_passOne 7 = .ok (.if_icmp .ge 23, 3) := by decide +kernel
theorem dX6_passOne_10 : decode cX6_passOne 10 = .ok (.aload_n 0, 1) := by decide +kernel
theorem dX6_passOne_11 : decode cX6_passOne 11 = .ok (.getfield 17, 3) := by decide +kernel
theorem dX6_passOne_14 : decode cX6_passOne 14 = .ok (.iload_n 1, 1) := by decide +kernel
theorem dX6_passOne_15 : decode cX6_passOne 15 = .ok (.aaload, 1) := by decide +kernel
theorem dX6_passOne_16 : decode cX6_passOne 16 = .ok (.aload_n 0, 1) := by decide +kernel
theorem dX6_passOne_17 : decode cX6_passOne 17 = .ok (.iconst 0, 1) := by decide +kernel
theorem dX6_passOne_18 : decode cX6_passOne 18 = .ok (.invokevirtual 128, 3) := by decide +kernel
theorem dX6_passOne_21 : decode cX6_passOne 21 = .ok (.invokevirtual 144, 3) := by decide +kernel
theorem dX6_passOne_24 : decode cX6_passOne 24 = .ok (.iinc 1 1, 3) := by decide +kernel
theorem dX6_passOne_27 : decode cX6_passOne 27 = .ok (.goto (-25), 3) := by decide +kernel
theorem dX6_passOne_30 : decode cX6_passOne 30 = .ok (.iconst 0, 1) := by decide +kernel
theorem dX6_passOne_31 : decode cX6_passOne 31 = .ok (.istore_n 1, 1) := by decide +kernel
theorem dX6_passOne_32 : decode cX6_passOne 32 = .ok (.iload_n 1, 1) := by decide +kernel
theorem dX6_passOne_33 : decode cX6_passOne 33 = .ok (.aload_n 0, 1) := by decide +kernel
theorem dX6_passOne_34 : decode cX6_passOne 34 = .ok (.getfield 50, 3) := by decide +kernel
theorem dX6_passOne_37 : decode cX6_passOne 37 = .ok (.if_icmp .ge 38, 3) := by decide +kernel
theorem dX6_passOne_40 : decode cX6_passOne 40 = .ok (.aload_n 0, 1) := by decide +kernel
theorem dX6_passOne_41 : decode cX6_passOne 41 = .ok (.aload_n 0, 1) := by decide +kernel
theorem dX6_passOne_42 : decode cX6_passOne 42 = .ok (.getfield 23, 3) := by decide +kernel
theorem dX6_passOne_45 : decode cX6_passOne 45 = .ok (.iload_n 1, 1) := by decide +kernel
theorem dX6_passOne_46 : decode cX6_passOne 46 = .ok (.aaload, 1) := by decide +kernel
theorem dX6_passOne_47 : decode cX6_passOne 47 = .ok (.getfield 147, 3) := by decide +kernel
theorem dX6_passOne_50 : decode cX6_passOne 50 = .ok (.invokevirtual 66, 3) := by decide +kernel
theorem dX6_passOne_53 : decode cX6_passOne 53 = .ok (.astore_n 2, 1) := by decide +kernel
theorem dX6_passOne_54 : decode cX6_passOne 54 = .ok (.aload_n 2, 1) := by decide +kernel
theorem dX6_passOne_55 : decode cX6_passOne 55 = .ok (.ifnull 14, 3) := by decide +kernel
theorem dX6_passOne_58 : decode cX6_passOne 58 = .ok (.aload_n 0, 1) := by decide +kernel
theorem dX6_passOne_59 : decode cX6_passOne 59 = .ok (.getfield 23, 3) := by decide +kernel
theorem dX6_passOne_62 : decode cX6_passOne 62 = .ok (.iload_n 1, 1) := by decide +kernel
theorem dX6_passOne_63 : decode cX6_passOne 63 = .ok (.aaload, 1) := by decide +kernel
theorem dX6_passOne_64 : decode cX6_passOne 64 = .ok (.aload_n 2, 1) := by decide +kernel
theorem dX6_passOne_65 : decode cX6_passOne 65 = .ok (.aload_n 0, 1) := by decide +kernel
theorem dX6_passOne_66 : decode cX6_passOne 66 = .ok (.invokevirtual 150, 3) := by decide +kernel
theorem dX6_passOne_69 : decode cX6_passOne 69 = .ok (.iinc 1 1, 3) := by decide +kernel
theorem dX6_passOne_72 : decode cX6_passOne 72 = .ok (.goto (-40), 3) := by decide +kernel
theorem dX6_passOne_75 : decode cX6_passOne 75 = .ok (.iconst 0, 1) := by decide +kernel
theorem dX6_passOne_76 : decode cX6_passOne 76 = .ok (.istore_n 1, 1) := by decide +kernel
theorem dX6_passOne_77 : decode cX6_passOne 77 = .ok (.iload_n 1, 1) := by decide +kernel
theorem dX6_passOne_78 : decode cX6_passOne 78 = .ok (.aload_n 0, 1) := by decide +kernel
theorem dX6_passOne_79 : decode cX6_passOne 79 = .ok (.getfield 53, 3) := by decide +kernel
theorem dX6_passOne_82 : decode cX6_passOne 82 = .ok (.if_icmp .ge 56, 3) := by decide +kernel
theorem dX6_passOne_85 : decode cX6_passOne 85 = .ok (.aload_n 0, 1) := by decide +kernel
theorem dX6_passOne_86 : decode cX6_passOne 86 = .ok (.aload_n 0, 1) := by decide +kernel
theorem dX6_passOne_87 : decode cX6_passOne 87 = .ok (.getfield 29, 3) := by decide +kernel
theorem dX6_passOne_90 : decode cX6_passOne 90 = .ok (.iload_n 1, 1) := by decide +kernel
theorem dX6_passOne_91 : decode cX6_passOne 91 = .ok (.aaload, 1) := by decide +kernel
theorem dX6_passOne_92 : decode cX6_passOne 92 = .ok (.getfield 154, 3) := by decide +kernel
theorem dX6_passOne_95 : decode cX6_passOne 95 = .ok (.invokevirtual 66, 3) := by decide +kernel
theorem dX6_passOne_98 : decode cX6_passOne 98 = .ok (.astore_n 2, 1) := by decide +kernel
theorem dX6_passOne_99 : decode cX6_passOne 99 = .ok (.aload_n 0, 1) := by decide +kernel
theorem dX6_passOne_100 : decode cX6_passOne 100 = .ok (.aload_n 0, 1) := by decide +kernel
theorem dX6_passOne_101 : decode cX6_passOne 101 = .ok (.getfield 29, 3) := by decide +kernel
theorem dX6_passOne_104 : decode cX6_passOne 104 = .ok (.iload_n 1, 1) := by decide +kernel
theorem dX6_passOne_105 : decode cX6_passOne 105 = .ok (.aaload, 1) := by decide +kernel
theorem dX6_passOne_106 : decode cX6_passOne 106 = .ok (.getfield 157, 3) := by decide +kernel
theorem dX6_passOne_109 : decode cX6_passOne 109 = .ok (.invokevirtual 66, 3) := by decide +kernel
theorem dX6_passOne_112 : decode cX6_passOne 112 = .ok (.astore_n 3, 1) := by decide +kernel
theorem dX6_passOne_113 : decode cX6_passOne 113 = .ok (.aload_n 2, 1) := by decide +kernel
theorem dX6_passOne_114 : decode cX6_passOne 114 = .ok (.ifnull 18, 3) := by decide +kernel
theorem dX6_passOne_117 : decode cX6_passOne 117 = .ok (.aload_n 3, 1) := by decide +kernel
theorem dX6_passOne_118 : decode cX6_passOne 118 = .ok (.ifnull 14, 3) := by decide +kernel
theorem dX6_passOne_121 : decode cX6_passOne 121 = .ok (.aload_n 0, 1) := by decide +kernel
theorem dX6_passOne_122 : decode cX6_passOne 122 = .ok (.getfield 29, 3) := by decide +kernel
theorem dX6_passOne_125 : decode cX6_passOne 125 = .ok (.iload_n 1, 1) := by decide +kernel
theorem dX6_passOne_126 : decode cX6_passOne 126 = .ok (.aaload, 1) := by decide +kernel
theorem dX6_passOne_127 : decode cX6_passOne 127 = .ok (.aload_n 2, 1) := by decide +kernel
theorem dX6_passOne_128 : decode cX6_passOne 128 = .ok (.aload_n 3, 1) := by decide +kernel
theorem dX6_passOne_129 : decode cX6_passOne 129 = .ok (.invokevirtual 160, 3) := by decide +kernel
theorem dX6_passOne_132 : decode cX6_passOne 132 = .ok (.iinc 1 1, 3) := by decide +kernel
theorem dX6_passOne_135 : decode cX6_passOne 135 = .ok (.goto (-58), 3) := by decide +kernel
theorem dX6_passOne_138 : decode cX6_passOne 138 = .ok (.iconst 0, 1) := by decide +kernel
theorem dX6_passOne_139 : decode cX6_passOne 139 = .ok (.istore_n 1, 1) := by decide +kernel
theorem dX6_passOne_140 : decode cX6_passOne 140 = .ok (.iload_n 1, 1) := by decide +kernel
theorem dX6_passOne_141 : decode cX6_passOne 141 = .ok (.aload_n 0, 1) := by decide +kernel
theorem dX6_passOne_142 : decode cX6_passOne 142 = .ok (.getfield 50, 3) := by decide +kernel
theorem dX6_passOne_145 : decode cX6_passOne 145 = .ok (.if_icmp .ge 23, 3) := by decide +kernel
theorem dX6_passOne_148 : decode cX6_passOne 148 = .ok (.aload_n 0, 1) := by decide +kernel
theorem dX6_passOne_149 : decode cX6_passOne 149 = .ok (.getfield 23, 3) := by decide +kernel
theorem dX6_passOne_152 : decode cX6_passOne 152 = .ok (.iload_n 1, 1) := by decide +kernel
theorem dX6_passOne_153 : decode cX6_passOne 153 = .ok (.aaload, 1) := by decide +kernel
theorem dX6_passOne_154 : decode cX6_passOne 154 = .ok (.aload_n 0, 1) := by decide +kernel
theorem dX6_passOne_155 : decode cX6_passOne 155 = .ok (.iconst 2, 1) := by decide +kernel
theorem dX6_passOne_156 : decode cX6_passOne 156 = .ok (.invokevirtual 128, 3) := by decide +kernel
theorem dX6_passOne_159 : decode cX6_passOne 159 = .ok (.invokevirtual 163, 3) := by decide +kernel
theorem dX6_passOne_162 : decode cX6_passOne 162 = .ok (.iinc 1 1, 3) := by decide +kernel
theorem dX6_passOne_165 : decode cX6_passOne 165 = .ok (.goto (-25), 3) := by decide +kernel
theorem dX6_passOne_168 : decode cX6_passOne 168 = .ok (.aload_n 0, 1) := by decide +kernel
theorem dX6_passOne_169 : decode cX6_passOne 169 = .ok (.dup, 1) := by decide +kernel
theorem dX6_passOne_170 : decode cX6_passOne 170 = .ok (.getfield 43, 3) := by decide +kernel
theorem dX6_passOne_173 : decode cX6_passOne 173 = .ok (.iconst 1, 1) := by decide +kernel
theorem dX6_passOne_174 : decode cX6_passOne 174 = .ok (.iadd, 1) := by decide +kernel
theorem dX6_passOne_175 : decode cX6_passOne 175 = .ok (.putfield 43, 3) := by decide +kernel
theorem dX6_passOne_178 : decode cX6_passOne 178 = .ok (.return_, 1) := by decide +kernel
theorem dX6_flashesInAll_0 : decode cX6_flashesInAll 0 = .ok (.iconst 0, 1) := by decide +kernel
theorem dX6_flashesInAll_1 : decode cX6_flashesInAll 1 = .ok (.istore_n 1, 1) := by decide +kernel
theorem dX6_flashesInAll_2 : decode cX6_flashesInAll 2 = .ok (.iconst 0, 1) := by decide +kernel
theorem dX6_flashesInAll_3 : decode cX6_flashesInAll 3 = .ok (.istore_n 2, 1) := by decide +kernel
theorem dX6_flashesInAll_4 : decode cX6_flashesInAll 4 = .ok (.iload_n 2, 1) := by decide +kernel
theorem dX6_flashesInAll_5 : decode cX6_flashesInAll 5 = .ok (.aload_n 0, 1) := by decide +kernel
theorem dX6_flashesInAll_6 : decode cX6_flashesInAll 6 = .ok (.getfield 47, 3) := by decide +kernel
theorem dX6_flashesInAll_9 : decode cX6_flashesInAll 9 = .ok (.if_icmp .ge 21, 3) := by decide +kernel
theorem dX6_flashesInAll_12 : decode cX6_flashesInAll 12 = .ok (.iload_n 1, 1) := by decide +kernel
theorem dX6_flashesInAll_13 : decode cX6_flashesInAll 13 = .ok (.aload_n 0, 1) := by decide +kernel
theorem dX6_flashesInAll_14 : decode cX6_flashesInAll 14 = .ok (.getfield 17, 3) := by decide +kernel
theorem dX6_flashesInAll_17 : decode cX6_flashesInAll 17 = .ok (.iload_n 2, 1) := by decide +kernel
theorem dX6_flashesInAll_18 : decode cX6_flashesInAll 18 = .ok (.aaload, 1) := by decide +kernel
theorem dX6_flashesInAll_19 : decode cX6_flashesInAll 19 = .ok (.invokevirtual 134, 3) := by decide +kernel
theorem dX6_flashesInAll_22 : decode cX6_flashesInAll 22 = .ok (.iadd, 1) := by decide +kernel
theorem dX6_flashesInAll_23 : decode cX6_flashesInAll 23 = .ok (.istore_n 1, 1) := by decide +kernel
theorem dX6_flashesInAll_24 : decode cX6_flashesInAll 24 = .ok (.iinc 2 1, 3) := by decide +kernel
theorem dX6_flashesInAll_27 : decode cX6_flashesInAll 27 = .ok (.goto (-23), 3) := by decide +kernel
theorem dX6_flashesInAll_30 : decode cX6_flashesInAll 30 = .ok (.iload_n 1, 1) := by decide +kernel
theorem dX6_flashesInAll_31 : decode cX6_flashesInAll 31 = .ok (.ireturn, 1) := by decide +kernel
theorem dX6_tallyInAll_0 : decode cX6_tallyInAll 0 = .ok (.iconst 0, 1) := by decide +kernel
theorem dX6_tallyInAll_1 : decode cX6_tallyInAll 1 = .ok (.istore_n 2, 1) := by decide +kernel
theorem dX6_tallyInAll_2 : decode cX6_tallyInAll 2 = .ok (.iconst 0, 1) := by decide +kernel
theorem dX6_tallyInAll_3 : decode cX6_tallyInAll 3 = .ok (.istore_n 3, 1) := by decide +kernel
theorem dX6_tallyInAll_4 : decode cX6_tallyInAll 4 = .ok (.iload_n 3, 1) := by decide +kernel
theorem dX6_tallyInAll_5 : decode cX6_tallyInAll 5 = .ok (.aload_n 0, 1) := by decide +kernel
theorem dX6_tallyInAll_6 : decode cX6_tallyInAll 6 = .ok (.getfield 47, 3) := by decide +kernel
theorem dX6_tallyInAll_9 : decode cX6_tallyInAll 9 = .ok (.if_icmp .ge 22, 3) := by decide +kernel
theorem dX6_tallyInAll_12 : decode cX6_tallyInAll 12 = .ok (.iload_n 2, 1) := by decide +kernel
theorem dX6_tallyInAll_13 : decode cX6_tallyInAll 13 = .ok (.aload_n 0, 1) := by decide +kernel
theorem dX6_tallyInAll_14 : decode cX6_tallyInAll 14 = .ok (.getfield 17, 3) := by decide +kernel
theorem dX6_tallyInAll_17 : decode cX6_tallyInAll 17 = .ok (.iload_n 3, 1) := by decide +kernel
theorem dX6_tallyInAll_18 : decode cX6_tallyInAll 18 = .ok (.aaload, 1) := by decide +kernel
theorem dX6_tallyInAll_19 : decode cX6_tallyInAll 19 = .ok (.iload_n 1, 1) := by decide +kernel
theorem dX6_tallyInAll_20 : decode cX6_tallyInAll 20 = .ok (.invokevirtual 166, 3) := by decide +kernel
theorem dX6_tallyInAll_23 : decode cX6_tallyInAll 23 = .ok (.iadd, 1) := by decide +kernel
theorem dX6_tallyInAll_24 : decode cX6_tallyInAll 24 = .ok (.istore_n 2, 1) := by decide +kernel
theorem dX6_tallyInAll_25 : decode cX6_tallyInAll 25 = .ok (.iinc 3 1, 3) := by decide +kernel
theorem dX6_tallyInAll_28 : decode cX6_tallyInAll 28 = .ok (.goto (-24), 3) := by decide +kernel
theorem dX6_tallyInAll_31 : decode cX6_tallyInAll 31 = .ok (.iload_n 2, 1) := by decide +kernel
theorem dX6_tallyInAll_32 : decode cX6_tallyInAll 32 = .ok (.ireturn, 1) := by decide +kernel
theorem dX7_init_0 : decode cX7_init 0 = .ok (.aload_n 0, 1) := by decide +kernel
theorem dX7_init_1 : decode cX7_init 1 = .ok (.invokespecial 1, 3) := by decide +kernel
theorem dX7_init_4 : decode cX7_init 4 = .ok (.aload_n 0, 1) := by decide +kernel
theorem dX7_init_5 : decode cX7_init 5 = .ok (.new 7, 3) := by decide +kernel
theorem dX7_init_8 : decode cX7_init 8 = .ok (.dup, 1) := by decide +kernel
theorem dX7_init_9 : decode cX7_init 9 = .ok (.invokespecial 9, 3) := by decide +kernel
theorem dX7_init_12 : decode cX7_init 12 = .ok (.putfield 10, 3) := by decide +kernel
theorem dX7_init_15 : decode cX7_init 15 = .ok (.aload_n 0, 1) := by decide +kernel
theorem dX7_init_16 : decode cX7_init 16 = .ok (.new 7, 3) := by decide +kernel
theorem dX7_init_19 : decode cX7_init 19 = .ok (.dup, 1) := by decide +kernel
theorem dX7_init_20 : decode cX7_init 20 = .ok (.invokespecial 9, 3) := by decide +kernel
theorem dX7_init_23 : decode cX7_init 23 = .ok (.putfield 16, 3) := by decide +kernel
theorem dX7_init_26 : decode cX7_init 26 = .ok (.aload_n 0, 1) := by decide +kernel
theorem dX7_init_27 : decode cX7_init 27 = .ok (.new 19, 3) := by decide +kernel
theorem dX7_init_30 : decode cX7_init 30 = .ok (.dup, 1) := by decide +kernel
theorem dX7_init_31 : decode cX7_init 31 = .ok (.invokespecial 21, 3) := by decide +kernel
theorem dX7_init_34 : decode cX7_init 34 = .ok (.putfield 22, 3) := by decide +kernel
theorem dX7_init_37 : decode cX7_init 37 = .ok (.aload_n 0, 1) := by decide +kernel
theorem dX7_init_38 : decode cX7_init 38 = .ok (.iconst 2, 1) := by decide +kernel
theorem dX7_init_39 : decode cX7_init 39 = .ok (.anewarray 7, 3) := by decide +kernel
theorem dX7_init_42 : decode cX7_init 42 = .ok (.putfield 26, 3) := by decide +kernel
theorem dX7_init_45 : decode cX7_init 45 = .ok (.aload_n 0, 1) := by decide +kernel
theorem dX7_init_46 : decode cX7_init 46 = .ok (.iconst 2, 1) := by decide +kernel
theorem dX7_init_47 : decode cX7_init 47 = .ok (.newarray .boolean, 2) := by decide +kernel
theorem dX7_init_49 : decode cX7_init 49 = .ok (.putfield 30, 3) := by decide +kernel
theorem dX7_init_52 : decode cX7_init 52 = .ok (.aload_n 0, 1) := by decide +kernel
theorem dX7_init_53 : decode cX7_init 53 = .ok (.new 34, 3) := by decide +kernel
theorem dX7_init_56 : decode cX7_init 56 = .ok (.dup, 1) := by decide +kernel
theorem dX7_init_57 : decode cX7_init 57 = .ok (.invokespecial 36, 3) := by decide +kernel
theorem dX7_init_60 : decode cX7_init 60 = .ok (.putfield 37, 3) := by decide +kernel
theorem dX7_init_63 : decode cX7_init 63 = .ok (.aload_n 0, 1) := by decide +kernel
theorem dX7_init_64 : decode cX7_init 64 = .ok (.new 41, 3) := by decide +kernel
theorem dX7_init_67 : decode cX7_init 67 = .ok (.dup, 1) := by decide +kernel
theorem dX7_init_68 : decode cX7_init 68 = .ok (.aload_n 0, 1) := by decide +kernel
theorem dX7_init_69 : decode cX7_init 69 = .ok (.getfield 37, 3) := by decide +kernel
theorem dX7_init_72 : decode cX7_init 72 = .ok (.invokespecial 43, 3) := by decide +kernel
theorem dX7_init_75 : decode cX7_init 75 = .ok (.putfield 46, 3) := by decide +kernel
theorem dX7_init_78 : decode cX7_init 78 = .ok (.iconst 0, 1) := by decide +kernel
theorem dX7_init_79 : decode cX7_init 79 = .ok (.istore_n 1, 1) := by decide +kernel
theorem dX7_init_80 : decode cX7_init 80 = .ok (.iload_n 1, 1) := by decide +kernel
theorem dX7_init_81 : decode cX7_init 81 = .ok (.iconst 2, 1) := by decide +kernel
theorem dX7_init_82 : decode cX7_init 82 = .ok (.if_icmp .ge 22, 3) := by decide +kernel
theorem dX7_init_85 : decode cX7_init 85 = .ok (.aload_n 0, 1) := by decide +kernel
theorem dX7_init_86 : decode cX7_init 86 = .ok (.getfield 26, 3) := by decide +kernel
theorem dX7_init_89 : decode cX7_init 89 = .ok (.iload_n 1, 1) := by decide +kernel
theorem dX7_init_90 : decode cX7_init 90 = .ok (.new 7, 3) := by decide +kernel
theorem dX7_init_93 : decode cX7_init 93 = .ok (.dup, 1) := by decide +kernel
theorem dX7_init_94 : decode cX7_init 94 = .ok (.invokespecial 9, 3) := by decide +kernel
theorem dX7_init_97 : decode cX7_init 97 = .ok (.aastore, 1) := by decide +kernel
theorem dX7_init_98 : decode cX7_init 98 = .ok (.iinc 1 1, 3) := by decide +kernel
theorem dX7_init_101 : decode cX7_init 101 = .ok (.goto (-21), 3) := by decide +kernel
theorem dX7_init_104 : decode cX7_init 104 = .ok (.return_, 1) := by decide +kernel
theorem dX7_set_0 : decode cX7_set 0 = .ok (.aload_n 0, 1) := by decide +kernel
theorem dX7_set_1 : decode cX7_set 1 = .ok (.getfield 22, 3) := by decide +kernel
theorem dX7_set_4 : decode cX7_set 4 = .ok (.aload_n 0, 1) := by decide +kernel
theorem dX7_set_5 : decode cX7_set 5 = .ok (.getfield 10, 3) := by decide +kernel
theorem dX7_set_8 : decode cX7_set 8 = .ok (.invokevirtual 50, 3) := by decide +kernel
theorem dX7_set_11 : decode cX7_set 11 = .ok (.aload_n 0, 1) := by decide +kernel
theorem dX7_set_12 : decode cX7_set 12 = .ok (.getfield 22, 3) := by decide +kernel
theorem dX7_set_15 : decode cX7_set 15 = .ok (.aload_n 0, 1) := by decide +kernel
theorem dX7_set_16 : decode cX7_set 16 = .ok (.getfield 10, 3) := by decide +kernel
theorem dX7_set_19 : decode cX7_set 19 = .ok (.iload_n 1, 1) := by decide +kernel
theorem dX7_set_20 : decode cX7_set 20 = .ok (.iload_n 2, 1) := by decide +kernel
theorem dX7_set_21 : decode cX7_set 21 = .ok (.invokevirtual 54, 3) := by decide +kernel
theorem dX7_set_24 : decode cX7_set 24 = .ok (.invokevirtual 58, 3) := by decide +kernel
theorem dX7_set_27 : decode cX7_set 27 = .ok (.ireturn, 1) := by decide +kernel
theorem dX7_loop_0 : decode cX7_loop 0 = .ok (.aload_n 0, 1) := by decide +kernel
theorem dX7_loop_1 : decode cX7_loop 1 = .ok (.getfield 22, 3) := by decide +kernel
theorem dX7_loop_4 : decode cX7_loop 4 = .ok (.aload_n 0, 1) := by decide +kernel
theorem dX7_loop_5 : decode cX7_loop 5 = .ok (.getfield 10, 3) := by decide +kernel
theorem dX7_loop_8 : decode cX7_loop 8 = .ok (.invokevirtual 50, 3) := by decide +kernel
theorem dX7_loop_11 : decode cX7_loop 11 = .ok (.aload_n 0, 1) := by decide +kernel
theorem dX7_loop_12 : decode cX7_loop 12 = .ok (.getfield 22, 3) := by decide +kernel
theorem dX7_loop_15 : decode cX7_loop 15 = .ok (.aload_n 0, 1) := by decide +kernel
theorem dX7_loop_16 : decode cX7_loop 16 = .ok (.getfield 10, 3) := by decide +kernel
theorem dX7_loop_19 : decode cX7_loop 19 = .ok (.iload_n 1, 1) := by decide +kernel
theorem dX7_loop_20 : decode cX7_loop 20 = .ok (.invokevirtual 62, 3) := by decide +kernel
theorem dX7_loop_23 : decode cX7_loop 23 = .ok (.invokevirtual 58, 3) := by decide +kernel
theorem dX7_loop_26 : decode cX7_loop 26 = .ok (.ireturn, 1) := by decide +kernel
theorem dX7_device_0 : decode cX7_device 0 = .ok (.aload_n 0, 1) := by decide +kernel
theorem dX7_device_1 : decode cX7_device 1 = .ok (.getfield 22, 3) := by decide +kernel
theorem dX7_device_4 : decode cX7_device 4 = .ok (.aload_n 0, 1) := by decide +kernel
theorem dX7_device_5 : decode cX7_device 5 = .ok (.getfield 10, 3) := by decide +kernel
theorem dX7_device_8 : decode cX7_device 8 = .ok (.invokevirtual 50, 3) := by decide +kernel
theorem dX7_device_11 : decode cX7_device 11 = .ok (.aload_n 0, 1) := by decide +kernel
theorem dX7_device_12 : decode cX7_device 12 = .ok (.getfield 22, 3) := by decide +kernel
theorem dX7_device_15 : decode cX7_device 15 = .ok (.aload_n 0, 1) := by decide +kernel
theorem dX7_device_16 : decode cX7_device 16 = .ok (.getfield 10, 3) := by decide +kernel
theorem dX7_device_19 : decode cX7_device 19 = .ok (.iload_n 1, 1) := by decide +kernel
theorem dX7_device_20 : decode cX7_device 20 = .ok (.iload_n 2, 1) := by decide +kernel
theorem dX7_device_21 : decode cX7_device 21 = .ok (.iload_n 3, 1) := by decide +kernel
theorem dX7_device_22 : decode cX7_device 22 = .ok (.iload 4, 2) := by decide +kernel
theorem dX7_device_24 : decode cX7_device 24 = .ok (.iload 5, 2) := by decide +kernel
theorem dX7_device_26 : decode cX7_device 26 = .ok (.invokevirtual 65, 3) := by decide +kernel
theorem dX7_device_29 : decode cX7_device 29 = .ok (.invokevirtual 58, 3) := by decide +kernel
theorem dX7_device_32 : decode cX7_device 32 = .ok (.ireturn, 1) := by decide +kernel
theorem dX7_join_0 : decode cX7_join 0 = .ok (.aload_n 0, 1) := by decide +kernel
theorem dX7_join_1 : decode cX7_join 1 = .ok (.getfield 22, 3) := by decide +kernel
theorem dX7_join_4 : decode cX7_join 4 = .ok (.aload_n 0, 1) := by decide +kernel
theorem dX7_join_5 : decode cX7_join 5 = .ok (.getfield 10, 3) := by decide +kernel
theorem dX7_join_8 : decode cX7_join 8 = .ok (.invokevirtual 50, 3) := by decide +kernel
theorem dX7_join_11 : decode cX7_join 11 = .ok (.aload_n 0, 1) := by decide +kernel
theorem dX7_join_12 : decode cX7_join 12 = .ok (.getfield 22, 3) := by decide +kernel
theorem dX7_join_15 : decode cX7_join 15 = .ok (.aload_n 0, 1) := by decide +kernel
theorem dX7_join_16 : decode cX7_join 16 = .ok (.getfield 10, 3) := by decide +kernel
theorem dX7_join_19 : decode cX7_join 19 = .ok (.iload_n 1, 1) := by decide +kernel
theorem dX7_join_20 : decode cX7_join 20 = .ok (.iload_n 2, 1) := by decide +kernel
theorem dX7_join_21 : decode cX7_join 21 = .ok (.iload_n 3, 1) := by decide +kernel
theorem dX7_join_22 : decode cX7_join 22 = .ok (.iload 4, 2) := by decide +kernel
theorem dX7_join_24 : decode cX7_join 24 = .ok (.invokevirtual 69, 3) := by decide +kernel
theorem dX7_join_27 : decode cX7_join 27 = .ok (.invokevirtual 58, 3) := by decide +kernel
theorem dX7_join_30 : decode cX7_join 30 = .ok (.ireturn, 1) := by decide +kernel
theorem dX7_turn_0 : decode cX7_turn 0 = .ok (.aload_n 0, 1) := by decide +kernel
theorem dX7_turn_1 : decode cX7_turn 1 = .ok (.getfield 22, 3) := by decide +kernel
theorem dX7_turn_4 : decode cX7_turn 4 = .ok (.aload_n 0, 1) := by decide +kernel
theorem dX7_turn_5 : decode cX7_turn 5 = .ok (.getfield 10, 3) := by decide +kernel
theorem dX7_turn_8 : decode cX7_turn 8 = .ok (.invokevirtual 50, 3) := by decide +kernel
theorem dX7_turn_11 : decode cX7_turn 11 = .ok (.aload_n 0, 1) := by decide +kernel
theorem dX7_turn_12 : decode cX7_turn 12 = .ok (.getfield 22, 3) := by decide +kernel
theorem dX7_turn_15 : decode cX7_turn 15 = .ok (.aload_n 0, 1) := by decide +kernel
theorem dX7_turn_16 : decode cX7_turn 16 = .ok (.getfield 10, 3) := by decide +kernel
theorem dX7_turn_19 : decode cX7_turn 19 = .ok (.iload_n 1, 1) := by decide +kernel
theorem dX7_turn_20 : decode cX7_turn 20 = .ok (.iload_n 2, 1) := by decide +kernel
theorem dX7_turn_21 : decode cX7_turn 21 = .ok (.invokevirtual 73, 3) := by decide +kernel
theorem dX7_turn_24 : decode cX7_turn 24 = .ok (.invokevirtual 58, 3) := by decide +kernel
theorem dX7_turn_27 : decode cX7_turn 27 = .ok (.ireturn, 1) := by decide +kernel
theorem dX7_feed_0 : decode cX7_feed 0 = .ok (.aload_n 0, 1) := by decide +kernel
theorem dX7_feed_1 : decode cX7_feed 1 = .ok (.getfield 22, 3) := by decide +kernel
theorem dX7_feed_4 : decode cX7_feed 4 = .ok (.aload_n 0, 1) := by decide +kernel
theorem dX7_feed_5 : decode cX7_feed 5 = .ok (.getfield 10, 3) := by decide +kernel
theorem dX7_feed_8 : decode cX7_feed 8 = .ok (.invokevirtual 50, 3) := by decide +kernel
theorem dX7_feed_11 : decode cX7_feed 11 = .ok (.aload_n 0, 1) := by decide +kernel
theorem dX7_feed_12 : decode cX7_feed 12 = .ok (.getfield 22, 3) := by decide +kernel
theorem dX7_feed_15 : decode cX7_feed 15 = .ok (.aload_n 0, 1) := by decide +kernel
theorem dX7_feed_16 : decode cX7_feed 16 = .ok (.getfield 10, 3) := by decide +kernel
theorem dX7_feed_19 : decode cX7_feed 19 = .ok (.iload_n 1, 1) := by decide +kernel
theorem dX7_feed_20 : decode cX7_feed 20 = .ok (.iload_n 2, 1) := by decide +kernel
theorem dX7_feed_21 : decode cX7_feed 21 = .ok (.invokevirtual 76, 3) := by decide +kernel
theorem dX7_feed_24 : decode cX7_feed 24 = .ok (.invokevirtual 58, 3) := by decide +kernel
theorem dX7_feed_27 : decode cX7_feed 27 = .ok (.ireturn, 1) := by decide +kernel
theorem dX7_light_0 : decode cX7_light 0 = .ok (.aload_n 0, 1) := by decide +kernel
theorem dX7_light_1 : decode cX7_light 1 = .ok (.getfield 22, 3) := by decide +kernel
theorem dX7_light_4 : decode cX7_light 4 = .ok (.aload_n 0, 1) := by decide +kernel
theorem dX7_light_5 : decode cX7_light 5 = .ok (.getfield 10, 3) := by decide +kernel
theorem dX7_light_8 : decode cX7_light 8 = .ok (.invokevirtual 50, 3) := by decide +kernel
theorem dX7_light_11 : decode cX7_light 11 = .ok (.aload_n 0, 1) := by decide +kernel
theorem dX7_light_12 : decode cX7_light 12 = .ok (.getfield 22, 3) := by decide +kernel
theorem dX7_light_15 : decode cX7_light 15 = .ok (.aload_n 0, 1) := by decide +kernel
theorem dX7_light_16 : decode cX7_light 16 = .ok (.getfield 10, 3) := by decide +kernel
theorem dX7_light_19 : decode cX7_light 19 = .ok (.iload_n 1, 1) := by decide +kernel
theorem dX7_light_20 : decode cX7_light 20 = .ok (.iload_n 2, 1) := by decide +kernel
theorem dX7_light_21 : decode cX7_light 21 = .ok (.iload_n 3, 1) := by decide +kernel
theorem dX7_light_22 : decode cX7_light 22 = .ok (.invokevirtual 79, 3) := by decide +kernel
theorem dX7_light_25 : decode cX7_light 25 = .ok (.invokevirtual 58, 3) := by decide +kernel
theorem dX7_light_28 : decode cX7_light 28 = .ok (.ireturn, 1) := by decide +kernel
theorem dX7_ticks_0 : decode cX7_ticks 0 = .ok (.aload_n 0, 1) := by decide +kernel
theorem dX7_ticks_1 : decode cX7_ticks 1 = .ok (.getfield 22, 3) := by decide +kernel
theorem dX7_ticks_4 : decode cX7_ticks 4 = .ok (.aload_n 0, 1) := by decide +kernel
theorem dX7_ticks_5 : decode cX7_ticks 5 = .ok (.getfield 10, 3) := by decide +kernel
theorem dX7_ticks_8 : decode cX7_ticks 8 = .ok (.invokevirtual 50, 3) := by decide +kernel
theorem dX7_ticks_11 : decode cX7_ticks 11 = .ok (.aload_n 0, 1) := by decide +kernel
theorem dX7_ticks_12 : decode cX7_ticks 12 = .ok (.getfield 22, 3) := by decide +kernel
theorem dX7_ticks_15 : decode cX7_ticks 15 = .ok (.aload_n 0, 1) := by decide +kernel
theorem dX7_ticks_16 : decode cX7_ticks 16 = .ok (.getfield 10, 3) := by decide +kernel
theorem dX7_ticks_19 : decode cX7_ticks 19 = .ok (.iload_n 1, 1) := by decide +kernel
theorem dX7_ticks_20 : decode cX7_ticks 20 = .ok (.invokevirtual 83, 3) := by decide +kernel
theorem dX7_ticks_23 : decode cX7_ticks 23 = .ok (.invokevirtual 58, 3) := by decide +kernel
theorem dX7_ticks_26 : decode cX7_ticks 26 = .ok (.ireturn, 1) := by decide +kernel
theorem dX7_at_0 : decode cX7_at 0 = .ok (.aload_n 0, 1) := by decide +kernel
theorem dX7_at_1 : decode cX7_at 1 = .ok (.getfield 10, 3) := by decide +kernel
theorem dX7_at_4 : decode cX7_at 4 = .ok (.iload_n 1, 1) := by decide +kernel
theorem dX7_at_5 : decode cX7_at 5 = .ok (.iload_n 2, 1) := by decide +kernel
theorem dX7_at_6 : decode cX7_at 6 = .ok (.invokevirtual 86, 3) := by decide +kernel
theorem dX7_at_9 : decode cX7_at 9 = .ok (.astore 4, 2) := by decide +kernel
theorem dX7_at_11 : decode cX7_at 11 = .ok (.aload 4, 2) := by decide +kernel
theorem dX7_at_13 : decode cX7_at 13 = .ok (.ifnonnull 5, 3) := by decide +kernel
theorem dX7_at_16 : decode cX7_at 16 = .ok (.iconst (-1), 1) := by decide +kernel
theorem dX7_at_17 : decode cX7_at 17 = .ok (.ireturn, 1) := by decide +kernel
theorem dX7_at_18 : decode cX7_at 18 = .ok (.iload_n 3, 1) := by decide +kernel
theorem dX7_at_19 : decode cX7_at 19 = .ok (.tableswitch 80 0 3 #[29, 36, 43, 72], 29) := by decide +kernel
theorem dX7_at_48 : decode cX7_at 48 = .ok (.aload 4, 2) := by decide +kernel
theorem dX7_at_50 : decode cX7_at 50 = .ok (.iload_n 2, 1) := by decide +kernel
theorem dX7_at_51 : decode cX7_at 51 = .ok (.invokevirtual 90, 3) := by decide +kernel
theorem dX7_at_54 : decode cX7_at 54 = .ok (.ireturn, 1) := by decide +kernel
theorem dX7_at_55 : decode cX7_at 55 = .ok (.aload 4, 2) := by decide +kernel
theorem dX7_at_57 : decode cX7_at 57 = .ok (.iload_n 2, 1) := by decide +kernel
theorem dX7_at_58 : decode cX7_at 58 = .ok (.invokevirtual 95, 3) := by decide +kernel
theorem dX7_at_61 : decode cX7_at 61 = .ok (.ireturn, 1) := by decide +kernel
theorem dX7_at_62 : decode cX7_at 62 = .ok (.aload 4, 2) := by decide +kernel
theorem dX7_at_64 : decode cX7_at 64 = .ok (.iload_n 2, 1) := by decide +kernel
theorem dX7_at_65 : decode cX7_at 65 = .ok (.invokevirtual 95, 3) := by decide +kernel
theorem dX7_at_68 : decode cX7_at 68 = .ok (.ifCond .le 20, 3) := by decide +kernel
theorem dX7_at_71 : decode cX7_at 71 = .ok (.aload_n 0, 1) := by decide +kernel
theorem dX7_at_72 : decode cX7_at 72 = .ok (.getfield 10, 3) := by decide +kernel
theorem dX7_at_75 : decode cX7_at 75 = .ok (.getfield 98, 3) := by decide +kernel
theorem dX7_at_78 : decode cX7_at 78 = .ok (.aload 4, 2) := by decide +kernel
theorem dX7_at_80 : decode cX7_at 80 = .ok (.iload_n 2, 1) := by decide +kernel
theorem dX7_at_81 : decode cX7_at 81 = .ok (.invokevirtual 102, 3) := by decide +kernel
theorem dX7_at_84 : decode cX7_at 84 = .ok (.isub, 1) := by decide +kernel
theorem dX7_at_85 : decode cX7_at 85 = .ok (.goto 5, 3) := by decide +kernel
theorem dX7_at_88 : decode cX7_at 88 = .ok (.bipush (-6), 2) := by decide +kernel
theorem dX7_at_90 : decode cX7_at 90 = .ok (.ireturn, 1) := by decide +kernel
theorem dX7_at_91 : decode cX7_at 91 = .ok (.aload 4, 2) := by decide +kernel
theorem dX7_at_93 : decode cX7_at 93 = .ok (.getfield 105, 3) := by decide +kernel
theorem dX7_at_96 : decode cX7_at 96 = .ok (.iload_n 2, 1) := by decide +kernel
theorem dX7_at_97 : decode cX7_at 97 = .ok (.isub, 1) := by decide +kernel
theorem dX7_at_98 : decode cX7_at 98 = .ok (.ireturn, 1) := by decide +kernel
theorem dX7_at_99 : decode cX7_at 99 = .ok (.bipush (-2), 2) := by decide +kernel
theorem dX7_at_101 : decode cX7_at 101 = .ok (.ireturn, 1) := by decide +kernel
theorem dX7_ofLoop_0 : decode cX7_ofLoop 0 = .ok (.aload_n 0, 1) := by decide +kernel
theorem dX7_ofLoop_1 : decode cX7_ofLoop 1 = .ok (.getfield 10, 3) := by decide +kernel
theorem dX7_ofLoop_4 : decode cX7_ofLoop 4 = .ok (.iload_n 1, 1) := by decide +kernel
theorem dX7_ofLoop_5 : decode cX7_ofLoop 5 = .ok (.invokevirtual 108, 3) := by decide +kernel
theorem dX7_ofLoop_8 : decode cX7_ofLoop 8 = .ok (.astore_n 3, 1) := by decide +kernel
theorem dX7_ofLoop_9 : decode cX7_ofLoop 9 = .ok (.aload_n 3, 1) := by decide +kernel
theorem dX7_ofLoop_10 : decode cX7_ofLoop 10 = .ok (.ifnonnull 5, 3) := by decide +kernel
theorem dX7_ofLoop_13 : decode cX7_ofLoop 13 = .ok (.iconst (-1), 1) := by decide +kernel
theorem dX7_ofLoop_14 : decode cX7_ofLoop 14 = .ok (.ireturn, 1) := by decide +kernel
theorem dX7_ofLoop_15 : decode cX7_ofLoop 15 = .ok (.iload_n 2, 1) := by decide +kernel
theorem dX7_ofLoop_16 : decode cX7_ofLoop 16 = .ok (.tableswitch 102 0 8 #[52, 57, 62, 67, 72, 78, 84, 90, 96], 52) := by decide +kernel
theorem dX7_ofLoop_68 : decode cX7_ofLoop 68 = .ok (.aload_n 3, 1) := by decide +kernel
theorem dX7_ofLoop_69 : decode cX7_ofLoop 69 = .ok (.getfield 105, 3) := by decide +kernel
theorem dX7_ofLoop_72 : decode cX7_ofLoop 72 = .ok (.ireturn, 1) := by decide +kernel
theorem dX7_ofLoop_73 : decode cX7_ofLoop 73 = .ok (.aload_n 3, 1) := by decide +kernel
theorem dX7_ofLoop_74 : decode cX7_ofLoop 74 = .ok (.invokevirtual 112, 3) := by decide +kernel
theorem dX7_ofLoop_77 : decode cX7_ofLoop 77 = .ok (.ireturn, 1) := by decide +kernel
theorem dX7_ofLoop_78 : decode cX7_ofLoop 78 = .ok (.aload_n 3, 1) := by decide +kernel
theorem dX7_ofLoop_79 : decode cX7_ofLoop 79 = .ok (.invokevirtual 116, 3) := by decide +kernel
theorem dX7_ofLoop_82 : decode cX7_ofLoop 82 = .ok (.ireturn, 1) := by decide +kernel
theorem dX7_ofLoop_83 : decode cX7_ofLoop 83 = .ok (.aload_n 3, 1) := by decide +kernel
theorem dX7_ofLoop_84 : decode cX7_ofLoop 84 = .ok (.invokevirtual 119, 3) := by decide +kernel
theorem dX7_ofLoop_87 : decode cX7_ofLoop 87 = .ok (.ireturn, 1) := by decide +kernel
theorem dX7_ofLoop_88 : decode cX7_ofLoop 88 = .ok (.aload_n 3, 1) := by decide +kernel
theorem dX7_ofLoop_89 : decode cX7_ofLoop 89 = .ok (.iconst 0, 1) := by decide +kernel
theorem dX7_ofLoop_90 : decode cX7_ofLoop 90 = .ok (.invokevirtual 122, 3) := by decide +kernel
theorem dX7_ofLoop_93 : decode cX7_ofLoop 93 = .ok (.ireturn, 1) := by decide +kernel
theorem dX7_ofLoop_94 : decode cX7_ofLoop 94 = .ok (.aload_n 3, 1) := by decide +kernel
theorem dX7_ofLoop_95 : decode cX7_ofLoop 95 = .ok (.iconst 1, 1) := by decide +kernel
theorem dX7_ofLoop_96 : decode cX7_ofLoop 96 = .ok (.invokevirtual 122, 3) := by decide +kernel
theorem dX7_ofLoop_99 : decode cX7_ofLoop 99 = .ok (.ireturn, 1) := by decide +kernel
theorem dX7_ofLoop_100 : decode cX7_ofLoop 100 = .ok (.aload_n 3, 1) := by decide +kernel
theorem dX7_ofLoop_101 : decode cX7_ofLoop 101 = .ok (.iconst 2, 1) := by decide +kernel
theorem dX7_ofLoop_102 : decode cX7_ofLoop 102 = .ok (.invokevirtual 122, 3) := by decide +kernel
theorem dX7_ofLoop_105 : decode cX7_ofLoop 105 = .ok (.ireturn, 1) := by decide +kernel
theorem dX7_ofLoop_106 : decode cX7_ofLoop 106 = .ok (.aload_n 3, 1) := by decide +kernel
theorem dX7_ofLoop_107 : decode cX7_ofLoop 107 = .ok (.iconst 3, 1) := by decide +kernel
theorem dX7_ofLoop_108 : decode cX7_ofLoop 108 = .ok (.invokevirtual 122, 3) := by decide +kernel
theorem dX7_ofLoop_111 : decode cX7_ofLoop 111 = .ok (.ireturn, 1) := by decide +kernel
theorem dX7_ofLoop_112 : decode cX7_ofLoop 112 = .ok (.aload_n 3, 1) := by decide +kernel
theorem dX7_ofLoop_113 : decode cX7_ofLoop 113 = .ok (.iconst 4, 1) := by decide +kernel
theorem dX7_ofLoop_114 : decode cX7_ofLoop 114 = .ok (.invokevirtual 122, 3) := by decide +kernel
theorem dX7_ofLoop_117 : decode cX7_ofLoop 117 = .ok (.ireturn, 1) := by decide +kernel
theorem dX7_ofLoop_118 : decode cX7_ofLoop 118 = .ok (.bipush (-2), 2) := by decide +kernel
theorem dX7_ofLoop_120 : decode cX7_ofLoop 120 = .ok (.ireturn, 1) := by decide +kernel
theorem dX7_ofDevice_0 : decode cX7_ofDevice 0 = .ok (.aload_n 0, 1) := by decide +kernel
theorem dX7_ofDevice_1 : decode cX7_ofDevice 1 = .ok (.getfield 10, 3) := by decide +kernel
theorem dX7_ofDevice_4 : decode cX7_ofDevice 4 = .ok (.iload_n 1, 1) := by decide +kernel
theorem dX7_ofDevice_5 : decode cX7_ofDevice 5 = .ok (.invokevirtual 125, 3) := by decide +kernel
theorem dX7_ofDevice_8 : decode cX7_ofDevice 8 = .ok (.astore_n 3, 1) := by decide +kernel
theorem dX7_ofDevice_9 : decode cX7_ofDevice 9 = .ok (.aload_n 3, 1) := by decide +kernel
theorem dX7_ofDevice_10 : decode cX7_ofDevice 10 = .ok (.ifnonnull 5, 3) := by decide +kernel
theorem dX7_ofDevice_13 : decode cX7_ofDevice 13 = .ok (.iconst (-1), 1) := by decide +kernel
theorem dX7_ofDevice_14 : decode cX7_ofDevice 14 = .ok (.ireturn, 1) := by decide +kernel
theorem dX7_ofDevice_15 : decode cX7_ofDevice 15 = .ok (.iload_n 2, 1) := by decide +kernel
theorem dX7_ofDevice_16 : decode cX7_ofDevice 16 = .ok (.tableswitch 93 0 6 #[44, 49, 54, 59, 64, 69, 88], 44) := by decide +kernel
theorem dX7_ofDevice_60 : decode cX7_ofDevice 60 = .ok (.aload_n 3, 1) := by decide +kernel
theorem dX7_ofDevice_61 : decode cX7_ofDevice 61 = .ok (.getfield 129, 3) := by decide +kernel
theorem dX7_ofDevice_64 : decode cX7_ofDevice 64 = .ok (.ireturn, 1) := by decide +kernel
theorem dX7_ofDevice_65 : decode cX7_ofDevice 65 = .ok (.aload_n 3, 1) := by decide +kernel
theorem dX7_ofDevice_66 : decode cX7_ofDevice 66 = .ok (.getfield 134, 3) := by decide +kernel
theorem dX7_ofDevice_69 : decode cX7_ofDevice 69 = .ok (.ireturn, 1) := by decide +kernel
theorem dX7_ofDevice_70 : decode cX7_ofDevice 70 = .ok (.aload_n 3, 1) := by decide +kernel
theorem dX7_ofDevice_71 : decode cX7_ofDevice 71 = .ok (.getfield 137, 3) := by decide +kernel
theorem dX7_ofDevice_74 : decode cX7_ofDevice 74 = .ok (.ireturn, 1) := by decide +kernel
theorem dX7_ofDevice_75 : decode cX7_ofDevice 75 = .ok (.aload_n 3, 1) := by decide +kernel
theorem dX7_ofDevice_76 : decode cX7_ofDevice 76 = .ok (.getfield 140, 3) := by decide +kernel
theorem dX7_ofDevice_79 : decode cX7_ofDevice 79 = .ok (.ireturn, 1) := by decide +kernel
theorem dX7_ofDevice_80 : decode cX7_ofDevice 80 = .ok (.aload_n 3, 1) := by decide +kernel
theorem dX7_ofDevice_81 : decode cX7_ofDevice 81 = .ok (.getfield 143, 3) := by decide +kernel
theorem dX7_ofDevice_84 : decode cX7_ofDevice 84 = .ok (.ireturn, 1) := by decide +kernel
theorem dX7_ofDevice_85 : decode cX7_ofDevice 85 = .ok (.aload_n 3, 1) := by decide +kernel
theorem dX7_ofDevice_86 : decode cX7_ofDevice 86 = .ok (.getfield 129, 3) := by decide +kernel
theorem dX7_ofDevice_89 : decode cX7_ofDevice 89 = .ok (.ifCond .ne 10, 3) := by decide +kernel
theorem dX7_ofDevice_92 : decode cX7_ofDevice 92 = .ok (.aload_n 3, 1) := by decide +kernel
theorem dX7_ofDevice_93 : decode cX7_ofDevice 93 = .ok (.getfield 146, 3) := by decide +kernel
theorem dX7_ofDevice_96 : decode cX7_ofDevice 96 = .ok (.goto 7, 3) := by decide +kernel
theorem dX7_ofDevice_99 : decode cX7_ofDevice 99 = .ok (.aload_n 3, 1) := by decide +kernel
theorem dX7_ofDevice_100 : decode cX7_ofDevice 100 = .ok (.getfield 149, 3) := by decide +kernel
theorem dX7_ofDevice_103 : decode cX7_ofDevice 103 = .ok (.ireturn, 1) := by decide +kernel
theorem dX7_ofDevice_104 : decode cX7_ofDevice 104 = .ok (.aload_n 3, 1) := by decide +kernel
theorem dX7_ofDevice_105 : decode cX7_ofDevice 105 = .ok (.getfield 152, 3) := by decide +kernel
theorem dX7_ofDevice_108 : decode cX7_ofDevice 108 = .ok (.ireturn, 1) := by decide +kernel
theorem dX7_ofDevice_109 : decode cX7_ofDevice 109 = .ok (.bipush (-2), 2) := by decide +kernel
theorem dX7_ofDevice_111 : decode cX7_ofDevice 111 = .ok (.ireturn, 1) := by decide +kernel
theorem dX7_noted_0 : decode cX7_noted 0 = .ok (.aload_n 0, 1) := by decide +kernel
theorem dX7_noted_1 : decode cX7_noted 1 = .ok (.getfield 10, 3) := by decide +kernel
theorem dX7_noted_4 : decode cX7_noted 4 = .ok (.iload_n 1, 1) := by decide +kernel
theorem dX7_noted_5 : decode cX7_noted 5 = .ok (.invokevirtual 125, 3) := by decide +kernel
theorem dX7_noted_8 : decode cX7_noted 8 = .ok (.astore_n 3, 1) := by decide +kernel
theorem dX7_noted_9 : decode cX7_noted 9 = .ok (.aload_n 3, 1) := by decide +kernel
theorem dX7_noted_10 : decode cX7_noted 10 = .ok (.ifnull 11, 3) := by decide +kernel
theorem dX7_noted_13 : decode cX7_noted 13 = .ok (.aload_n 3, 1) := by decide +kernel
theorem dX7_noted_14 : decode cX7_noted 14 = .ok (.getfield 129, 3) := by decide +kernel
theorem dX7_noted_17 : decode cX7_noted 17 = .ok (.iconst 1, 1) := by decide +kernel
theorem dX7_noted_18 : decode cX7_noted 18 = .ok (.if_icmp .eq 5, 3) := by decide +kernel
theorem dX7_noted_21 : decode cX7_noted 21 = .ok (.iconst (-1), 1) := by decide +kernel
theorem dX7_noted_22 : decode cX7_noted 22 = .ok (.ireturn, 1) := by decide +kernel
theorem dX7_noted_23 : decode cX7_noted 23 = .ok (.aload_n 3, 1) := by decide +kernel
theorem dX7_noted_24 : decode cX7_noted 24 = .ok (.iload_n 2, 1) := by decide +kernel
theorem dX7_noted_25 : decode cX7_noted 25 = .ok (.invokevirtual 155, 3) := by decide +kernel
theorem dX7_noted_28 : decode cX7_noted 28 = .ok (.ireturn, 1) := by decide +kernel
theorem dX7_ofJoin_0 : decode cX7_ofJoin 0 = .ok (.aload_n 0, 1) := by decide +kernel
theorem dX7_ofJoin_1 : decode cX7_ofJoin 1 = .ok (.getfield 10, 3) := by decide +kernel
theorem dX7_ofJoin_4 : decode cX7_ofJoin 4 = .ok (.iload_n 1, 1) := by decide +kernel
theorem dX7_ofJoin_5 : decode cX7_ofJoin 5 = .ok (.invokevirtual 158, 3) := by decide +kernel
theorem dX7_ofJoin_8 : decode cX7_ofJoin 8 = .ok (.astore_n 3, 1) := by decide +kernel
theorem dX7_ofJoin_9 : decode cX7_ofJoin 9 = .ok (.aload_n 3, 1) := by decide +kernel
theorem dX7_ofJoin_10 : decode cX7_ofJoin 10 = .ok (.ifnonnull 5, 3) := by decide +kernel
theorem dX7_ofJoin_13 : decode cX7_ofJoin 13 = .ok (.iconst (-1), 1) := by decide +kernel
theorem dX7_ofJoin_14 : decode cX7_ofJoin 14 = .ok (.ireturn, 1) := by decide +kernel
theorem dX7_ofJoin_15 : decode cX7_ofJoin 15 = .ok (.iload_n 2, 1) := by decide +kernel
theorem dX7_ofJoin_16 : decode cX7_ofJoin 16 = .ok (.tableswitch 70 0 5 #[40, 45, 50, 55, 60, 65], 40) := by decide +kernel
theorem dX7_ofJoin_56 : decode cX7_ofJoin 56 = .ok (.aload_n 3, 1) := by decide +kernel
theorem dX7_ofJoin_57 : decode cX7_ofJoin 57 = .ok (.getfield 162, 3) := by decide +kernel
theorem dX7_ofJoin_60 : decode cX7_ofJoin 60 = .ok (.ireturn, 1) := by decide +kernel
theorem dX7_ofJoin_61 : decode cX7_ofJoin 61 = .ok (.aload_n 3, 1) := by decide +kernel
theorem dX7_ofJoin_62 : decode cX7_ofJoin 62 = .ok (.getfield 167, 3) := by decide +kernel
theorem dX7_ofJoin_65 : decode cX7_ofJoin 65 = .ok (.ireturn, 1) := by decide +kernel
theorem dX7_ofJoin_66 : decode cX7_ofJoin 66 = .ok (.aload_n 3, 1) := by decide +kernel
theorem dX7_ofJoin_67 : decode cX7_ofJoin 67 = .ok (.getfield 170, 3) := by decide +kernel
theorem dX7_ofJoin_70 : decode cX7_ofJoin 70 = .ok (.ireturn, 1) := by decide +kernel
theorem dX7_ofJoin_71 : decode cX7_ofJoin 71 = .ok (.aload_n 3, 1) := by decide +kernel
theorem dX7_ofJoin_72 : decode cX7_ofJoin 72 = .ok (.getfield 173, 3) := by decide +kernel
theorem dX7_ofJoin_75 : decode cX7_ofJoin 75 = .ok (.ireturn, 1) := by decide +kernel
theorem dX7_ofJoin_76 : decode cX7_ofJoin 76 = .ok (.aload_n 3, 1) := by decide +kernel
theorem dX7_ofJoin_77 : decode cX7_ofJoin 77 = .ok (.getfield 176, 3) := by decide +kernel
theorem dX7_ofJoin_80 : decode cX7_ofJoin 80 = .ok (.ireturn, 1) := by decide +kernel
theorem dX7_ofJoin_81 : decode cX7_ofJoin 81 = .ok (.aload_n 3, 1) := by decide +kernel
theorem dX7_ofJoin_82 : decode cX7_ofJoin 82 = .ok (.getfield 179, 3) := by decide +kernel
theorem dX7_ofJoin_85 : decode cX7_ofJoin 85 = .ok (.ireturn, 1) := by decide +kernel
theorem dX7_ofJoin_86 : decode cX7_ofJoin 86 = .ok (.bipush (-2), 2) := by decide +kernel
theorem dX7_ofJoin_88 : decode cX7_ofJoin 88 = .ok (.ireturn, 1) := by decide +kernel
theorem dX7_find_0 : decode cX7_find 0 = .ok (.iload_n 1, 1) := by decide +kernel
theorem dX7_find_1 : decode cX7_find 1 = .ok (.invokestatic 182, 3) := by decide +kernel
theorem dX7_find_4 : decode cX7_find 4 = .ok (.ifCond .eq 12, 3) := by decide +kernel
theorem dX7_find_7 : decode cX7_find 7 = .ok (.iload_n 2, 1) := by decide +kernel
theorem dX7_find_8 : decode cX7_find 8 = .ok (.iconst 0, 1) := by decide +kernel
theorem dX7_find_9 : decode cX7_find 9 = .ok (.iconst 2, 1) := by decide +kernel
theorem dX7_find_10 : decode cX7_find 10 = .ok (.invokestatic 186, 3) := by decide +kernel
theorem dX7_find_13 : decode cX7_find 13 = .ok (.ifCond .ne 6, 3) := by decide +kernel
theorem dX7_find_16 : decode cX7_find 16 = .ok (.bipush (-2), 2) := by decide +kernel
theorem dX7_find_18 : decode cX7_find 18 = .ok (.ireturn, 1) := by decide +kernel
theorem dX7_find_19 : decode cX7_find 19 = .ok (.bipush (-6), 2) := by decide +kernel
theorem dX7_find_21 : decode cX7_find 21 = .ok (.istore_n 3, 1) := by decide +kernel
theorem dX7_find_22 : decode cX7_find 22 = .ok (.bipush (-6), 2) := by decide +kernel
theorem dX7_find_24 : decode cX7_find 24 = .ok (.istore 4, 2) := by decide +kernel
theorem dX7_find_26 : decode cX7_find 26 = .ok (.iconst 0, 1) := by decide +kernel
theorem dX7_find_27 : decode cX7_find 27 = .ok (.istore 5, 2) := by decide +kernel
theorem dX7_find_29 : decode cX7_find 29 = .ok (.iconst 0, 1) := by decide +kernel
theorem dX7_find_30 : decode cX7_find 30 = .ok (.istore 6, 2) := by decide +kernel
theorem dX7_find_32 : decode cX7_find 32 = .ok (.iload 6, 2) := by decide +kernel
theorem dX7_find_34 : decode cX7_find 34 = .ok (.aload_n 0, 1) := by decide +kernel
theorem dX7_find_35 : decode cX7_find 35 = .ok (.getfield 10, 3) := by decide +kernel
theorem dX7_find_38 : decode cX7_find 38 = .ok (.getfield 190, 3) := by decide +kernel
theorem dX7_find_41 : decode cX7_find 41 = .ok (.if_icmp .ge 76, 3) := by decide +kernel
theorem dX7_find_44 : decode cX7_find 44 = .ok (.aload_n 0, 1) := by decide +kernel
theorem dX7_find_45 : decode cX7_find 45 = .ok (.getfield 10, 3) := by decide +kernel
theorem dX7_find_48 : decode cX7_find 48 = .ok (.iload 6, 2) := by decide +kernel
theorem dX7_find_50 : decode cX7_find 50 = .ok (.invokevirtual 108, 3) := by decide +kernel
theorem dX7_find_53 : decode cX7_find 53 = .ok (.astore 7, 2) := by decide +kernel
theorem dX7_find_55 : decode cX7_find 55 = .ok (.aload 7, 2) := by decide +kernel
theorem dX7_find_57 : decode cX7_find 57 = .ok (.ifnonnull 6, 3) := by decide +kernel
theorem dX7_find_60 : decode cX7_find 60 = .ok (.goto 51, 3) := by decide +kernel
theorem dX7_find_63 : decode cX7_find 63 = .ok (.iconst 0, 1) := by decide +kernel
theorem dX7_find_64 : decode cX7_find 64 = .ok (.istore 8, 2) := by decide +kernel
theorem dX7_find_66 : decode cX7_find 66 = .ok (.iload 8, 2) := by decide +kernel
theorem dX7_find_68 : decode cX7_find 68 = .ok (.aload 7, 2) := by decide +kernel
theorem dX7_find_70 : decode cX7_find 70 = .ok (.getfield 105, 3) := by decide +kernel
theorem dX7_find_73 : decode cX7_find 73 = .ok (.if_icmp .ge 38, 3) := by decide +kernel
theorem dX7_find_76 : decode cX7_find 76 = .ok (.aload 7, 2) := by decide +kernel
theorem dX7_find_78 : decode cX7_find 78 = .ok (.iload 8, 2) := by decide +kernel
theorem dX7_find_80 : decode cX7_find 80 = .ok (.invokevirtual 90, 3) := by decide +kernel
theorem dX7_find_83 : decode cX7_find 83 = .ok (.iload_n 1, 1) := by decide +kernel
theorem dX7_find_84 : decode cX7_find 84 = .ok (.if_icmp .eq 6, 3) := by decide +kernel
theorem dX7_find_87 : decode cX7_find 87 = .ok (.goto 18, 3) := by decide +kernel
theorem dX7_find_90 : decode cX7_find 90 = .ok (.iload 5, 2) := by decide +kernel
theorem dX7_find_92 : decode cX7_find 92 = .ok (.ifCond .ne 10, 3) := by decide +kernel
theorem dX7_find_95 : decode cX7_find 95 = .ok (.iload 6, 2) := by decide +kernel
theorem dX7_find_97 : decode cX7_find 97 = .ok (.istore_n 3, 1) := by decide +kernel
theorem dX7_find_98 : decode cX7_find 98 = .ok (.iload 8, 2) := by decide +kernel
theorem dX7_find_100 : decode cX7_find 100 = .ok (.istore 4, 2) := by decide +kernel
theorem dX7_find_102 : decode cX7_find 102 = .ok (.iinc 5 1, 3) := by decide +kernel
theorem dX7_find_105 : decode cX7_find 105 = .ok (.iinc 8 1, 3) := by decide +kernel
theorem dX7_find_108 : decode cX7_find 108 = .ok (.goto (-42), 3) := by decide +kernel
theorem dX7_find_111 : decode cX7_find 111 = .ok (.iinc 6 1, 3) := by decide +kernel
theorem dX7_find_114 : decode cX7_find 114 = .ok (.goto (-82), 3) := by decide +kernel
theorem dX7_find_117 : decode cX7_find 117 = .ok (.iload 5, 2) := by decide +kernel
theorem dX7_find_119 : decode cX7_find 119 = .ok (.ifCond .ne 6, 3) := by decide +kernel
theorem dX7_find_122 : decode cX7_find 122 = .ok (.bipush (-6), 2) := by decide +kernel
theorem dX7_find_124 : decode cX7_find 124 = .ok (.ireturn, 1) := by decide +kernel
theorem dX7_find_125 : decode cX7_find 125 = .ok (.iload_n 2, 1) := by decide +kernel
theorem dX7_find_126 : decode cX7_find 126 = .ok (.ifCond .ne 7, 3) := by decide +kernel
theorem dX7_find_129 : decode cX7_find 129 = .ok (.iload_n 3, 1) := by decide +kernel
theorem dX7_find_130 : decode cX7_find 130 = .ok (.goto 15, 3) := by decide +kernel
theorem dX7_find_133 : decode cX7_find 133 = .ok (.iload_n 2, 1) := by decide +kernel
theorem dX7_find_134 : decode cX7_find 134 = .ok (.iconst 1, 1) := by decide +kernel
theorem dX7_find_135 : decode cX7_find 135 = .ok (.if_icmp .ne 8, 3) := by decide +kernel
theorem dX7_find_138 : decode cX7_find 138 = .ok (.iload 4, 2) := by decide +kernel
theorem dX7_find_140 : decode cX7_find 140 = .ok (.goto 5, 3) := by decide +kernel
theorem dX7_find_143 : decode cX7_find 143 = .ok (.iload 5, 2) := by decide +kernel
theorem dX7_find_145 : decode cX7_find 145 = .ok (.ireturn, 1) := by decide +kernel
theorem dX7_count_0 : decode cX7_count 0 = .ok (.iload_n 1, 1) := by decide +kernel
theorem dX7_count_1 : decode cX7_count 1 = .ok (.tableswitch 190 0 13 #[71, 79, 87, 95, 103, 111, 120, 129, 138, 147, 156, 165, 174, 182], 71) := by decide +kernel
theorem dX7_count_72 : decode cX7_count 72 = .ok (.aload_n 0, 1) := by decide +kernel
theorem dX7_count_73 : decode cX7_count 73 = .ok (.getfield 10, 3) := by decide +kernel
theorem dX7_count_76 : decode cX7_count 76 = .ok (.getfield 98, 3) := by decide +kernel
theorem dX7_count_79 : decode cX7_count 79 = .ok (.ireturn, 1) := by decide +kernel
theorem dX7_count_80 : decode cX7_count 80 = .ok (.aload_n 0, 1) := by decide +kernel
theorem dX7_count_81 : decode cX7_count 81 = .ok (.getfield 10, 3) := by decide +kernel
theorem dX7_count_84 : decode cX7_count 84 = .ok (.getfield 190, 3) := by decide +kernel
theorem dX7_count_87 : decode cX7_count 87 = .ok (.ireturn, 1) := by decide +kernel
theorem dX7_count_88 : decode cX7_count 88 = .ok (.aload_n 0, 1) := by decide +kernel
theorem dX7_count_89 : decode cX7_count 89 = .ok (.getfield 10, 3) := by decide +kernel
theorem dX7_count_92 : decode cX7_count 92 = .ok (.getfield 193, 3) := by decide +kernel
theorem dX7_count_95 : decode cX7_count 95 = .ok (.ireturn, 1) := by decide +kernel
theorem dX7_count_96 : decode cX7_count 96 = .ok (.aload_n 0, 1) := by decide +kernel
theorem dX7_count_97 : decode cX7_count 97 = .ok (.getfield 10, 3) := by decide +kernel
theorem dX7_count_100 : decode cX7_count 100 = .ok (.getfield 196, 3) := by decide +kernel
theorem dX7_count_103 : decode cX7_count 103 = .ok (.ireturn, 1) := by decide +kernel
theorem dX7_count_104 : decode cX7_count 104 = .ok (.aload_n 0, 1) := by decide +kernel
theorem dX7_count_105 : decode cX7_count 105 = .ok (.getfield 10, 3) := by decide +kernel
theorem dX7_count_108 : decode cX7_count 108 = .ok (.invokevirtual 199, 3) := by decide +kernel
theorem dX7_count_111 : decode cX7_count 111 = .ok (.ireturn, 1) := by decide +kernel
theorem dX7_count_112 : decode cX7_count 112 = .ok (.aload_n 0, 1) := by decide +kernel
theorem dX7_count_113 : decode cX7_count 113 = .ok (.getfield 10, 3) := by decide +kernel
theorem dX7_count_116 : decode cX7_count 116 = .ok (.iconst 0, 1) := by decide +kernel
theorem dX7_count_117 : decode cX7_count 117 = .ok (.invokevirtual 202, 3) := by decide +kernel
theorem dX7_count_120 : decode cX7_count 120 = .ok (.ireturn, 1) := by decide +kernel
theorem dX7_count_121 : decode cX7_count 121 = .ok (.aload_n 0, 1) := by decide +kernel
theorem dX7_count_122 : decode cX7_count 122 = .ok (.getfield 10, 3) := by decide +kernel
theorem dX7_count_125 : decode cX7_count 125 = .ok (.iconst 1, 1) := by decide +kernel
theorem dX7_count_126 : decode cX7_count 126 = .ok (.invokevirtual 202, 3) := by decide +kernel
theorem dX7_count_129 : decode cX7_count 129 = .ok (.ireturn, 1) := by decide +kernel
theorem dX7_count_130 : decode cX7_count 130 = .ok (.aload_n 0, 1) := by decide +kernel
theorem dX7_count_131 : decode cX7_count 131 = .ok (.getfield 10, 3) := by decide +kernel
theorem dX7_count_134 : decode cX7_count 134 = .ok (.iconst 2, 1) := by decide +kernel
theorem dX7_count_135 : decode cX7_count 135 = .ok (.invokevirtual 202, 3) := by decide +kernel
theorem dX7_count_138 : decode cX7_count 138 = .ok (.ireturn, 1) := by decide +kernel
theorem dX7_count_139 : decode cX7_count 139 = .ok (.aload_n 0, 1) := by decide +kernel
theorem dX7_count_140 : decode cX7_count 140 = .ok (.getfield 10, 3) := by decide +kernel
theorem dX7_count_143 : decode cX7_count 143 = .ok (.iconst 0, 1) := by decide +kernel
theorem dX7_count_144 : decode cX7_count 144 = .ok (.invokevirtual 205, 3) := by decide +kernel
theorem dX7_count_147 : decode cX7_count 147 = .ok (.ireturn, 1) := by decide +kernel
theorem dX7_count_148 : decode cX7_count 148 = .ok (.aload_n 0, 1) := by decide +kernel
theorem dX7_count_149 : decode cX7_count 149 = .ok (.getfield 10, 3) := by decide +kernel
theorem dX7_count_152 : decode cX7_count 152 = .ok (.iconst 1, 1) := by decide +kernel
theorem dX7_count_153 : decode cX7_count 153 = .ok (.invokevirtual 205, 3) := by decide +kernel
theorem dX7_count_156 : decode cX7_count 156 = .ok (.ireturn, 1) := by decide +kernel
theorem dX7_count_157 : decode cX7_count 157 = .ok (.aload_n 0, 1) := by decide +kernel
theorem dX7_count_158 : decode cX7_count 158 = .ok (.getfield 10, 3) := by decide +kernel
theorem dX7_count_161 : decode cX7_count 161 = .ok (.iconst 2, 1) := by decide +kernel
theorem dX7_count_162 : decode cX7_count 162 = .ok (.invokevirtual 205, 3) := by decide +kernel
theorem dX7_count_165 : decode cX7_count 165 = .ok (.ireturn, 1) := by decide +kernel
theorem dX7_count_166 : decode cX7_count 166 = .ok (.aload_n 0, 1) := by decide +kernel
theorem dX7_count_167 : decode cX7_count 167 = .ok (.getfield 10, 3) := by decide +kernel
theorem dX7_count_170 : decode cX7_count 170 = .ok (.iconst 3, 1) := by decide +kernel
theorem dX7_count_171 : decode cX7_count 171 = .ok (.invokevirtual 205, 3) := by decide +kernel
theorem dX7_count_174 : decode cX7_count 174 = .ok (.ireturn, 1) := by decide +kernel
theorem dX7_count_175 : decode cX7_count 175 = .ok (.aload_n 0, 1) := by decide +kernel
theorem dX7_count_176 : decode cX7_count 176 = .ok (.getfield 37, 3) := by decide +kernel
theorem dX7_count_179 : decode cX7_count 179 = .ok (.getfield 208, 3) := by decide +kernel
theorem dX7_count_182 : decode cX7_count 182 = .ok (.ireturn, 1) := by decide +kernel
theorem dX7_count_183 : decode cX7_count 183 = .ok (.aload_n 0, 1) := by decide +kernel
theorem dX7_count_184 : decode cX7_count 184 = .ok (.getfield 22, 3) := by decide +kernel
theorem dX7_count_187 : decode cX7_count 187 = .ok (.getfield 211, 3) := by decide +kernel
theorem dX7_count_190 : decode cX7_count 190 = .ok (.ireturn, 1) := by decide +kernel
theorem dX7_count_191 : decode cX7_count 191 = .ok (.bipush (-2), 2) := by decide +kernel
theorem dX7_count_193 : decode cX7_count 193 = .ok (.ireturn, 1) := by decide +kernel
theorem dX7_valueIn_0 : decode cX7_valueIn 0 = .ok (.aload_n 0, 1) := by decide +kernel
theorem dX7_valueIn_1 : decode cX7_valueIn 1 = .ok (.getfield 10, 3) := by decide +kernel
theorem dX7_valueIn_4 : decode cX7_valueIn 4 = .ok (.iload_n 1, 1) := by decide +kernel
theorem dX7_valueIn_5 : decode cX7_valueIn 5 = .ok (.iload_n 2, 1) := by decide +kernel
theorem dX7_valueIn_6 : decode cX7_valueIn 6 = .ok (.invokevirtual 86, 3) := by decide +kernel
theorem dX7_valueIn_9 : decode cX7_valueIn 9 = .ok (.ifnonnull 5, 3) := by decide +kernel
theorem dX7_valueIn_12 : decode cX7_valueIn 12 = .ok (.iconst (-1), 1) := by decide +kernel
theorem dX7_valueIn_13 : decode cX7_valueIn 13 = .ok (.ireturn, 1) := by decide +kernel
theorem dX7_valueIn_14 : decode cX7_valueIn 14 = .ok (.iload_n 3, 1) := by decide +kernel
theorem dX7_valueIn_15 : decode cX7_valueIn 15 = .ok (.iconst 1, 1) := by decide +kernel
theorem dX7_valueIn_16 : decode cX7_valueIn 16 = .ok (.sipush 200, 3) := by decide +kernel
theorem dX7_valueIn_19 : decode cX7_valueIn 19 = .ok (.invokestatic 186, 3) := by decide +kernel
theorem dX7_valueIn_22 : decode cX7_valueIn 22 = .ok (.ifCond .ne 6, 3) := by decide +kernel
theorem dX7_valueIn_25 : decode cX7_valueIn 25 = .ok (.bipush (-2), 2) := by decide +kernel
theorem dX7_valueIn_27 : decode cX7_valueIn 27 = .ok (.ireturn, 1) := by decide +kernel
theorem dX7_valueIn_28 : decode cX7_valueIn 28 = .ok (.aload_n 0, 1) := by decide +kernel
theorem dX7_valueIn_29 : decode cX7_valueIn 29 = .ok (.getfield 16, 3) := by decide +kernel
theorem dX7_valueIn_32 : decode cX7_valueIn 32 = .ok (.aload_n 0, 1) := by decide +kernel
theorem dX7_valueIn_33 : decode cX7_valueIn 33 = .ok (.getfield 10, 3) := by decide +kernel
theorem dX7_valueIn_36 : decode cX7_valueIn 36 = .ok (.invokevirtual 214, 3) := by decide +kernel
theorem dX7_valueIn_39 : decode cX7_valueIn 39 = .ok (.aload_n 0, 1) := by decide +kernel
theorem dX7_valueIn_40 : decode cX7_valueIn 40 = .ok (.getfield 16, 3) := by decide +kernel
theorem dX7_valueIn_43 : decode cX7_valueIn 43 = .ok (.iload_n 3, 1) := by decide +kernel
theorem dX7_valueIn_44 : decode cX7_valueIn 44 = .ok (.invokevirtual 83, 3) := by decide +kernel
theorem dX7_valueIn_47 : decode cX7_valueIn 47 = .ok (.pop, 1) := by decide +kernel
theorem dX7_valueIn_48 : decode cX7_valueIn 48 = .ok (.aload_n 0, 1) := by decide +kernel
theorem dX7_valueIn_49 : decode cX7_valueIn 49 = .ok (.getfield 16, 3) := by decide +kernel
theorem dX7_valueIn_52 : decode cX7_valueIn 52 = .ok (.iload_n 1, 1) := by decide +kernel
theorem dX7_valueIn_53 : decode cX7_valueIn 53 = .ok (.invokevirtual 108, 3) := by decide +kernel
theorem dX7_valueIn_56 : decode cX7_valueIn 56 = .ok (.astore 4, 2) := by decide +kernel
theorem dX7_valueIn_58 : decode cX7_valueIn 58 = .ok (.aload 4, 2) := by decide +kernel
theorem dX7_valueIn_60 : decode cX7_valueIn 60 = .ok (.ifnonnull 8, 3) := by decide +kernel
theorem dX7_valueIn_63 : decode cX7_valueIn 63 = .ok (.bipush (-6), 2) := by decide +kernel
theorem dX7_valueIn_65 : decode cX7_valueIn 65 = .ok (.goto 9, 3) := by decide +kernel
theorem dX7_valueIn_68 : decode cX7_valueIn 68 = .ok (.aload 4, 2) := by decide +kernel
theorem dX7_valueIn_70 : decode cX7_valueIn 70 = .ok (.iload_n 2, 1) := by decide +kernel
theorem dX7_valueIn_71 : decode cX7_valueIn 71 = .ok (.invokevirtual 90, 3) := by decide +kernel
theorem dX7_valueIn_74 : decode cX7_valueIn 74 = .ok (.ireturn, 1) := by decide +kernel
theorem dX7_leftIn_0 : decode cX7_leftIn 0 = .ok (.iload_n 1, 1) := by decide +kernel
theorem dX7_leftIn_1 : decode cX7_leftIn 1 = .ok (.iconst 1, 1) := by decide +kernel
theorem dX7_leftIn_2 : decode cX7_leftIn 2 = .ok (.sipush 200, 3) := by decide +kernel
theorem dX7_leftIn_5 : decode cX7_leftIn 5 = .ok (.invokestatic 186, 3) := by decide +kernel
theorem dX7_leftIn_8 : decode cX7_leftIn 8 = .ok (.ifCond .ne 6, 3) := by decide +kernel
theorem dX7_leftIn_11 : decode cX7_leftIn 11 = .ok (.bipush (-2), 2) := by decide +kernel
theorem dX7_leftIn_13 : decode cX7_leftIn 13 = .ok (.ireturn, 1) := by decide +kernel
theorem dX7_leftIn_14 : decode cX7_leftIn 14 = .ok (.aload_n 0, 1) := by decide +kernel
theorem dX7_leftIn_15 : decode cX7_leftIn 15 = .ok (.getfield 16, 3) := by decide +kernel
theorem dX7_leftIn_18 : decode cX7_leftIn 18 = .ok (.aload_n 0, 1) := by decide +kernel
theorem dX7_leftIn_19 : decode cX7_leftIn 19 = .ok (.getfield 10, 3) := by decide +kernel
theorem dX7_leftIn_22 : decode cX7_leftIn 22 = .ok (.invokevirtual 214, 3) := by decide +kernel
theorem dX7_leftIn_25 : decode cX7_leftIn 25 = .ok (.aload_n 0, 1) := by decide +kernel
theorem dX7_leftIn_26 : decode cX7_leftIn 26 = .ok (.getfield 16, 3) := by decide +kernel
theorem dX7_leftIn_29 : decode cX7_leftIn 29 = .ok (.iload_n 1, 1) := by decide +kernel
theorem dX7_leftIn_30 : decode cX7_leftIn 30 = .ok (.invokevirtual 83, 3) := by decide +kernel
theorem dX7_leftIn_33 : decode cX7_leftIn 33 = .ok (.pop, 1) := by decide +kernel
theorem dX7_leftIn_34 : decode cX7_leftIn 34 = .ok (.aload_n 0, 1) := by decide +kernel
theorem dX7_leftIn_35 : decode cX7_leftIn 35 = .ok (.getfield 16, 3) := by decide +kernel
theorem dX7_leftIn_38 : decode cX7_leftIn 38 = .ok (.invokevirtual 199, 3) := by decide +kernel
theorem dX7_leftIn_41 : decode cX7_leftIn 41 = .ok (.ireturn, 1) := by decide +kernel
theorem dX7_firstLoss_0 : decode cX7_firstLoss 0 = .ok (.aload_n 0, 1) := by decide +kernel
theorem dX7_firstLoss_1 : decode cX7_firstLoss 1 = .ok (.getfield 16, 3) := by decide +kernel
theorem dX7_firstLoss_4 : decode cX7_firstLoss 4 = .ok (.aload_n 0, 1) := by decide +kernel
theorem dX7_firstLoss_5 : decode cX7_firstLoss 5 = .ok (.getfield 10, 3) := by decide +kernel
theorem dX7_firstLoss_8 : decode cX7_firstLoss 8 = .ok (.invokevirtual 214, 3) := by decide +kernel
theorem dX7_firstLoss_11 : decode cX7_firstLoss 11 = .ok (.aload_n 0, 1) := by decide +kernel
theorem dX7_firstLoss_12 : decode cX7_firstLoss 12 = .ok (.getfield 16, 3) := by decide +kernel
theorem dX7_firstLoss_15 : decode cX7_firstLoss 15 = .ok (.sipush 300, 3) := by decide +kernel
theorem dX7_firstLoss_18 : decode cX7_firstLoss 18 = .ok (.invokevirtual 217, 3) := by decide +kernel
theorem dX7_firstLoss_21 : decode cX7_firstLoss 21 = .ok (.ireturn, 1) := by decide +kernel
theorem dX7_bestPlace_0 : decode cX7_bestPlace 0 = .ok (.aload_n 0, 1) := by decide +kernel
theorem dX7_bestPlace_1 : decode cX7_bestPlace 1 = .ok (.getfield 10, 3) := by decide +kernel
theorem dX7_bestPlace_4 : decode cX7_bestPlace 4 = .ok (.iload_n 1, 1) := by decide +kernel
theorem dX7_bestPlace_5 : decode cX7_bestPlace 5 = .ok (.invokevirtual 108, 3) := by decide +kernel
theorem dX7_bestPlace_8 : decode cX7_bestPlace 8 = .ok (.astore 5, 2) := by decide +kernel
theorem dX7_bestPlace_10 : decode cX7_bestPlace 10 = .ok (.aload 5, 2) := by decide +kernel
theorem dX7_bestPlace_12 : decode cX7_bestPlace 12 = .ok (.ifnonnull 5, 3) := by decide +kernel
theorem dX7_bestPlace_15 : decode cX7_bestPlace 15 = .ok (.iconst (-1), 1) := by decide +kernel
theorem dX7_bestPlace_16 : decode cX7_bestPlace 16 = .ok (.ireturn, 1) := by decide +kernel
theorem dX7_bestPlace_17 : decode cX7_bestPlace 17 = .ok (.iconst 0, 1) := by decide +kernel
theorem dX7_bestPlace_18 : decode cX7_bestPlace 18 = .ok (.iload_n 2, 1) := by decide +kernel
theorem dX7_bestPlace_19 : decode cX7_bestPlace 19 = .ok (.iload_n 3, 1) := by decide +kernel
theorem dX7_bestPlace_20 : decode cX7_bestPlace 20 = .ok (.invokestatic 220, 3) := by decide +kernel
theorem dX7_bestPlace_23 : decode cX7_bestPlace 23 = .ok (.ifCond .eq 13, 3) := by decide +kernel
theorem dX7_bestPlace_26 : decode cX7_bestPlace 26 = .ok (.iload 4, 2) := by decide +kernel
theorem dX7_bestPlace_28 : decode cX7_bestPlace 28 = .ok (.iconst 0, 1) := by decide +kernel
theorem dX7_bestPlace_29 : decode cX7_bestPlace 29 = .ok (.iconst 1, 1) := by decide +kernel
theorem dX7_bestPlace_30 : decode cX7_bestPlace 30 = .ok (.invokestatic 186, 3) := by decide +kernel
theorem dX7_bestPlace_33 : decode cX7_bestPlace 33 = .ok (.ifCond .ne 6, 3) := by decide +kernel
theorem dX7_bestPlace_36 : decode cX7_bestPlace 36 = .ok (.bipush (-2), 2) := by decide +kernel
theorem dX7_bestPlace_38 : decode cX7_bestPlace 38 = .ok (.ireturn, 1) := by decide +kernel
theorem dX7_bestPlace_39 : decode cX7_bestPlace 39 = .ok (.aload_n 0, 1) := by decide +kernel
theorem dX7_bestPlace_40 : decode cX7_bestPlace 40 = .ok (.getfield 10, 3) := by decide +kernel
theorem dX7_bestPlace_43 : decode cX7_bestPlace 43 = .ok (.getfield 193, 3) := by decide +kernel
theorem dX7_bestPlace_46 : decode cX7_bestPlace 46 = .ok (.bipush 12, 2) := by decide +kernel
theorem dX7_bestPlace_48 : decode cX7_bestPlace 48 = .ok (.if_icmp .lt 6, 3) := by decide +kernel
theorem dX7_bestPlace_51 : decode cX7_bestPlace 51 = .ok (.bipush (-4), 2) := by decide +kernel
theorem dX7_bestPlace_53 : decode cX7_bestPlace 53 = .ok (.ireturn, 1) := by decide +kernel
theorem dX7_bestPlace_54 : decode cX7_bestPlace 54 = .ok (.iconst 0, 1) := by decide +kernel
theorem dX7_bestPlace_55 : decode cX7_bestPlace 55 = .ok (.istore 6, 2) := by decide +kernel
theorem dX7_bestPlace_57 : decode cX7_bestPlace 57 = .ok (.iconst (-1), 1) := by decide +kernel
theorem dX7_bestPlace_58 : decode cX7_bestPlace 58 = .ok (.istore 7, 2) := by decide +kernel
theorem dX7_bestPlace_60 : decode cX7_bestPlace 60 = .ok (.iconst 0, 1) := by decide +kernel
theorem dX7_bestPlace_61 : decode cX7_bestPlace 61 = .ok (.istore 8, 2) := by decide +kernel
theorem dX7_bestPlace_63 : decode cX7_bestPlace 63 = .ok (.iload 8, 2) := by decide +kernel
theorem dX7_bestPlace_65 : decode cX7_bestPlace 65 = .ok (.aload 5, 2) := by decide +kernel
theorem dX7_bestPlace_67 : decode cX7_bestPlace 67 = .ok (.getfield 105, 3) := by decide +kernel
theorem dX7_bestPlace_70 : decode cX7_bestPlace 70 = .ok (.if_icmp .ge 68, 3) := by decide +kernel
theorem dX7_bestPlace_73 : decode cX7_bestPlace 73 = .ok (.aload_n 0, 1) := by decide +kernel
theorem dX7_bestPlace_74 : decode cX7_bestPlace 74 = .ok (.getfield 16, 3) := by decide +kernel
theorem dX7_bestPlace_77 : decode cX7_bestPlace 77 = .ok (.aload_n 0, 1) := by decide +kernel
theorem dX7_bestPlace_78 : decode cX7_bestPlace 78 = .ok (.getfield 10, 3) := by decide +kernel
theorem dX7_bestPlace_81 : decode cX7_bestPlace 81 = .ok (.invokevirtual 214, 3) := by decide +kernel
theorem dX7_bestPlace_84 : decode cX7_bestPlace 84 = .ok (.aload_n 0, 1) := by decide +kernel
theorem dX7_bestPlace_85 : decode cX7_bestPlace 85 = .ok (.getfield 16, 3) := by decide +kernel
theorem dX7_bestPlace_88 : decode cX7_bestPlace 88 = .ok (.iload_n 1, 1) := by decide +kernel
theorem dX7_bestPlace_89 : decode cX7_bestPlace 89 = .ok (.iload 8, 2) := by decide +kernel
theorem dX7_bestPlace_91 : decode cX7_bestPlace 91 = .ok (.iconst 0, 1) := by decide +kernel
theorem dX7_bestPlace_92 : decode cX7_bestPlace 92 = .ok (.iload_n 2, 1) := by decide +kernel
theorem dX7_bestPlace_93 : decode cX7_bestPlace 93 = .ok (.iload_n 3, 1) := by decide +kernel
theorem dX7_bestPlace_94 : decode cX7_bestPlace 94 = .ok (.invokevirtual 65, 3) := by decide +kernel
theorem dX7_bestPlace_97 : decode cX7_bestPlace 97 = .ok (.pop, 1) := by decide +kernel
theorem dX7_bestPlace_98 : decode cX7_bestPlace 98 = .ok (.aload_n 0, 1) := by decide +kernel
theorem dX7_bestPlace_99 : decode cX7_bestPlace 99 = .ok (.getfield 16, 3) := by decide +kernel
theorem dX7_bestPlace_102 : decode cX7_bestPlace 102 = .ok (.bipush 100, 2) := by decide +kernel
theorem dX7_bestPlace_104 : decode cX7_bestPlace 104 = .ok (.invokevirtual 83, 3) := by decide +kernel
theorem dX7_bestPlace_107 : decode cX7_bestPlace 107 = .ok (.pop, 1) := by decide +kernel
theorem dX7_bestPlace_108 : decode cX7_bestPlace 108 = .ok (.aload_n 0, 1) := by decide +kernel
theorem dX7_bestPlace_109 : decode cX7_bestPlace 109 = .ok (.getfield 16, 3) := by decide +kernel
theorem dX7_bestPlace_112 : decode cX7_bestPlace 112 = .ok (.invokevirtual 199, 3) := by decide +kernel
theorem dX7_bestPlace_115 : decode cX7_bestPlace 115 = .ok (.istore 9, 2) := by decide +kernel
theorem dX7_bestPlace_117 : decode cX7_bestPlace 117 = .ok (.iload 9, 2) := by decide +kernel
theorem dX7_bestPlace_119 : decode cX7_bestPlace 119 = .ok (.iload 7, 2) := by decide +kernel
theorem dX7_bestPlace_121 : decode cX7_bestPlace 121 = .ok (.if_icmp .le 11, 3) := by decide +kernel
theorem dX7_bestPlace_124 : decode cX7_bestPlace 124 = .ok (.iload 9, 2) := by decide +kernel
theorem dX7_bestPlace_126 : decode cX7_bestPlace 126 = .ok (.istore 7, 2) := by decide +kernel
theorem dX7_bestPlace_128 : decode cX7_bestPlace 128 = .ok (.iload 8, 2) := by decide +kernel
theorem dX7_bestPlace_130 : decode cX7_bestPlace 130 = .ok (.istore 6, 2) := by decide +kernel
theorem dX7_bestPlace_132 : decode cX7_bestPlace 132 = .ok (.iinc 8 1, 3) := by decide +kernel
theorem dX7_bestPlace_135 : decode cX7_bestPlace 135 = .ok (.goto (-72), 3) := by decide +kernel
theorem dX7_bestPlace_138 : decode cX7_bestPlace 138 = .ok (.iload 4, 2) := by decide +kernel
theorem dX7_bestPlace_140 : decode cX7_bestPlace 140 = .ok (.ifCond .ne 8, 3) := by decide +kernel
theorem dX7_bestPlace_143 : decode cX7_bestPlace 143 = .ok (.iload 6, 2) := by decide +kernel
theorem dX7_bestPlace_145 : decode cX7_bestPlace 145 = .ok (.goto 5, 3) := by decide +kernel
theorem dX7_bestPlace_148 : decode cX7_bestPlace 148 = .ok (.iload 7, 2) := by decide +kernel
theorem dX7_bestPlace_150 : decode cX7_bestPlace 150 = .ok (.ireturn, 1) := by decide +kernel
theorem dX7_bearable_0 : decode cX7_bearable 0 = .ok (.getstatic 223, 3) := by decide +kernel
theorem dX7_bearable_3 : decode cX7_bearable 3 = .ok (.iconst 0, 1) := by decide +kernel
theorem dX7_bearable_4 : decode cX7_bearable 4 = .ok (.iaload, 1) := by decide +kernel
theorem dX7_bearable_5 : decode cX7_bearable 5 = .ok (.istore_n 1, 1) := by decide +kernel
theorem dX7_bearable_6 : decode cX7_bearable 6 = .ok (.iload_n 1, 1) := by decide +kernel
theorem dX7_bearable_7 : decode cX7_bearable 7 = .ok (.getstatic 227, 3) := by decide +kernel
theorem dX7_bearable_10 : decode cX7_bearable 10 = .ok (.iconst 0, 1) := by decide +kernel
theorem dX7_bearable_11 : decode cX7_bearable 11 = .ok (.iaload, 1) := by decide +kernel
theorem dX7_bearable_12 : decode cX7_bearable 12 = .ok (.if_icmp .lt 46, 3) := by decide +kernel
theorem dX7_bearable_15 : decode cX7_bearable 15 = .ok (.aload_n 0, 1) := by decide +kernel
theorem dX7_bearable_16 : decode cX7_bearable 16 = .ok (.getfield 16, 3) := by decide +kernel
theorem dX7_bearable_19 : decode cX7_bearable 19 = .ok (.aload_n 0, 1) := by decide +kernel
theorem dX7_bearable_20 : decode cX7_bearable 20 = .ok (.getfield 10, 3) := by decide +kernel
theorem dX7_bearable_23 : decode cX7_bearable 23 = .ok (.invokevirtual 214, 3) := by decide +kernel
theorem dX7_bearable_26 : decode cX7_bearable 26 = .ok (.aload_n 0, 1) := by decide +kernel
theorem dX7_bearable_27 : decode cX7_bearable 27 = .ok (.getfield 16, 3) := by decide +kernel
theorem dX7_bearable_30 : decode cX7_bearable 30 = .ok (.iconst 0, 1) := by decide +kernel
theorem dX7_bearable_31 : decode cX7_bearable 31 = .ok (.iload_n 1, 1) := by decide +kernel
theorem dX7_bearable_32 : decode cX7_bearable 32 = .ok (.invokevirtual 54, 3) := by decide +kernel
theorem dX7_bearable_35 : decode cX7_bearable 35 = .ok (.pop, 1) := by decide +kernel
theorem dX7_bearable_36 : decode cX7_bearable 36 = .ok (.aload_n 0, 1) := by decide +kernel
theorem dX7_bearable_37 : decode cX7_bearable 37 = .ok (.getfield 16, 3) := by decide +kernel
theorem dX7_bearable_40 : decode cX7_bearable 40 = .ok (.bipush 100, 2) := by decide +kernel
theorem dX7_bearable_42 : decode cX7_bearable 42 = .ok (.invokevirtual 217, 3) := by decide +kernel
theorem dX7_bearable_45 : decode cX7_bearable 45 = .ok (.bipush (-6), 2) := by decide +kernel
theorem dX7_bearable_47 : decode cX7_bearable 47 = .ok (.if_icmp .ne 5, 3) := by decide +kernel
theorem dX7_bearable_50 : decode cX7_bearable 50 = .ok (.iload_n 1, 1) := by decide +kernel
theorem dX7_bearable_51 : decode cX7_bearable 51 = .ok (.ireturn, 1) := by decide +kernel
theorem dX7_bearable_52 : decode cX7_bearable 52 = .ok (.iinc 1 (-1), 3) := by decide +kernel
theorem dX7_bearable_55 : decode cX7_bearable 55 = .ok (.goto (-49), 3) := by decide +kernel
theorem dX7_bearable_58 : decode cX7_bearable 58 = .ok (.bipush (-6), 2) := by decide +kernel
theorem dX7_bearable_60 : decode cX7_bearable 60 = .ok (.ireturn, 1) := by decide +kernel
theorem dX7_put_0 : decode cX7_put 0 = .ok (.lload_n 1, 1) := by decide +kernel
theorem dX7_put_1 : decode cX7_put 1 = .ok (.invokestatic 230, 3) := by decide +kernel
theorem dX7_put_4 : decode cX7_put 4 = .ok (.istore_n 3, 1) := by decide +kernel
theorem dX7_put_5 : decode cX7_put 5 = .ok (.iload_n 3, 1) := by decide +kernel
theorem dX7_put_6 : decode cX7_put 6 = .ok (.ifCond .ne 6, 3) := by decide +kernel
theorem dX7_put_9 : decode cX7_put 9 = .ok (.bipush (-2), 2) := by decide +kernel
theorem dX7_put_11 : decode cX7_put 11 = .ok (.ireturn, 1) := by decide +kernel
theorem dX7_put_12 : decode cX7_put 12 = .ok (.aload_n 0, 1) := by decide +kernel
theorem dX7_put_13 : decode cX7_put 13 = .ok (.getfield 37, 3) := by decide +kernel
theorem dX7_put_16 : decode cX7_put 16 = .ok (.getfield 208, 3) := by decide +kernel
theorem dX7_put_19 : decode cX7_put 19 = .ok (.iload_n 3, 1) := by decide +kernel
theorem dX7_put_20 : decode cX7_put 20 = .ok (.iadd, 1) := by decide +kernel
theorem dX7_put_21 : decode cX7_put 21 = .ok (.bipush 80, 2) := by decide +kernel
theorem dX7_put_23 : decode cX7_put 23 = .ok (.if_icmp .le 6, 3) := by decide +kernel
theorem dX7_put_26 : decode cX7_put 26 = .ok (.bipush (-4), 2) := by decide +kernel
theorem dX7_put_28 : decode cX7_put 28 = .ok (.ireturn, 1) := by decide +kernel
theorem dX7_put_29 : decode cX7_put 29 = .ok (.iload_n 3, 1) := by decide +kernel
theorem dX7_put_30 : decode cX7_put 30 = .ok (.iconst 1, 1) := by decide +kernel
theorem dX7_put_31 : decode cX7_put 31 = .ok (.isub, 1) := by decide +kernel
theorem dX7_put_32 : decode cX7_put 32 = .ok (.istore 4, 2) := by decide +kernel
theorem dX7_put_34 : decode cX7_put 34 = .ok (.iload 4, 2) := by decide +kernel
theorem dX7_put_36 : decode cX7_put 36 = .ok (.ifCond .lt 22, 3) := by decide +kernel
theorem dX7_put_39 : decode cX7_put 39 = .ok (.aload_n 0, 1) := by decide +kernel
theorem dX7_put_40 : decode cX7_put 40 = .ok (.getfield 37, 3) := by decide +kernel
theorem dX7_put_43 : decode cX7_put 43 = .ok (.lload_n 1, 1) := by decide +kernel
theorem dX7_put_44 : decode cX7_put 44 = .ok (.iload 4, 2) := by decide +kernel
theorem dX7_put_46 : decode cX7_put 46 = .ok (.invokestatic 234, 3) := by decide +kernel
theorem dX7_put_49 : decode cX7_put 49 = .ok (.invokevirtual 238, 3) := by decide +kernel
theorem dX7_put_52 : decode cX7_put 52 = .ok (.iinc 4 (-1), 3) := by decide +kernel
theorem dX7_put_55 : decode cX7_put 55 = .ok (.goto (-21), 3) := by decide +kernel
theorem dX7_put_58 : decode cX7_put 58 = .ok (.aload_n 0, 1) := by decide +kernel
theorem dX7_put_59 : decode cX7_put 59 = .ok (.getfield 37, 3) := by decide +kernel
theorem dX7_put_62 : decode cX7_put 62 = .ok (.getfield 208, 3) := by decide +kernel
theorem dX7_put_65 : decode cX7_put 65 = .ok (.ireturn, 1) := by decide +kernel
theorem dX7_wipe_0 : decode cX7_wipe 0 = .ok (.aload_n 0, 1) := by decide +kernel
theorem dX7_wipe_1 : decode cX7_wipe 1 = .ok (.getfield 37, 3) := by decide +kernel
theorem dX7_wipe_4 : decode cX7_wipe 4 = .ok (.getfield 208, 3) := by decide +kernel
theorem dX7_wipe_7 : decode cX7_wipe 7 = .ok (.istore_n 1, 1) := by decide +kernel
theorem dX7_wipe_8 : decode cX7_wipe 8 = .ok (.aload_n 0, 1) := by decide +kernel
theorem dX7_wipe_9 : decode cX7_wipe 9 = .ok (.getfield 37, 3) := by decide +kernel
theorem dX7_wipe_12 : decode cX7_wipe 12 = .ok (.invokevirtual 242, 3) := by decide +kernel
theorem dX7_wipe_15 : decode cX7_wipe 15 = .ok (.iload_n 1, 1) := by decide +kernel
theorem dX7_wipe_16 : decode cX7_wipe 16 = .ok (.ireturn, 1) := by decide +kernel
theorem dX7_fault_0 : decode cX7_fault 0 = .ok (.aload_n 0, 1) := by decide +kernel
theorem dX7_fault_1 : decode cX7_fault 1 = .ok (.getfield 46, 3) := by decide +kernel
theorem dX7_fault_4 : decode cX7_fault 4 = .ok (.invokevirtual 245, 3) := by decide +kernel
theorem dX7_fault_7 : decode cX7_fault 7 = .ok (.ireturn, 1) := by decide +kernel
theorem dX7_carryOut_0 : decode cX7_carryOut 0 = .ok (.aload_n 0, 1) := by decide +kernel
theorem dX7_carryOut_1 : decode cX7_carryOut 1 = .ok (.getfield 46, 3) := by decide +kernel
theorem dX7_carryOut_4 : decode cX7_carryOut 4 = .ok (.invokevirtual 245, 3) := by decide +kernel
theorem dX7_carryOut_7 : decode cX7_carryOut 7 = .ok (.bipush (-6), 2) := by decide +kernel
theorem dX7_carryOut_9 : decode cX7_carryOut 9 = .ok (.if_icmp .eq 6, 3) := by decide +kernel
theorem dX7_carryOut_12 : decode cX7_carryOut 12 = .ok (.bipush (-3), 2) := by decide +kernel
theorem dX7_carryOut_14 : decode cX7_carryOut 14 = .ok (.ireturn, 1) := by decide +kernel
theorem dX7_carryOut_15 : decode cX7_carryOut 15 = .ok (.aload_n 0, 1) := by decide +kernel
theorem dX7_carryOut_16 : decode cX7_carryOut 16 = .ok (.getfield 22, 3) := by decide +kernel
theorem dX7_carryOut_19 : decode cX7_carryOut 19 = .ok (.aload_n 0, 1) := by decide +kernel
theorem dX7_carryOut_20 : decode cX7_carryOut 20 = .ok (.getfield 10, 3) := by decide +kernel
theorem dX7_carryOut_23 : decode cX7_carryOut 23 = .ok (.invokevirtual 50, 3) := by decide +kernel
theorem dX7_carryOut_26 : decode cX7_carryOut 26 = .ok (.aload_n 0, 1) := by decide +kernel
theorem dX7_carryOut_27 : decode cX7_carryOut 27 = .ok (.getfield 46, 3) := by decide +kernel
theorem dX7_carryOut_30 : decode cX7_carryOut 30 = .ok (.invokevirtual 248, 3) := by decide +kernel
theorem dX7_carryOut_33 : decode cX7_carryOut 33 = .ok (.iconst 0, 1) := by decide +kernel
theorem dX7_carryOut_34 : decode cX7_carryOut 34 = .ok (.istore_n 1, 1) := by decide +kernel
theorem dX7_carryOut_35 : decode cX7_carryOut 35 = .ok (.iload_n 1, 1) := by decide +kernel
theorem dX7_carryOut_36 : decode cX7_carryOut 36 = .ok (.bipush 80, 2) := by decide +kernel
theorem dX7_carryOut_38 : decode cX7_carryOut 38 = .ok (.if_icmp .ge 26, 3) := by decide +kernel
theorem dX7_carryOut_41 : decode cX7_carryOut 41 = .ok (.aload_n 0, 1) := by decide +kernel
theorem dX7_carryOut_42 : decode cX7_carryOut 42 = .ok (.getfield 46, 3) := by decide +kernel
theorem dX7_carryOut_45 : decode cX7_carryOut 45 = .ok (.invokevirtual 251, 3) := by decide +kernel
theorem dX7_carryOut_48 : decode cX7_carryOut 48 = .ok (.ifCond .eq 16, 3) := by decide +kernel
theorem dX7_carryOut_51 : decode cX7_carryOut 51 = .ok (.aload_n 0, 1) := by decide +kernel
theorem dX7_carryOut_52 : decode cX7_carryOut 52 = .ok (.invokevirtual 255, 3) := by decide +kernel
theorem dX7_carryOut_55 : decode cX7_carryOut 55 = .ok (.ifCond .eq 9, 3) := by decide +kernel
theorem dX7_carryOut_58 : decode cX7_carryOut 58 = .ok (.iinc 1 1, 3) := by decide +kernel
theorem dX7_carryOut_61 : decode cX7_carryOut 61 = .ok (.goto (-26), 3) := by decide +kernel
theorem dX7_carryOut_64 : decode cX7_carryOut 64 = .ok (.aload_n 0, 1) := by decide +kernel
theorem dX7_carryOut_65 : decode cX7_carryOut 65 = .ok (.getfield 37, 3) := by decide +kernel
theorem dX7_carryOut_68 : decode cX7_carryOut 68 = .ok (.invokevirtual 242, 3) := by decide +kernel
theorem dX7_carryOut_71 : decode cX7_carryOut 71 = .ok (.aload_n 0, 1) := by decide +kernel
theorem dX7_carryOut_72 : decode cX7_carryOut 72 = .ok (.getfield 22, 3) := by decide +kernel
theorem dX7_carryOut_75 : decode cX7_carryOut 75 = .ok (.iload_n 1, 1) := by decide +kernel
theorem dX7_carryOut_76 : decode cX7_carryOut 76 = .ok (.invokevirtual 58, 3) := by decide +kernel
theorem dX7_carryOut_79 : decode cX7_carryOut 79 = .ok (.ireturn, 1) := by decide +kernel
theorem dX7_carryOrder_0 : decode cX7_carryOrder 0 = .ok (.aload_n 0, 1) := by decide +kernel
theorem dX7_carryOrder_1 : decode cX7_carryOrder 1 = .ok (.getfield 46, 3) := by decide +kernel
theorem dX7_carryOrder_4 : decode cX7_carryOrder 4 = .ok (.iconst 0, 1) := by decide +kernel
theorem dX7_carryOrder_5 : decode cX7_carryOrder 5 = .ok (.invokevirtual 258, 3) := by decide +kernel
theorem dX7_carryOrder_8 : decode cX7_carryOrder 8 = .ok (.istore_n 1, 1) := by decide +kernel
theorem dX7_carryOrder_9 : decode cX7_carryOrder 9 = .ok (.aload_n 0, 1) := by decide +kernel
theorem dX7_carryOrder_10 : decode cX7_carryOrder 10 = .ok (.getfield 46, 3) := by decide +kernel
theorem dX7_carryOrder_13 : decode cX7_carryOrder 13 = .ok (.getfield 261, 3) := by decide +kernel
theorem dX7_carryOrder_16 : decode cX7_carryOrder 16 = .ok (.bipush 102, 2) := by decide +kernel
theorem dX7_carryOrder_18 : decode cX7_carryOrder 18 = .ok (.if_icmp .ne 9, 3) := by decide +kernel
theorem dX7_carryOrder_21 : decode cX7_carryOrder 21 = .ok (.aload_n 0, 1) := by decide +kernel
theorem dX7_carryOrder_22 : decode cX7_carryOrder 22 = .ok (.iload_n 1, 1) := by decide +kernel
theorem dX7_carryOrder_23 : decode cX7_carryOrder 23 = .ok (.invokevirtual 265, 3) := by decide +kernel
theorem dX7_carryOrder_26 : decode cX7_carryOrder 26 = .ok (.ireturn, 1) := by decide +kernel
theorem dX7_carryOrder_27 : decode cX7_carryOrder 27 = .ok (.aload_n 0, 1) := by decide +kernel
theorem dX7_carryOrder_28 : decode cX7_carryOrder 28 = .ok (.getfield 46, 3) := by decide +kernel
theorem dX7_carryOrder_31 : decode cX7_carryOrder 31 = .ok (.getfield 261, 3) := by decide +kernel
theorem dX7_carryOrder_34 : decode cX7_carryOrder 34 = .ok (.bipush 106, 2) := by decide +kernel
theorem dX7_carryOrder_36 : decode cX7_carryOrder 36 = .ok (.if_icmp .ne 28, 3) := by decide +kernel
theorem dX7_carryOrder_39 : decode cX7_carryOrder 39 = .ok (.aload_n 0, 1) := by decide +kernel
theorem dX7_carryOrder_40 : decode cX7_carryOrder 40 = .ok (.getfield 10, 3) := by decide +kernel
theorem dX7_carryOrder_43 : decode cX7_carryOrder 43 = .ok (.iload_n 1, 1) := by decide +kernel
theorem dX7_carryOrder_44 : decode cX7_carryOrder 44 = .ok (.aload_n 0, 1) := by decide +kernel
theorem dX7_carryOrder_45 : decode cX7_carryOrder 45 = .ok (.getfield 46, 3) := by decide +kernel
theorem dX7_carryOrder_48 : decode cX7_carryOrder 48 = .ok (.iconst 1, 1) := by decide +kernel
theorem dX7_carryOrder_49 : decode cX7_carryOrder 49 = .ok (.invokevirtual 258, 3) := by decide +kernel
theorem dX7_carryOrder_52 : decode cX7_carryOrder 52 = .ok (.invokevirtual 73, 3) := by decide +kernel
theorem dX7_carryOrder_55 : decode cX7_carryOrder 55 = .ok (.ifCond .lt 7, 3) := by decide +kernel
theorem dX7_carryOrder_58 : decode cX7_carryOrder 58 = .ok (.iconst 1, 1) := by decide +kernel
theorem dX7_carryOrder_59 : decode cX7_carryOrder 59 = .ok (.goto 4, 3) := by decide +kernel
theorem dX7_carryOrder_62 : decode cX7_carryOrder 62 = .ok (.iconst 0, 1) := by decide +kernel
theorem dX7_carryOrder_63 : decode cX7_carryOrder 63 = .ok (.ireturn, 1) := by decide +kernel
theorem dX7_carryOrder_64 : decode cX7_carryOrder 64 = .ok (.aload_n 0, 1) := by decide +kernel
theorem dX7_carryOrder_65 : decode cX7_carryOrder 65 = .ok (.getfield 46, 3) := by decide +kernel
theorem dX7_carryOrder_68 : decode cX7_carryOrder 68 = .ok (.getfield 261, 3) := by decide +kernel
theorem dX7_carryOrder_71 : decode cX7_carryOrder 71 = .ok (.bipush 108, 2) := by decide +kernel
theorem dX7_carryOrder_73 : decode cX7_carryOrder 73 = .ok (.if_icmp .ne 36, 3) := by decide +kernel
theorem dX7_carryOrder_76 : decode cX7_carryOrder 76 = .ok (.aload_n 0, 1) := by decide +kernel
theorem dX7_carryOrder_77 : decode cX7_carryOrder 77 = .ok (.getfield 10, 3) := by decide +kernel
theorem dX7_carryOrder_80 : decode cX7_carryOrder 80 = .ok (.iload_n 1, 1) := by decide +kernel
theorem dX7_carryOrder_81 : decode cX7_carryOrder 81 = .ok (.aload_n 0, 1) := by decide +kernel
theorem dX7_carryOrder_82 : decode cX7_carryOrder 82 = .ok (.getfield 46, 3) := by decide +kernel
theorem dX7_carryOrder_85 : decode cX7_carryOrder 85 = .ok (.iconst 1, 1) := by decide +kernel
theorem dX7_carryOrder_86 : decode cX7_carryOrder 86 = .ok (.invokevirtual 258, 3) := by decide +kernel
theorem dX7_carryOrder_89 : decode cX7_carryOrder 89 = .ok (.aload_n 0, 1) := by decide +kernel
theorem dX7_carryOrder_90 : decode cX7_carryOrder 90 = .ok (.getfield 46, 3) := by decide +kernel
theorem dX7_carryOrder_93 : decode cX7_carryOrder 93 = .ok (.iconst 2, 1) := by decide +kernel
theorem dX7_carryOrder_94 : decode cX7_carryOrder 94 = .ok (.invokevirtual 258, 3) := by decide +kernel
theorem dX7_carryOrder_97 : decode cX7_carryOrder 97 = .ok (.invokevirtual 79, 3) := by decide +kernel
theorem dX7_carryOrder_100 : decode cX7_carryOrder 100 = .ok (.ifCond .lt 7, 3) := by decide +kernel
theorem dX7_carryOrder_103 : decode cX7_carryOrder 103 = .ok (.iconst 1, 1) := by decide +kernel
theorem dX7_carryOrder_104 : decode cX7_carryOrder 104 = .ok (.goto 4, 3) := by decide +kernel
theorem dX7_carryOrder_107 : decode cX7_carryOrder 107 = .ok (.iconst 0, 1) := by decide +kernel
theorem dX7_carryOrder_108 : decode cX7_carryOrder 108 = .ok (.ireturn, 1) := by decide +kernel
theorem dX7_carryOrder_109 : decode cX7_carryOrder 109 = .ok (.aload_n 0, 1) := by decide +kernel
theorem dX7_carryOrder_110 : decode cX7_carryOrder 110 = .ok (.getfield 10, 3) := by decide +kernel
theorem dX7_carryOrder_113 : decode cX7_carryOrder 113 = .ok (.iload_n 1, 1) := by decide +kernel
theorem dX7_carryOrder_114 : decode cX7_carryOrder 114 = .ok (.invokevirtual 83, 3) := by decide +kernel
theorem dX7_carryOrder_117 : decode cX7_carryOrder 117 = .ok (.ifCond .lt 7, 3) := by decide +kernel
theorem dX7_carryOrder_120 : decode cX7_carryOrder 120 = .ok (.iconst 1, 1) := by decide +kernel
theorem dX7_carryOrder_121 : decode cX7_carryOrder 121 = .ok (.goto 4, 3) := by decide +kernel
theorem dX7_carryOrder_124 : decode cX7_carryOrder 124 = .ok (.iconst 0, 1) := by decide +kernel
theorem dX7_carryOrder_125 : decode cX7_carryOrder 125 = .ok (.ireturn, 1) := by decide +kernel
theorem dX7_feedAll_0 : decode cX7_feedAll 0 = .ok (.iconst 1, 1) := by decide +kernel
theorem dX7_feedAll_1 : decode cX7_feedAll 1 = .ok (.istore_n 2, 1) := by decide +kernel
theorem dX7_feedAll_2 : decode cX7_feedAll 2 = .ok (.iload_n 2, 1) := by decide +kernel
theorem dX7_feedAll_3 : decode cX7_feedAll 3 = .ok (.aload_n 0, 1) := by decide +kernel
theorem dX7_feedAll_4 : decode cX7_feedAll 4 = .ok (.getfield 46, 3) := by decide +kernel
theorem dX7_feedAll_7 : decode cX7_feedAll 7 = .ok (.getfield 268, 3) := by decide +kernel
theorem dX7_feedAll_10 : decode cX7_feedAll 10 = .ok (.if_icmp .ge 30, 3) := by decide +kernel
theorem dX7_feedAll_13 : decode cX7_feedAll 13 = .ok (.aload_n 0, 1) := by decide +kernel
theorem dX7_feedAll_14 : decode cX7_feedAll 14 = .ok (.getfield 10, 3) := by decide +kernel
theorem dX7_feedAll_17 : decode cX7_feedAll 17 = .ok (.iload_n 1, 1) := by decide +kernel
theorem dX7_feedAll_18 : decode cX7_feedAll 18 = .ok (.aload_n 0, 1) := by decide +kernel
theorem dX7_feedAll_19 : decode cX7_feedAll 19 = .ok (.getfield 46, 3) := by decide +kernel
theorem dX7_feedAll_22 : decode cX7_feedAll 22 = .ok (.iload_n 2, 1) := by decide +kernel
theorem dX7_feedAll_23 : decode cX7_feedAll 23 = .ok (.invokevirtual 258, 3) := by decide +kernel
theorem dX7_feedAll_26 : decode cX7_feedAll 26 = .ok (.invokevirtual 76, 3) := by decide +kernel
theorem dX7_feedAll_29 : decode cX7_feedAll 29 = .ok (.ifCond .ge 5, 3) := by decide +kernel
theorem dX7_feedAll_32 : decode cX7_feedAll 32 = .ok (.iconst 0, 1) := by decide +kernel
theorem dX7_feedAll_33 : decode cX7_feedAll 33 = .ok (.ireturn, 1) := by decide +kernel
theorem dX7_feedAll_34 : decode cX7_feedAll 34 = .ok (.iinc 2 1, 3) := by decide +kernel
theorem dX7_feedAll_37 : decode cX7_feedAll 37 = .ok (.goto (-35), 3) := by decide +kernel
theorem dX7_feedAll_40 : decode cX7_feedAll 40 = .ok (.iconst 1, 1) := by decide +kernel
theorem dX7_feedAll_41 : decode cX7_feedAll 41 = .ok (.ireturn, 1) := by decide +kernel
theorem dX7_undo_0 : decode cX7_undo 0 = .ok (.aload_n 0, 1) := by decide +kernel
theorem dX7_undo_1 : decode cX7_undo 1 = .ok (.getfield 22, 3) := by decide +kernel
theorem dX7_undo_4 : decode cX7_undo 4 = .ok (.invokevirtual 271, 3) := by decide +kernel
theorem dX7_undo_7 : decode cX7_undo 7 = .ok (.astore_n 1, 1) := by decide +kernel
theorem dX7_undo_8 : decode cX7_undo 8 = .ok (.aload_n 1, 1) := by decide +kernel
theorem dX7_undo_9 : decode cX7_undo 9 = .ok (.ifnonnull 6, 3) := by decide +kernel
theorem dX7_undo_12 : decode cX7_undo 12 = .ok (.bipush (-5), 2) := by decide +kernel
theorem dX7_undo_14 : decode cX7_undo 14 = .ok (.ireturn, 1) := by decide +kernel
theorem dX7_undo_15 : decode cX7_undo 15 = .ok (.aload_n 0, 1) := by decide +kernel
theorem dX7_undo_16 : decode cX7_undo 16 = .ok (.getfield 10, 3) := by decide +kernel
theorem dX7_undo_19 : decode cX7_undo 19 = .ok (.aload_n 1, 1) := by decide +kernel
theorem dX7_undo_20 : decode cX7_undo 20 = .ok (.invokevirtual 214, 3) := by decide +kernel
theorem dX7_undo_23 : decode cX7_undo 23 = .ok (.aload_n 0, 1) := by decide +kernel
theorem dX7_undo_24 : decode cX7_undo 24 = .ok (.getfield 22, 3) := by decide +kernel
theorem dX7_undo_27 : decode cX7_undo 27 = .ok (.getfield 211, 3) := by decide +kernel
theorem dX7_undo_30 : decode cX7_undo 30 = .ok (.ireturn, 1) := by decide +kernel
theorem dX7_save_0 : decode cX7_save 0 = .ok (.aload_n 0, 1) := by decide +kernel
theorem dX7_save_1 : decode cX7_save 1 = .ok (.iload_n 1, 1) := by decide +kernel
theorem dX7_save_2 : decode cX7_save 2 = .ok (.invokevirtual 275, 3) := by decide +kernel
theorem dX7_save_5 : decode cX7_save 5 = .ok (.astore_n 2, 1) := by decide +kernel
theorem dX7_save_6 : decode cX7_save 6 = .ok (.aload_n 2, 1) := by decide +kernel
theorem dX7_save_7 : decode cX7_save 7 = .ok (.ifnonnull 6, 3) := by decide +kernel
theorem dX7_save_10 : decode cX7_save 10 = .ok (.bipush (-2), 2) := by decide +kernel
theorem dX7_save_12 : decode cX7_save 12 = .ok (.ireturn, 1) := by decide +kernel
theorem dX7_save_13 : decode cX7_save 13 = .ok (.aload_n 2, 1) := by decide +kernel
theorem dX7_save_14 : decode cX7_save 14 = .ok (.aload_n 0, 1) := by decide +kernel
theorem dX7_save_15 : decode cX7_save 15 = .ok (.getfield 10, 3) := by decide +kernel
theorem dX7_save_18 : decode cX7_save 18 = .ok (.invokevirtual 214, 3) := by decide +kernel
theorem dX7_save_21 : decode cX7_save 21 = .ok (.aload_n 0, 1) := by decide +kernel
theorem dX7_save_22 : decode cX7_save 22 = .ok (.getfield 30, 3) := by decide +kernel
theorem dX7_save_25 : decode cX7_save 25 = .ok (.iload_n 1, 1) := by decide +kernel
theorem dX7_save_26 : decode cX7_save 26 = .ok (.iconst 1, 1) := by decide +kernel
theorem dX7_save_27 : decode cX7_save 27 = .ok (.bastore, 1) := by decide +kernel
theorem dX7_save_28 : decode cX7_save 28 = .ok (.aload_n 0, 1) := by decide +kernel
theorem dX7_save_29 : decode cX7_save 29 = .ok (.getfield 10, 3) := by decide +kernel
theorem dX7_save_32 : decode cX7_save 32 = .ok (.getfield 98, 3) := by decide +kernel
theorem dX7_save_35 : decode cX7_save 35 = .ok (.ireturn, 1) := by decide +kernel
theorem dX7_restore_0 : decode cX7_restore 0 = .ok (.aload_n 0, 1) := by decide +kernel
theorem dX7_restore_1 : decode cX7_restore 1 = .ok (.iload_n 1, 1) := by decide +kernel
theorem dX7_restore_2 : decode cX7_restore 2 = .ok (.invokevirtual 275, 3) := by decide +kernel
theorem dX7_restore_5 : decode cX7_restore 5 = .ok (.astore_n 2, 1) := by decide +kernel
theorem dX7_restore_6 : decode cX7_restore 6 = .ok (.aload_n 2, 1) := by decide +kernel
theorem dX7_restore_7 : decode cX7_restore 7 = .ok (.ifnonnull 6, 3) := by decide +kernel
theorem dX7_restore_10 : decode cX7_restore 10 = .ok (.bipush (-2), 2) := by decide +kernel
theorem dX7_restore_12 : decode cX7_restore 12 = .ok (.ireturn, 1) := by decide +kernel
theorem dX7_restore_13 : decode cX7_restore 13 = .ok (.aload_n 0, 1) := by decide +kernel
theorem dX7_restore_14 : decode cX7_restore 14 = .ok (.getfield 30, 3) := by decide +kernel
theorem dX7_restore_17 : decode cX7_restore 17 = .ok (.iload_n 1, 1) := by decide +kernel
theorem dX7_restore_18 : decode cX7_restore 18 = .ok (.baload, 1) := by decide +kernel
theorem dX7_restore_19 : decode cX7_restore 19 = .ok (.ifCond .ne 6, 3) := by decide +kernel
theorem dX7_restore_22 : decode cX7_restore 22 = .ok (.bipush (-5), 2) := by decide +kernel
theorem dX7_restore_24 : decode cX7_restore 24 = .ok (.ireturn, 1) := by decide +kernel
theorem dX7_restore_25 : decode cX7_restore 25 = .ok (.aload_n 0, 1) := by decide +kernel
theorem dX7_restore_26 : decode cX7_restore 26 = .ok (.getfield 22, 3) := by decide +kernel
theorem dX7_restore_29 : decode cX7_restore 29 = .ok (.aload_n 0, 1) := by decide +kernel
theorem dX7_restore_30 : decode cX7_restore 30 = .ok (.getfield 10, 3) := by decide +kernel
theorem dX7_restore_33 : decode cX7_restore 33 = .ok (.invokevirtual 50, 3) := by decide +kernel
theorem dX7_restore_36 : decode cX7_restore 36 = .ok (.aload_n 0, 1) := by decide +kernel
theorem dX7_restore_37 : decode cX7_restore 37 = .ok (.getfield 10, 3) := by decide +kernel
theorem dX7_restore_40 : decode cX7_restore 40 = .ok (.aload_n 2, 1) := by decide +kernel
theorem dX7_restore_41 : decode cX7_restore 41 = .ok (.invokevirtual 214, 3) := by decide +kernel
theorem dX7_restore_44 : decode cX7_restore 44 = .ok (.aload_n 0, 1) := by decide +kernel
theorem dX7_restore_45 : decode cX7_restore 45 = .ok (.getfield 22, 3) := by decide +kernel
theorem dX7_restore_48 : decode cX7_restore 48 = .ok (.aload_n 0, 1) := by decide +kernel
theorem dX7_restore_49 : decode cX7_restore 49 = .ok (.getfield 10, 3) := by decide +kernel
theorem dX7_restore_52 : decode cX7_restore 52 = .ok (.getfield 98, 3) := by decide +kernel
theorem dX7_restore_55 : decode cX7_restore 55 = .ok (.invokevirtual 58, 3) := by decide +kernel
theorem dX7_restore_58 : decode cX7_restore 58 = .ok (.ireturn, 1) := by decide +kernel
theorem dX7_slotOf_0 : decode cX7_slotOf 0 = .ok (.iload_n 1, 1) := by decide +kernel
theorem dX7_slotOf_1 : decode cX7_slotOf 1 = .ok (.iconst 0, 1) := by decide +kernel
theorem dX7_slotOf_2 : decode cX7_slotOf 2 = .ok (.iconst 1, 1) := by decide +kernel
theorem dX7_slotOf_3 : decode cX7_slotOf 3 = .ok (.invokestatic 186, 3) := by decide +kernel
theorem dX7_slotOf_6 : decode cX7_slotOf 6 = .ok (.ifCond .eq 12, 3) := by decide +kernel
theorem dX7_slotOf_9 : decode cX7_slotOf 9 = .ok (.aload_n 0, 1) := by decide +kernel
theorem dX7_slotOf_10 : decode cX7_slotOf 10 = .ok (.getfield 26, 3) := by decide +kernel
theorem dX7_slotOf_13 : decode cX7_slotOf 13 = .ok (.iload_n 1, 1) := by decide +kernel
theorem dX7_slotOf_14 : decode cX7_slotOf 14 = .ok (.aaload, 1) := by decide +kernel
theorem dX7_slotOf_15 : decode cX7_slotOf 15 = .ok (.goto 4, 3) := by decide +kernel
theorem dX7_slotOf_18 : decode cX7_slotOf 18 = .ok (.aconst_null, 1) := by decide +kernel
theorem dX7_slotOf_19 : decode cX7_slotOf 19 = .ok (.areturn, 1) := by decide +kernel
theorem dX7_isBetween_0 : decode cX7_isBetween 0 = .ok (.iload_n 0, 1) := by decide +kernel
theorem dX7_isBetween_1 : decode cX7_isBetween 1 = .ok (.iload_n 1, 1) := by decide +kernel
theorem dX7_isBetween_2 : decode cX7_isBetween 2 = .ok (.if_icmp .lt 12, 3) := by decide +kernel
theorem dX7_isBetween_5 : decode cX7_isBetween 5 = .ok (.iload_n 0, 1) := by decide +kernel
theorem dX7_isBetween_6 : decode cX7_isBetween 6 = .ok (.iload_n 2, 1) := by decide +kernel
theorem dX7_isBetween_7 : decode cX7_isBetween 7 = .ok (.if_icmp .gt 7, 3) := by decide +kernel
theorem dX7_isBetween_10 : decode cX7_isBetween 10 = .ok (.iconst 1, 1) := by decide +kernel
theorem dX7_isBetween_11 : decode cX7_isBetween 11 = .ok (.goto 4, 3) := by decide +kernel
theorem dX7_isBetween_14 : decode cX7_isBetween 14 = .ok (.iconst 0, 1) := by decide +kernel
theorem dX7_isBetween_15 : decode cX7_isBetween 15 = .ok (.ireturn, 1) := by decide +kernel
theorem dX7_isValue_0 : decode cX7_isValue 0 = .ok (.iload_n 0, 1) := by decide +kernel
theorem dX7_isValue_1 : decode cX7_isValue 1 = .ok (.iconst 0, 1) := by decide +kernel
theorem dX7_isValue_2 : decode cX7_isValue 2 = .ok (.bipush 99, 2) := by decide +kernel
theorem dX7_isValue_4 : decode cX7_isValue 4 = .ok (.invokestatic 186, 3) := by decide +kernel
theorem dX7_isValue_7 : decode cX7_isValue 7 = .ok (.ireturn, 1) := by decide +kernel
theorem dX7_fits_0 : decode cX7_fits 0 = .ok (.iload_n 0, 1) := by decide +kernel
theorem dX7_fits_1 : decode cX7_fits 1 = .ok (.tableswitch 114 0 4 #[35, 63, 63, 77, 97], 35) := by decide +kernel
theorem dX7_fits_36 : decode cX7_fits 36 = .ok (.iload_n 1, 1) := by decide +kernel
theorem dX7_fits_37 : decode cX7_fits 37 = .ok (.iconst 1, 1) := by decide +kernel
theorem dX7_fits_38 : decode cX7_fits 38 = .ok (.sipush 500, 3) := by decide +kernel
theorem dX7_fits_41 : decode cX7_fits 41 = .ok (.invokestatic 186, 3) := by decide +kernel
theorem dX7_fits_44 : decode cX7_fits 44 = .ok (.ifCond .eq 18, 3) := by decide +kernel
theorem dX7_fits_47 : decode cX7_fits 47 = .ok (.iload_n 2, 1) := by decide +kernel
theorem dX7_fits_48 : decode cX7_fits 48 = .ok (.iconst 1, 1) := by decide +kernel
theorem dX7_fits_49 : decode cX7_fits 49 = .ok (.sipush 2000, 3) := by decide +kernel
theorem dX7_fits_52 : decode cX7_fits 52 = .ok (.invokestatic 186, 3) := by decide +kernel
theorem dX7_fits_55 : decode cX7_fits 55 = .ok (.ifCond .eq 7, 3) := by decide +kernel
theorem dX7_fits_58 : decode cX7_fits 58 = .ok (.iconst 1, 1) := by decide +kernel
theorem dX7_fits_59 : decode cX7_fits 59 = .ok (.goto 4, 3) := by decide +kernel
theorem dX7_fits_62 : decode cX7_fits 62 = .ok (.iconst 0, 1) := by decide +kernel
theorem dX7_fits_63 : decode cX7_fits 63 = .ok (.ireturn, 1) := by decide +kernel
theorem dX7_fits_64 : decode cX7_fits 64 = .ok (.iload_n 1, 1) := by decide +kernel
theorem dX7_fits_65 : decode cX7_fits 65 = .ok (.ifCond .ne 11, 3) := by decide +kernel
theorem dX7_fits_68 : decode cX7_fits 68 = .ok (.iload_n 2, 1) := by decide +kernel
theorem dX7_fits_69 : decode cX7_fits 69 = .ok (.ifCond .ne 7, 3) := by decide +kernel
theorem dX7_fits_72 : decode cX7_fits 72 = .ok (.iconst 1, 1) := by decide +kernel
theorem dX7_fits_73 : decode cX7_fits 73 = .ok (.goto 4, 3) := by decide +kernel
theorem dX7_fits_76 : decode cX7_fits 76 = .ok (.iconst 0, 1) := by decide +kernel
theorem dX7_fits_77 : decode cX7_fits 77 = .ok (.ireturn, 1) := by decide +kernel
theorem dX7_fits_78 : decode cX7_fits 78 = .ok (.iload_n 1, 1) := by decide +kernel
theorem dX7_fits_79 : decode cX7_fits 79 = .ok (.invokestatic 182, 3) := by decide +kernel
theorem dX7_fits_82 : decode cX7_fits 82 = .ok (.ifCond .eq 14, 3) := by decide +kernel
theorem dX7_fits_85 : decode cX7_fits 85 = .ok (.iload_n 2, 1) := by decide +kernel
theorem dX7_fits_86 : decode cX7_fits 86 = .ok (.invokestatic 182, 3) := by decide +kernel
theorem dX7_fits_89 : decode cX7_fits 89 = .ok (.ifCond .eq 7, 3) := by decide +kernel
theorem dX7_fits_92 : decode cX7_fits 92 = .ok (.iconst 1, 1) := by decide +kernel
theorem dX7_fits_93 : decode cX7_fits 93 = .ok (.goto 4, 3) := by decide +kernel
theorem dX7_fits_96 : decode cX7_fits 96 = .ok (.iconst 0, 1) := by decide +kernel
theorem dX7_fits_97 : decode cX7_fits 97 = .ok (.ireturn, 1) := by decide +kernel
theorem dX7_fits_98 : decode cX7_fits 98 = .ok (.iload_n 1, 1) := by decide +kernel
theorem dX7_fits_99 : decode cX7_fits 99 = .ok (.invokestatic 182, 3) := by decide +kernel
theorem dX7_fits_102 : decode cX7_fits 102 = .ok (.ifCond .eq 11, 3) := by decide +kernel
theorem dX7_fits_105 : decode cX7_fits 105 = .ok (.iload_n 2, 1) := by decide +kernel
theorem dX7_fits_106 : decode cX7_fits 106 = .ok (.ifCond .ne 7, 3) := by decide +kernel
theorem dX7_fits_109 : decode cX7_fits 109 = .ok (.iconst 1, 1) := by decide +kernel
theorem dX7_fits_110 : decode cX7_fits 110 = .ok (.goto 4, 3) := by decide +kernel
theorem dX7_fits_113 : decode cX7_fits 113 = .ok (.iconst 0, 1) := by decide +kernel
theorem dX7_fits_114 : decode cX7_fits 114 = .ok (.ireturn, 1) := by decide +kernel
theorem dX7_fits_115 : decode cX7_fits 115 = .ok (.iconst 0, 1) := by decide +kernel
theorem dX7_fits_116 : decode cX7_fits 116 = .ok (.ireturn, 1) := by decide +kernel
theorem dX7_signIn_0 : decode cX7_signIn 0 = .ok (.lload_n 0, 1) := by decide +kernel
theorem dX7_signIn_1 : decode cX7_signIn 1 = .ok (.bipush 8, 2) := by decide +kernel
theorem dX7_signIn_3 : decode cX7_signIn 3 = .ok (.iload_n 2, 1) := by decide +kernel
theorem dX7_signIn_4 : decode cX7_signIn 4 = .ok (.imul, 1) := by decide +kernel
theorem dX7_signIn_5 : decode cX7_signIn 5 = .ok (.lushr, 1) := by decide +kernel
theorem dX7_signIn_6 : decode cX7_signIn 6 = .ok (.ldc2_w 279, 3) := by decide +kernel
theorem dX7_signIn_9 : decode cX7_signIn 9 = .ok (.land, 1) := by decide +kernel
theorem dX7_signIn_10 : decode cX7_signIn 10 = .ok (.l2i, 1) := by decide +kernel
theorem dX7_signIn_11 : decode cX7_signIn 11 = .ok (.i2c, 1) := by decide +kernel
theorem dX7_signIn_12 : decode cX7_signIn 12 = .ok (.ireturn, 1) := by decide +kernel
theorem dX7_signsIn_0 : decode cX7_signsIn 0 = .ok (.iconst 0, 1) := by decide +kernel
theorem dX7_signsIn_1 : decode cX7_signsIn 1 = .ok (.istore_n 2, 1) := by decide +kernel
theorem dX7_signsIn_2 : decode cX7_signsIn 2 = .ok (.iload_n 2, 1) := by decide +kernel
theorem dX7_signsIn_3 : decode cX7_signsIn 3 = .ok (.bipush 8, 2) := by decide +kernel
theorem dX7_signsIn_5 : decode cX7_signsIn 5 = .ok (.if_icmp .ge 24, 3) := by decide +kernel
theorem dX7_signsIn_8 : decode cX7_signsIn 8 = .ok (.lload_n 0, 1) := by decide +kernel
theorem dX7_signsIn_9 : decode cX7_signsIn 9 = .ok (.iload_n 2, 1) := by decide +kernel
theorem dX7_signsIn_10 : decode cX7_signsIn 10 = .ok (.invokestatic 234, 3) := by decide +kernel
theorem dX7_signsIn_13 : decode cX7_signsIn 13 = .ok (.bipush 33, 2) := by decide +kernel
theorem dX7_signsIn_15 : decode cX7_signsIn 15 = .ok (.bipush 126, 2) := by decide +kernel
theorem dX7_signsIn_17 : decode cX7_signsIn 17 = .ok (.invokestatic 186, 3) := by decide +kernel
theorem dX7_signsIn_20 : decode cX7_signsIn 20 = .ok (.ifCond .eq 9, 3) := by decide +kernel
theorem dX7_signsIn_23 : decode cX7_signsIn 23 = .ok (.iinc 2 1, 3) := by decide +kernel
theorem dX7_signsIn_26 : decode cX7_signsIn 26 = .ok (.goto (-24), 3) := by decide +kernel
theorem dX7_signsIn_29 : decode cX7_signsIn 29 = .ok (.iload_n 2, 1) := by decide +kernel
theorem dX7_signsIn_30 : decode cX7_signsIn 30 = .ok (.bipush 8, 2) := by decide +kernel
theorem dX7_signsIn_32 : decode cX7_signsIn 32 = .ok (.if_icmp .ge 16, 3) := by decide +kernel
theorem dX7_signsIn_35 : decode cX7_signsIn 35 = .ok (.lload_n 0, 1) := by decide +kernel
theorem dX7_signsIn_36 : decode cX7_signsIn 36 = .ok (.bipush 8, 2) := by decide +kernel
theorem dX7_signsIn_38 : decode cX7_signsIn 38 = .ok (.iload_n 2, 1) := by decide +kernel
theorem dX7_signsIn_39 : decode cX7_signsIn 39 = .ok (.imul, 1) := by decide +kernel
theorem dX7_signsIn_40 : decode cX7_signsIn 40 = .ok (.lushr, 1) := by decide +kernel
theorem dX7_signsIn_41 : decode cX7_signsIn 41 = .ok (.lconst 0, 1) := by decide +kernel
theorem dX7_signsIn_42 : decode cX7_signsIn 42 = .ok (.lcmp, 1) := by decide +kernel
theorem dX7_signsIn_43 : decode cX7_signsIn 43 = .ok (.ifCond .eq 5, 3) := by decide +kernel
theorem dX7_signsIn_46 : decode cX7_signsIn 46 = .ok (.iconst 0, 1) := by decide +kernel
theorem dX7_signsIn_47 : decode cX7_signsIn 47 = .ok (.ireturn, 1) := by decide +kernel
theorem dX7_signsIn_48 : decode cX7_signsIn 48 = .ok (.iload_n 2, 1) := by decide +kernel
theorem dX7_signsIn_49 : decode cX7_signsIn 49 = .ok (.ireturn, 1) := by decide +kernel
theorem dX7_copyRow_0 : decode cX7_copyRow 0 = .ok (.aload_n 0, 1) := by decide +kernel
theorem dX7_copyRow_1 : decode cX7_copyRow 1 = .ok (.iconst 0, 1) := by decide +kernel
theorem dX7_copyRow_2 : decode cX7_copyRow 2 = .ok (.aload_n 1, 1) := by decide +kernel
theorem dX7_copyRow_3 : decode cX7_copyRow 3 = .ok (.iconst 0, 1) := by decide +kernel
theorem dX7_copyRow_4 : decode cX7_copyRow 4 = .ok (.aload_n 0, 1) := by decide +kernel
theorem dX7_copyRow_5 : decode cX7_copyRow 5 = .ok (.arraylength, 1) := by decide +kernel
theorem dX7_copyRow_6 : decode cX7_copyRow 6 = .ok (.aload_n 1, 1) := by decide +kernel
theorem dX7_copyRow_7 : decode cX7_copyRow 7 = .ok (.arraylength, 1) := by decide +kernel
theorem dX7_copyRow_8 : decode cX7_copyRow 8 = .ok (.invokestatic 281, 3) := by decide +kernel
theorem dX7_copyRow_11 : decode cX7_copyRow 11 = .ok (.invokestatic 286, 3) := by decide +kernel
theorem dX7_copyRow_14 : decode cX7_copyRow 14 = .ok (.return_, 1) := by decide +kernel
theorem dX7_turnRow_0 : decode cX7_turnRow 0 = .ok (.iload_n 1, 1) := by decide +kernel
theorem dX7_turnRow_1 : decode cX7_turnRow 1 = .ok (.iconst 1, 1) := by decide +kernel
theorem dX7_turnRow_2 : decode cX7_turnRow 2 = .ok (.if_icmp .lt 9, 3) := by decide +kernel
theorem dX7_turnRow_5 : decode cX7_turnRow 5 = .ok (.iload_n 1, 1) := by decide +kernel
theorem dX7_turnRow_6 : decode cX7_turnRow 6 = .ok (.aload_n 0, 1) := by decide +kernel
theorem dX7_turnRow_7 : decode cX7_turnRow 7 = .ok (.arraylength, 1) := by decide +kernel
theorem dX7_turnRow_8 : decode cX7_turnRow 8 = .ok (.if_icmp .le 4, 3) := by decide +kernel
theorem dX7_turnRow_11 : decode cX7_turnRow 11 = .ok (.return_, 1) := by decide +kernel
theorem dX7_turnRow_12 : decode cX7_turnRow 12 = .ok (.aload_n 0, 1) := by decide +kernel
theorem dX7_turnRow_13 : decode cX7_turnRow 13 = .ok (.iload_n 1, 1) := by decide +kernel
theorem dX7_turnRow_14 : decode cX7_turnRow 14 = .ok (.iconst 1, 1) := by decide +kernel
theorem dX7_turnRow_15 : decode cX7_turnRow 15 = .ok (.isub, 1) := by decide +kernel
theorem dX7_turnRow_16 : decode cX7_turnRow 16 = .ok (.iaload, 1) := by decide +kernel
theorem dX7_turnRow_17 : decode cX7_turnRow 17 = .ok (.istore_n 2, 1) := by decide +kernel
theorem dX7_turnRow_18 : decode cX7_turnRow 18 = .ok (.aload_n 0, 1) := by decide +kernel
theorem dX7_turnRow_19 : decode cX7_turnRow 19 = .ok (.iconst 0, 1) := by decide +kernel
theorem dX7_turnRow_20 : decode cX7_turnRow 20 = .ok (.aload_n 0, 1) := by decide +kernel
theorem dX7_turnRow_21 : decode cX7_turnRow 21 = .ok (.iconst 1, 1) := by decide +kernel
theorem dX7_turnRow_22 : decode cX7_turnRow 22 = .ok (.iload_n 1, 1) := by decide +kernel
theorem dX7_turnRow_23 : decode cX7_turnRow 23 = .ok (.iconst 1, 1) := by decide +kernel
theorem dX7_turnRow_24 : decode cX7_turnRow 24 = .ok (.isub, 1) := by decide +kernel
theorem dX7_turnRow_25 : decode cX7_turnRow 25 = .ok (.invokestatic 286, 3) := by decide +kernel
theorem dX7_turnRow_28 : decode cX7_turnRow 28 = .ok (.aload_n 0, 1) := by decide +kernel
theorem dX7_turnRow_29 : decode cX7_turnRow 29 = .ok (.iconst 0, 1) := by decide +kernel
theorem dX7_turnRow_30 : decode cX7_turnRow 30 = .ok (.iload_n 2, 1) := by decide +kernel
theorem dX7_turnRow_31 : decode cX7_turnRow 31 = .ok (.iastore, 1) := by decide +kernel
theorem dX7_turnRow_32 : decode cX7_turnRow 32 = .ok (.return_, 1) := by decide +kernel
