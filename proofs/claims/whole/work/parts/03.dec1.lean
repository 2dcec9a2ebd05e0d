theorem dX4_undoAct_46 : decode cX4_undoAct 46 = .ok (.invokevirtual 54, 3) := by decide +kernel
theorem dX4_undoAct_49 : decode cX4_undoAct 49 = .ok (.iconst 1, 1) := by decide +kernel
theorem dX4_undoAct_50 : decode cX4_undoAct 50 = .ok (.ireturn, 1) := by decide +kernel
theorem dX4_rowOfAct_0 : decode cX4_rowOfAct 0 = .ok (.aload_n 0, 1) := by decide +kernel
theorem dX4_rowOfAct_1 : decode cX4_rowOfAct 1 = .ok (.getfield 11, 3) := by decide +kernel
theorem dX4_rowOfAct_4 : decode cX4_rowOfAct 4 = .ok (.iload_n 1, 1) := by decide +kernel
theorem dX4_rowOfAct_5 : decode cX4_rowOfAct 5 = .ok (.aaload, 1) := by decide +kernel
theorem dX4_rowOfAct_6 : decode cX4_rowOfAct 6 = .ok (.astore_n 2, 1) := by decide +kernel
theorem dX4_rowOfAct_7 : decode cX4_rowOfAct 7 = .ok (.aload_n 2, 1) := by decide +kernel
theorem dX4_rowOfAct_8 : decode cX4_rowOfAct 8 = .ok (.ifnonnull 25, 3) := by decide +kernel
theorem dX4_rowOfAct_11 : decode cX4_rowOfAct 11 = .ok (.new 9, 3) := by decide +kernel
theorem dX4_rowOfAct_14 : decode cX4_rowOfAct 14 = .ok (.dup, 1) := by decide +kernel
theorem dX4_rowOfAct_15 : decode cX4_rowOfAct 15 = .ok (.aload_n 0, 1) := by decide +kernel
theorem dX4_rowOfAct_16 : decode cX4_rowOfAct 16 = .ok (.getfield 43, 3) := by decide +kernel
theorem dX4_rowOfAct_19 : decode cX4_rowOfAct 19 = .ok (.getfield 67, 3) := by decide +kernel
theorem dX4_rowOfAct_22 : decode cX4_rowOfAct 22 = .ok (.invokespecial 40, 3) := by decide +kernel
theorem dX4_rowOfAct_25 : decode cX4_rowOfAct 25 = .ok (.astore_n 2, 1) := by decide +kernel
theorem dX4_rowOfAct_26 : decode cX4_rowOfAct 26 = .ok (.aload_n 0, 1) := by decide +kernel
theorem dX4_rowOfAct_27 : decode cX4_rowOfAct 27 = .ok (.getfield 11, 3) := by decide +kernel
theorem dX4_rowOfAct_30 : decode cX4_rowOfAct 30 = .ok (.iload_n 1, 1) := by decide +kernel
theorem dX4_rowOfAct_31 : decode cX4_rowOfAct 31 = .ok (.aload_n 2, 1) := by decide +kernel
theorem dX4_rowOfAct_32 : decode cX4_rowOfAct 32 = .ok (.aastore, 1) := by decide +kernel
theorem dX4_rowOfAct_33 : decode cX4_rowOfAct 33 = .ok (.aload_n 2, 1) := by decide +kernel
theorem dX4_rowOfAct_34 : decode cX4_rowOfAct 34 = .ok (.areturn, 1) := by decide +kernel
theorem dX4_addNote_0 : decode cX4_addNote 0 = .ok (.aload_n 0, 1) := by decide +kernel
theorem dX4_addNote_1 : decode cX4_addNote 1 = .ok (.getfield 34, 3) := by decide +kernel
theorem dX4_addNote_4 : decode cX4_addNote 4 = .ok (.bipush 8, 2) := by decide +kernel
theorem dX4_addNote_6 : decode cX4_addNote 6 = .ok (.if_icmp .lt 5, 3) := by decide +kernel
theorem dX4_addNote_9 : decode cX4_addNote 9 = .ok (.iconst 0, 1) := by decide +kernel
theorem dX4_addNote_10 : decode cX4_addNote 10 = .ok (.ireturn, 1) := by decide +kernel
theorem dX4_addNote_11 : decode cX4_addNote 11 = .ok (.aload_n 0, 1) := by decide +kernel
theorem dX4_addNote_12 : decode cX4_addNote 12 = .ok (.getfield 24, 3) := by decide +kernel
theorem dX4_addNote_15 : decode cX4_addNote 15 = .ok (.aload_n 0, 1) := by decide +kernel
theorem dX4_addNote_16 : decode cX4_addNote 16 = .ok (.getfield 34, 3) := by decide +kernel
theorem dX4_addNote_19 : decode cX4_addNote 19 = .ok (.iload_n 1, 1) := by decide +kernel
theorem dX4_addNote_20 : decode cX4_addNote 20 = .ok (.iastore, 1) := by decide +kernel
theorem dX4_addNote_21 : decode cX4_addNote 21 = .ok (.aload_n 0, 1) := by decide +kernel
theorem dX4_addNote_22 : decode cX4_addNote 22 = .ok (.getfield 28, 3) := by decide +kernel
theorem dX4_addNote_25 : decode cX4_addNote 25 = .ok (.aload_n 0, 1) := by decide +kernel
theorem dX4_addNote_26 : decode cX4_addNote 26 = .ok (.getfield 34, 3) := by decide +kernel
theorem dX4_addNote_29 : decode cX4_addNote 29 = .ok (.iload_n 2, 1) := by decide +kernel
theorem dX4_addNote_30 : decode cX4_addNote 30 = .ok (.iastore, 1) := by decide +kernel
theorem dX4_addNote_31 : decode cX4_addNote 31 = .ok (.aload_n 0, 1) := by decide +kernel
theorem dX4_addNote_32 : decode cX4_addNote 32 = .ok (.getfield 31, 3) := by decide +kernel
theorem dX4_addNote_35 : decode cX4_addNote 35 = .ok (.aload_n 0, 1) := by decide +kernel
theorem dX4_addNote_36 : decode cX4_addNote 36 = .ok (.getfield 34, 3) := by decide +kernel
theorem dX4_addNote_39 : decode cX4_addNote 39 = .ok (.iload_n 3, 1) := by decide +kernel
theorem dX4_addNote_40 : decode cX4_addNote 40 = .ok (.iastore, 1) := by decide +kernel
theorem dX4_addNote_41 : decode cX4_addNote 41 = .ok (.aload_n 0, 1) := by decide +kernel
theorem dX4_addNote_42 : decode cX4_addNote 42 = .ok (.dup, 1) := by decide +kernel
theorem dX4_addNote_43 : decode cX4_addNote 43 = .ok (.getfield 34, 3) := by decide +kernel
theorem dX4_addNote_46 : decode cX4_addNote 46 = .ok (.iconst 1, 1) := by decide +kernel
theorem dX4_addNote_47 : decode cX4_addNote 47 = .ok (.iadd, 1) := by decide +kernel
theorem dX4_addNote_48 : decode cX4_addNote 48 = .ok (.putfield 34, 3) := by decide +kernel
theorem dX4_addNote_51 : decode cX4_addNote 51 = .ok (.iconst 1, 1) := by decide +kernel
theorem dX4_addNote_52 : decode cX4_addNote 52 = .ok (.ireturn, 1) := by decide +kernel
theorem dX4_farthestNote_0 : decode cX4_farthestNote 0 = .ok (.iconst 0, 1) := by decide +kernel
theorem dX4_farthestNote_1 : decode cX4_farthestNote 1 = .ok (.istore_n 1, 1) := by decide +kernel
theorem dX4_farthestNote_2 : decode cX4_farthestNote 2 = .ok (.iconst 0, 1) := by decide +kernel
theorem dX4_farthestNote_3 : decode cX4_farthestNote 3 = .ok (.istore_n 2, 1) := by decide +kernel
theorem dX4_farthestNote_4 : decode cX4_farthestNote 4 = .ok (.iload_n 2, 1) := by decide +kernel
theorem dX4_farthestNote_5 : decode cX4_farthestNote 5 = .ok (.aload_n 0, 1) := by decide +kernel
theorem dX4_farthestNote_6 : decode cX4_farthestNote 6 = .ok (.getfield 34, 3) := by decide +kernel
theorem dX4_farthestNote_9 : decode cX4_farthestNote 9 = .ok (.if_icmp .ge 20, 3) := by decide +kernel
theorem dX4_farthestNote_12 : decode cX4_farthestNote 12 = .ok (.iload_n 1, 1) := by decide +kernel
theorem dX4_farthestNote_13 : decode cX4_farthestNote 13 = .ok (.aload_n 0, 1) := by decide +kernel
theorem dX4_farthestNote_14 : decode cX4_farthestNote 14 = .ok (.getfield 28, 3) := by decide +kernel
theorem dX4_farthestNote_17 : decode cX4_farthestNote 17 = .ok (.iload_n 2, 1) := by decide +kernel
theorem dX4_farthestNote_18 : decode cX4_farthestNote 18 = .ok (.iaload, 1) := by decide +kernel
theorem dX4_farthestNote_19 : decode cX4_farthestNote 19 = .ok (.invokestatic 71, 3) := by decide +kernel
theorem dX4_farthestNote_22 : decode cX4_farthestNote 22 = .ok (.istore_n 1, 1) := by decide +kernel
theorem dX4_farthestNote_23 : decode cX4_farthestNote 23 = .ok (.iinc 2 1, 3) := by decide +kernel
theorem dX4_farthestNote_26 : decode cX4_farthestNote 26 = .ok (.goto (-22), 3) := by decide +kernel
theorem dX4_farthestNote_29 : decode cX4_farthestNote 29 = .ok (.iload_n 1, 1) := by decide +kernel
theorem dX4_farthestNote_30 : decode cX4_farthestNote 30 = .ok (.ireturn, 1) := by decide +kernel
theorem dX4_notesAgree_0 : decode cX4_notesAgree 0 = .ok (.iconst 0, 1) := by decide +kernel
theorem dX4_notesAgree_1 : decode cX4_notesAgree 1 = .ok (.istore_n 3, 1) := by decide +kernel
theorem dX4_notesAgree_2 : decode cX4_notesAgree 2 = .ok (.iload_n 3, 1) := by decide +kernel
theorem dX4_notesAgree_3 : decode cX4_notesAgree 3 = .ok (.aload_n 0, 1) := by decide +kernel
theorem dX4_notesAgree_4 : decode cX4_notesAgree 4 = .ok (.getfield 34, 3) := by decide +kernel
theorem dX4_notesAgree_7 : decode cX4_notesAgree 7 = .ok (.if_icmp .ge 41, 3) := by decide +kernel
theorem dX4_notesAgree_10 : decode cX4_notesAgree 10 = .ok (.aload_n 0, 1) := by decide +kernel
theorem dX4_notesAgree_11 : decode cX4_notesAgree 11 = .ok (.getfield 28, 3) := by decide +kernel
theorem dX4_notesAgree_14 : decode cX4_notesAgree 14 = .ok (.iload_n 3, 1) := by decide +kernel
theorem dX4_notesAgree_15 : decode cX4_notesAgree 15 = .ok (.iaload, 1) := by decide +kernel
theorem dX4_notesAgree_16 : decode cX4_notesAgree 16 = .ok (.iload_n 2, 1) := by decide +kernel
theorem dX4_notesAgree_17 : decode cX4_notesAgree 17 = .ok (.if_icmp .ne 25, 3) := by decide +kernel
theorem dX4_notesAgree_20 : decode cX4_notesAgree 20 = .ok (.aload_n 0, 1) := by decide +kernel
theorem dX4_notesAgree_21 : decode cX4_notesAgree 21 = .ok (.getfield 31, 3) := by decide +kernel
theorem dX4_notesAgree_24 : decode cX4_notesAgree 24 = .ok (.iload_n 3, 1) := by decide +kernel
theorem dX4_notesAgree_25 : decode cX4_notesAgree 25 = .ok (.iaload, 1) := by decide +kernel
theorem dX4_notesAgree_26 : decode cX4_notesAgree 26 = .ok (.aload_n 1, 1) := by decide +kernel
theorem dX4_notesAgree_27 : decode cX4_notesAgree 27 = .ok (.getfield 74, 3) := by decide +kernel
theorem dX4_notesAgree_30 : decode cX4_notesAgree 30 = .ok (.aload_n 0, 1) := by decide +kernel
theorem dX4_notesAgree_31 : decode cX4_notesAgree 31 = .ok (.getfield 24, 3) := by decide +kernel
theorem dX4_notesAgree_34 : decode cX4_notesAgree 34 = .ok (.iload_n 3, 1) := by decide +kernel
theorem dX4_notesAgree_35 : decode cX4_notesAgree 35 = .ok (.iaload, 1) := by decide +kernel
theorem dX4_notesAgree_36 : decode cX4_notesAgree 36 = .ok (.iaload, 1) := by decide +kernel
theorem dX4_notesAgree_37 : decode cX4_notesAgree 37 = .ok (.if_icmp .eq 5, 3) := by decide +kernel
theorem dX4_notesAgree_40 : decode cX4_notesAgree 40 = .ok (.iconst 0, 1) := by decide +kernel
theorem dX4_notesAgree_41 : decode cX4_notesAgree 41 = .ok (.ireturn, 1) := by decide +kernel
theorem dX4_notesAgree_42 : decode cX4_notesAgree 42 = .ok (.iinc 3 1, 3) := by decide +kernel
theorem dX4_notesAgree_45 : decode cX4_notesAgree 45 = .ok (.goto (-43), 3) := by decide +kernel
theorem dX4_notesAgree_48 : decode cX4_notesAgree 48 = .ok (.iconst 1, 1) := by decide +kernel
theorem dX4_notesAgree_49 : decode cX4_notesAgree 49 = .ok (.ireturn, 1) := by decide +kernel
theorem dX4_copyFrom_0 : decode cX4_copyFrom 0 = .ok (.aload_n 0, 1) := by decide +kernel
theorem dX4_copyFrom_1 : decode cX4_copyFrom 1 = .ok (.getfield 43, 3) := by decide +kernel
theorem dX4_copyFrom_4 : decode cX4_copyFrom 4 = .ok (.aload_n 1, 1) := by decide +kernel
theorem dX4_copyFrom_5 : decode cX4_copyFrom 5 = .ok (.getfield 43, 3) := by decide +kernel
theorem dX4_copyFrom_8 : decode cX4_copyFrom 8 = .ok (.invokevirtual 54, 3) := by decide +kernel
theorem dX4_copyFrom_11 : decode cX4_copyFrom 11 = .ok (.aload_n 0, 1) := by decide +kernel
theorem dX4_copyFrom_12 : decode cX4_copyFrom 12 = .ok (.aload_n 1, 1) := by decide +kernel
theorem dX4_copyFrom_13 : decode cX4_copyFrom 13 = .ok (.getfield 17, 3) := by decide +kernel
theorem dX4_copyFrom_16 : decode cX4_copyFrom 16 = .ok (.putfield 17, 3) := by decide +kernel
theorem dX4_copyFrom_19 : decode cX4_copyFrom 19 = .ok (.aload_n 0, 1) := by decide +kernel
theorem dX4_copyFrom_20 : decode cX4_copyFrom 20 = .ok (.aload_n 1, 1) := by decide +kernel
theorem dX4_copyFrom_21 : decode cX4_copyFrom 21 = .ok (.getfield 21, 3) := by decide +kernel
theorem dX4_copyFrom_24 : decode cX4_copyFrom 24 = .ok (.putfield 21, 3) := by decide +kernel
theorem dX4_copyFrom_27 : decode cX4_copyFrom 27 = .ok (.iconst 1, 1) := by decide +kernel
theorem dX4_copyFrom_28 : decode cX4_copyFrom 28 = .ok (.istore_n 2, 1) := by decide +kernel
theorem dX4_copyFrom_29 : decode cX4_copyFrom 29 = .ok (.iload_n 2, 1) := by decide +kernel
theorem dX4_copyFrom_30 : decode cX4_copyFrom 30 = .ok (.aload_n 0, 1) := by decide +kernel
theorem dX4_copyFrom_31 : decode cX4_copyFrom 31 = .ok (.getfield 21, 3) := by decide +kernel
theorem dX4_copyFrom_34 : decode cX4_copyFrom 34 = .ok (.if_icmp .gt 34, 3) := by decide +kernel
theorem dX4_copyFrom_37 : decode cX4_copyFrom 37 = .ok (.aload_n 0, 1) := by decide +kernel
theorem dX4_copyFrom_38 : decode cX4_copyFrom 38 = .ok (.getfield 17, 3) := by decide +kernel
theorem dX4_copyFrom_41 : decode cX4_copyFrom 41 = .ok (.iload_n 2, 1) := by decide +kernel
theorem dX4_copyFrom_42 : decode cX4_copyFrom 42 = .ok (.isub, 1) := by decide +kernel
theorem dX4_copyFrom_43 : decode cX4_copyFrom 43 = .ok (.bipush 40, 2) := by decide +kernel
theorem dX4_copyFrom_45 : decode cX4_copyFrom 45 = .ok (.invokestatic 64, 3) := by decide +kernel
theorem dX4_copyFrom_48 : decode cX4_copyFrom 48 = .ok (.istore_n 3, 1) := by decide +kernel
theorem dX4_copyFrom_49 : decode cX4_copyFrom 49 = .ok (.aload_n 0, 1) := by decide +kernel
theorem dX4_copyFrom_50 : decode cX4_copyFrom 50 = .ok (.iload_n 3, 1) := by decide +kernel
theorem dX4_copyFrom_51 : decode cX4_copyFrom 51 = .ok (.invokevirtual 50, 3) := by decide +kernel
theorem dX4_copyFrom_54 : decode cX4_copyFrom 54 = .ok (.aload_n 1, 1) := by decide +kernel
theorem dX4_copyFrom_55 : decode cX4_copyFrom 55 = .ok (.iload_n 3, 1) := by decide +kernel
theorem dX4_copyFrom_56 : decode cX4_copyFrom 56 = .ok (.invokevirtual 50, 3) := by decide +kernel
theorem dX4_copyFrom_59 : decode cX4_copyFrom 59 = .ok (.invokevirtual 54, 3) := by decide +kernel
theorem dX4_copyFrom_62 : decode cX4_copyFrom 62 = .ok (.iinc 2 1, 3) := by decide +kernel
theorem dX4_copyFrom_65 : decode cX4_copyFrom 65 = .ok (.goto (-36), 3) := by decide +kernel
theorem dX4_copyFrom_68 : decode cX4_copyFrom 68 = .ok (.aload_n 0, 1) := by decide +kernel
theorem dX4_copyFrom_69 : decode cX4_copyFrom 69 = .ok (.aload_n 1, 1) := by decide +kernel
theorem dX4_copyFrom_70 : decode cX4_copyFrom 70 = .ok (.getfield 34, 3) := by decide +kernel
theorem dX4_copyFrom_73 : decode cX4_copyFrom 73 = .ok (.putfield 34, 3) := by decide +kernel
theorem dX4_copyFrom_76 : decode cX4_copyFrom 76 = .ok (.aload_n 1, 1) := by decide +kernel
theorem dX4_copyFrom_77 : decode cX4_copyFrom 77 = .ok (.getfield 24, 3) := by decide +kernel
theorem dX4_copyFrom_80 : decode cX4_copyFrom 80 = .ok (.iconst 0, 1) := by decide +kernel
theorem dX4_copyFrom_81 : decode cX4_copyFrom 81 = .ok (.aload_n 0, 1) := by decide +kernel
theorem dX4_copyFrom_82 : decode cX4_copyFrom 82 = .ok (.getfield 24, 3) := by decide +kernel
theorem dX4_copyFrom_85 : decode cX4_copyFrom 85 = .ok (.iconst 0, 1) := by decide +kernel
theorem dX4_copyFrom_86 : decode cX4_copyFrom 86 = .ok (.bipush 8, 2) := by decide +kernel
theorem dX4_copyFrom_88 : decode cX4_copyFrom 88 = .ok (.invokestatic 77, 3) := by decide +kernel
theorem dX4_copyFrom_91 : decode cX4_copyFrom 91 = .ok (.aload_n 1, 1) := by decide +kernel
theorem dX4_copyFrom_92 : decode cX4_copyFrom 92 = .ok (.getfield 28, 3) := by decide +kernel
theorem dX4_copyFrom_95 : decode cX4_copyFrom 95 = .ok (.iconst 0, 1) := by decide +kernel
theorem dX4_copyFrom_96 : decode cX4_copyFrom 96 = .ok (.aload_n 0, 1) := by decide +kernel
theorem dX4_copyFrom_97 : decode cX4_copyFrom 97 = .ok (.getfield 28, 3) := by decide +kernel
theorem dX4_copyFrom_100 : decode cX4_copyFrom 100 = .ok (.iconst 0, 1) := by decide +kernel
theorem dX4_copyFrom_101 : decode cX4_copyFrom 101 = .ok (.bipush 8, 2) := by decide +kernel
theorem dX4_copyFrom_103 : decode cX4_copyFrom 103 = .ok (.invokestatic 77, 3) := by decide +kernel
theorem dX4_copyFrom_106 : decode cX4_copyFrom 106 = .ok (.aload_n 1, 1) := by decide +kernel
theorem dX4_copyFrom_107 : decode cX4_copyFrom 107 = .ok (.getfield 31, 3) := by decide +kernel
theorem dX4_copyFrom_110 : decode cX4_copyFrom 110 = .ok (.iconst 0, 1) := by decide +kernel
theorem dX4_copyFrom_111 : decode cX4_copyFrom 111 = .ok (.aload_n 0, 1) := by decide +kernel
theorem dX4_copyFrom_112 : decode cX4_copyFrom 112 = .ok (.getfield 31, 3) := by decide +kernel
theorem dX4_copyFrom_115 : decode cX4_copyFrom 115 = .ok (.iconst 0, 1) := by decide +kernel
theorem dX4_copyFrom_116 : decode cX4_copyFrom 116 = .ok (.bipush 8, 2) := by decide +kernel
theorem dX4_copyFrom_118 : decode cX4_copyFrom 118 = .ok (.invokestatic 77, 3) := by decide +kernel
theorem dX4_copyFrom_121 : decode cX4_copyFrom 121 = .ok (.aload_n 1, 1) := by decide +kernel
theorem dX4_copyFrom_122 : decode cX4_copyFrom 122 = .ok (.getfield 37, 3) := by decide +kernel
theorem dX4_copyFrom_125 : decode cX4_copyFrom 125 = .ok (.iconst 0, 1) := by decide +kernel
theorem dX4_copyFrom_126 : decode cX4_copyFrom 126 = .ok (.aload_n 0, 1) := by decide +kernel
theorem dX4_copyFrom_127 : decode cX4_copyFrom 127 = .ok (.getfield 37, 3) := by decide +kernel
theorem dX4_copyFrom_130 : decode cX4_copyFrom 130 = .ok (.iconst 0, 1) := by decide +kernel
theorem dX4_copyFrom_131 : decode cX4_copyFrom 131 = .ok (.iconst 3, 1) := by decide +kernel
theorem dX4_copyFrom_132 : decode cX4_copyFrom 132 = .ok (.invokestatic 77, 3) := by decide +kernel
theorem dX4_copyFrom_135 : decode cX4_copyFrom 135 = .ok (.return_, 1) := by decide +kernel
theorem dX5_init_0 : decode cX5_init 0 = .ok (.aload_n 0, 1) := by decide +kernel
theorem dX5_init_1 : decode cX5_init 1 = .ok (.invokespecial 3, 3) := by decide +kernel
theorem dX5_init_4 : decode cX5_init 4 = .ok (.aload_n 0, 1) := by decide +kernel
theorem dX5_init_5 : decode cX5_init 5 = .ok (.iconst 5, 1) := by decide +kernel
theorem dX5_init_6 : decode cX5_init 6 = .ok (.anewarray 9, 3) := by decide +kernel
theorem dX5_init_9 : decode cX5_init 9 = .ok (.putfield 11, 3) := by decide +kernel
theorem dX5_init_12 : decode cX5_init 12 = .ok (.aload_n 0, 1) := by decide +kernel
theorem dX5_init_13 : decode cX5_init 13 = .ok (.bipush 10, 2) := by decide +kernel
theorem dX5_init_15 : decode cX5_init 15 = .ok (.anewarray 17, 3) := by decide +kernel
theorem dX5_init_18 : decode cX5_init 18 = .ok (.putfield 19, 3) := by decide +kernel
theorem dX5_init_21 : decode cX5_init 21 = .ok (.aload_n 0, 1) := by decide +kernel
theorem dX5_init_22 : decode cX5_init 22 = .ok (.bipush 6, 2) := by decide +kernel
theorem dX5_init_24 : decode cX5_init 24 = .ok (.anewarray 23, 3) := by decide +kernel
theorem dX5_init_27 : decode cX5_init 27 = .ok (.putfield 25, 3) := by decide +kernel
theorem dX5_init_30 : decode cX5_init 30 = .ok (.aload_n 0, 1) := by decide +kernel
theorem dX5_init_31 : decode cX5_init 31 = .ok (.bipush 60, 2) := by decide +kernel
theorem dX5_init_33 : decode cX5_init 33 = .ok (.anewarray 29, 3) := by decide +kernel
theorem dX5_init_36 : decode cX5_init 36 = .ok (.putfield 31, 3) := by decide +kernel
theorem dX5_init_39 : decode cX5_init 39 = .ok (.aload_n 0, 1) := by decide +kernel
theorem dX5_init_40 : decode cX5_init 40 = .ok (.bipush 8, 2) := by decide +kernel
theorem dX5_init_42 : decode cX5_init 42 = .ok (.anewarray 35, 3) := by decide +kernel
theorem dX5_init_45 : decode cX5_init 45 = .ok (.putfield 37, 3) := by decide +kernel
theorem dX5_init_48 : decode cX5_init 48 = .ok (.aload_n 0, 1) := by decide +kernel
theorem dX5_init_49 : decode cX5_init 49 = .ok (.iconst 0, 1) := by decide +kernel
theorem dX5_init_50 : decode cX5_init 50 = .ok (.putfield 41, 3) := by decide +kernel
theorem dX5_init_53 : decode cX5_init 53 = .ok (.aload_n 0, 1) := by decide +kernel
theorem dX5_init_54 : decode cX5_init 54 = .ok (.iconst 0, 1) := by decide +kernel
theorem dX5_init_55 : decode cX5_init 55 = .ok (.putfield 45, 3) := by decide +kernel
theorem dX5_init_58 : decode cX5_init 58 = .ok (.aload_n 0, 1) := by decide +kernel
theorem dX5_init_59 : decode cX5_init 59 = .ok (.iconst 0, 1) := by decide +kernel
theorem dX5_init_60 : decode cX5_init 60 = .ok (.putfield 48, 3) := by decide +kernel
theorem dX5_init_63 : decode cX5_init 63 = .ok (.aload_n 0, 1) := by decide +kernel
theorem dX5_init_64 : decode cX5_init 64 = .ok (.iconst 0, 1) := by decide +kernel
theorem dX5_init_65 : decode cX5_init 65 = .ok (.putfield 51, 3) := by decide +kernel
theorem dX5_init_68 : decode cX5_init 68 = .ok (.aload_n 0, 1) := by decide +kernel
theorem dX5_init_69 : decode cX5_init 69 = .ok (.iconst 0, 1) := by decide +kernel
theorem dX5_init_70 : decode cX5_init 70 = .ok (.putfield 54, 3) := by decide +kernel
theorem dX5_init_73 : decode cX5_init 73 = .ok (.aload_n 0, 1) := by decide +kernel
theorem dX5_init_74 : decode cX5_init 74 = .ok (.iconst 0, 1) := by decide +kernel
theorem dX5_init_75 : decode cX5_init 75 = .ok (.putfield 57, 3) := by decide +kernel
theorem dX5_init_78 : decode cX5_init 78 = .ok (.aload_n 0, 1) := by decide +kernel
theorem dX5_init_79 : decode cX5_init 79 = .ok (.iconst 0, 1) := by decide +kernel
theorem dX5_init_80 : decode cX5_init 80 = .ok (.putfield 60, 3) := by decide +kernel
theorem dX5_init_83 : decode cX5_init 83 = .ok (.iconst 0, 1) := by decide +kernel
theorem dX5_init_84 : decode cX5_init 84 = .ok (.istore_n 1, 1) := by decide +kernel
theorem dX5_init_85 : decode cX5_init 85 = .ok (.iload_n 1, 1) := by decide +kernel
theorem dX5_init_86 : decode cX5_init 86 = .ok (.iconst 5, 1) := by decide +kernel
theorem dX5_init_87 : decode cX5_init 87 = .ok (.if_icmp .ge 22, 3) := by decide +kernel
theorem dX5_init_90 : decode cX5_init 90 = .ok (.aload_n 0, 1) := by decide +kernel
theorem dX5_init_91 : decode cX5_init 91 = .ok (.getfield 11, 3) := by decide +kernel
theorem dX5_init_94 : decode cX5_init 94 = .ok (.iload_n 1, 1) := by decide +kernel
theorem dX5_init_95 : decode cX5_init 95 = .ok (.new 9, 3) := by decide +kernel
theorem dX5_init_98 : decode cX5_init 98 = .ok (.dup, 1) := by decide +kernel
theorem dX5_init_99 : decode cX5_init 99 = .ok (.invokespecial 64, 3) := by decide +kernel
theorem dX5_init_102 : decode cX5_init 102 = .ok (.aastore, 1) := by decide +kernel
theorem dX5_init_103 : decode cX5_init 103 = .ok (.iinc 1 1, 3) := by decide +kernel
theorem dX5_init_106 : decode cX5_init 106 = .ok (.goto (-21), 3) := by decide +kernel
theorem dX5_init_109 : decode cX5_init 109 = .ok (.iconst 0, 1) := by decide +kernel
theorem dX5_init_110 : decode cX5_init 110 = .ok (.istore_n 1, 1) := by decide +kernel
theorem dX5_init_111 : decode cX5_init 111 = .ok (.iload_n 1, 1) := by decide +kernel
theorem dX5_init_112 : decode cX5_init 112 = .ok (.bipush 10, 2) := by decide +kernel
theorem dX5_init_114 : decode cX5_init 114 = .ok (.if_icmp .ge 22, 3) := by decide +kernel
theorem dX5_init_117 : decode cX5_init 117 = .ok (.aload_n 0, 1) := by decide +kernel
theorem dX5_init_118 : decode cX5_init 118 = .ok (.getfield 19, 3) := by decide +kernel
theorem dX5_init_121 : decode cX5_init 121 = .ok (.iload_n 1, 1) := by decide +kernel
theorem dX5_init_122 : decode cX5_init 122 = .ok (.new 17, 3) := by decide +kernel
theorem dX5_init_125 : decode cX5_init 125 = .ok (.dup, 1) := by decide +kernel
theorem dX5_init_126 : decode cX5_init 126 = .ok (.invokespecial 65, 3) := by decide +kernel
theorem dX5_init_129 : decode cX5_init 129 = .ok (.aastore, 1) := by decide +kernel
theorem dX5_init_130 : decode cX5_init 130 = .ok (.iinc 1 1, 3) := by decide +kernel
theorem dX5_init_133 : decode cX5_init 133 = .ok (.goto (-22), 3) := by decide +kernel
theorem dX5_init_136 : decode cX5_init 136 = .ok (.iconst 0, 1) := by decide +kernel
theorem dX5_init_137 : decode cX5_init 137 = .ok (.istore_n 1, 1) := by decide +kernel
theorem dX5_init_138 : decode cX5_init 138 = .ok (.iload_n 1, 1) := by decide +kernel
theorem dX5_init_139 : decode cX5_init 139 = .ok (.bipush 6, 2) := by decide +kernel
theorem dX5_init_141 : decode cX5_init 141 = .ok (.if_icmp .ge 22, 3) := by decide +kernel
theorem dX5_init_144 : decode cX5_init 144 = .ok (.aload_n 0, 1) := by decide +kernel
theorem dX5_init_145 : decode cX5_init 145 = .ok (.getfield 25, 3) := by decide +kernel
theorem dX5_init_148 : decode cX5_init 148 = .ok (.iload_n 1, 1) := by decide +kernel
theorem dX5_init_149 : decode cX5_init 149 = .ok (.new 23, 3) := by decide +kernel
theorem dX5_init_152 : decode cX5_init 152 = .ok (.dup, 1) := by decide +kernel
theorem dX5_init_153 : decode cX5_init 153 = .ok (.invokespecial 66, 3) := by decide +kernel
theorem dX5_init_156 : decode cX5_init 156 = .ok (.aastore, 1) := by decide +kernel
theorem dX5_init_157 : decode cX5_init 157 = .ok (.iinc 1 1, 3) := by decide +kernel
theorem dX5_init_160 : decode cX5_init 160 = .ok (.goto (-22), 3) := by decide +kernel
theorem dX5_init_163 : decode cX5_init 163 = .ok (.iconst 0, 1) := by decide +kernel
theorem dX5_init_164 : decode cX5_init 164 = .ok (.istore_n 1, 1) := by decide +kernel
theorem dX5_init_165 : decode cX5_init 165 = .ok (.iload_n 1, 1) := by decide +kernel
theorem dX5_init_166 : decode cX5_init 166 = .ok (.bipush 60, 2) := by decide +kernel
theorem dX5_init_168 : decode cX5_init 168 = .ok (.if_icmp .ge 22, 3) := by decide +kernel
theorem dX5_init_171 : decode cX5_init 171 = .ok (.aload_n 0, 1) := by decide +kernel
theorem dX5_init_172 : decode cX5_init 172 = .ok (.getfield 31, 3) := by decide +kernel
theorem dX5_init_175 : decode cX5_init 175 = .ok (.iload_n 1, 1) := by decide +kernel
theorem dX5_init_176 : decode cX5_init 176 = .ok (.new 29, 3) := by decide +kernel
theorem dX5_init_179 : decode cX5_init 179 = .ok (.dup, 1) := by decide +kernel
theorem dX5_init_180 : decode cX5_init 180 = .ok (.invokespecial 67, 3) := by decide +kernel
theorem dX5_init_183 : decode cX5_init 183 = .ok (.aastore, 1) := by decide +kernel
theorem dX5_init_184 : decode cX5_init 184 = .ok (.iinc 1 1, 3) := by decide +kernel
theorem dX5_init_187 : decode cX5_init 187 = .ok (.goto (-22), 3) := by decide +kernel
theorem dX5_init_190 : decode cX5_init 190 = .ok (.iconst 0, 1) := by decide +kernel
theorem dX5_init_191 : decode cX5_init 191 = .ok (.istore_n 1, 1) := by decide +kernel
theorem dX5_init_192 : decode cX5_init 192 = .ok (.iload_n 1, 1) := by decide +kernel
theorem dX5_init_193 : decode cX5_init 193 = .ok (.bipush 8, 2) := by decide +kernel
theorem dX5_init_195 : decode cX5_init 195 = .ok (.if_icmp .ge 22, 3) := by decide +kernel
theorem dX5_init_198 : decode cX5_init 198 = .ok (.aload_n 0, 1) := by decide +kernel
theorem dX5_init_199 : decode cX5_init 199 = .ok (.getfield 37, 3) := by decide +kernel
theorem dX5_init_202 : decode cX5_init 202 = .ok (.iload_n 1, 1) := by decide +kernel
theorem dX5_init_203 : decode cX5_init 203 = .ok (.new 35, 3) := by decide +kernel
theorem dX5_init_206 : decode cX5_init 206 = .ok (.dup, 1) := by decide +kernel
theorem dX5_init_207 : decode cX5_init 207 = .ok (.invokespecial 68, 3) := by decide +kernel
theorem dX5_init_210 : decode cX5_init 210 = .ok (.aastore, 1) := by decide +kernel
theorem dX5_init_211 : decode cX5_init 211 = .ok (.iinc 1 1, 3) := by decide +kernel
theorem dX5_init_214 : decode cX5_init 214 = .ok (.goto (-22), 3) := by decide +kernel
theorem dX5_init_217 : decode cX5_init 217 = .ok (.return_, 1) := by decide +kernel
theorem dX5_clear_0 : decode cX5_clear 0 = .ok (.aload_n 0, 1) := by decide +kernel
theorem dX5_clear_1 : decode cX5_clear 1 = .ok (.iconst 0, 1) := by decide +kernel
theorem dX5_clear_2 : decode cX5_clear 2 = .ok (.putfield 41, 3) := by decide +kernel
theorem dX5_clear_5 : decode cX5_clear 5 = .ok (.aload_n 0, 1) := by decide +kernel
theorem dX5_clear_6 : decode cX5_clear 6 = .ok (.iconst 0, 1) := by decide +kernel
theorem dX5_clear_7 : decode cX5_clear 7 = .ok (.putfield 45, 3) := by decide +kernel
theorem dX5_clear_10 : decode cX5_clear 10 = .ok (.aload_n 0, 1) := by decide +kernel
theorem dX5_clear_11 : decode cX5_clear 11 = .ok (.iconst 0, 1) := by decide +kernel
theorem dX5_clear_12 : decode cX5_clear 12 = .ok (.putfield 48, 3) := by decide +kernel
theorem dX5_clear_15 : decode cX5_clear 15 = .ok (.aload_n 0, 1) := by decide +kernel
theorem dX5_clear_16 : decode cX5_clear 16 = .ok (.iconst 0, 1) := by decide +kernel
theorem dX5_clear_17 : decode cX5_clear 17 = .ok (.putfield 51, 3) := by decide +kernel
theorem dX5_clear_20 : decode cX5_clear 20 = .ok (.aload_n 0, 1) := by decide +kernel
theorem dX5_clear_21 : decode cX5_clear 21 = .ok (.iconst 0, 1) := by decide +kernel
theorem dX5_clear_22 : decode cX5_clear 22 = .ok (.putfield 54, 3) := by decide +kernel
theorem dX5_clear_25 : decode cX5_clear 25 = .ok (.aload_n 0, 1) := by decide +kernel
theorem dX5_clear_26 : decode cX5_clear 26 = .ok (.iconst 0, 1) := by decide +kernel
theorem dX5_clear_27 : decode cX5_clear 27 = .ok (.putfield 57, 3) := by decide +kernel
theorem dX5_clear_30 : decode cX5_clear 30 = .ok (.aload_n 0, 1) := by decide +kernel
theorem dX5_clear_31 : decode cX5_clear 31 = .ok (.iconst 0, 1) := by decide +kernel
theorem dX5_clear_32 : decode cX5_clear 32 = .ok (.putfield 60, 3) := by decide +kernel
theorem dX5_clear_35 : decode cX5_clear 35 = .ok (.return_, 1) := by decide +kernel
theorem dX5_hasZone_0 : decode cX5_hasZone 0 = .ok (.iload_n 1, 1) := by decide +kernel
theorem dX5_hasZone_1 : decode cX5_hasZone 1 = .ok (.ifCond .lt 15, 3) := by decide +kernel
theorem dX5_hasZone_4 : decode cX5_hasZone 4 = .ok (.iload_n 1, 1) := by decide +kernel
theorem dX5_hasZone_5 : decode cX5_hasZone 5 = .ok (.aload_n 0, 1) := by decide +kernel
theorem dX5_hasZone_6 : decode cX5_hasZone 6 = .ok (.getfield 41, 3) := by decide +kernel
theorem dX5_hasZone_9 : decode cX5_hasZone 9 = .ok (.if_icmp .ge 7, 3) := by decide +kernel
theorem dX5_hasZone_12 : decode cX5_hasZone 12 = .ok (.iconst 1, 1) := by decide +kernel
theorem dX5_hasZone_13 : decode cX5_hasZone 13 = .ok (.goto 4, 3) := by decide +kernel
theorem dX5_hasZone_16 : decode cX5_hasZone 16 = .ok (.iconst 0, 1) := by decide +kernel
theorem dX5_hasZone_17 : decode cX5_hasZone 17 = .ok (.ireturn, 1) := by decide +kernel
theorem dX5_hasTrip_0 : decode cX5_hasTrip 0 = .ok (.iload_n 1, 1) := by decide +kernel
theorem dX5_hasTrip_1 : decode cX5_hasTrip 1 = .ok (.ifCond .lt 15, 3) := by decide +kernel
theorem dX5_hasTrip_4 : decode cX5_hasTrip 4 = .ok (.iload_n 1, 1) := by decide +kernel
theorem dX5_hasTrip_5 : decode cX5_hasTrip 5 = .ok (.aload_n 0, 1) := by decide +kernel
theorem dX5_hasTrip_6 : decode cX5_hasTrip 6 = .ok (.getfield 45, 3) := by decide +kernel
theorem dX5_hasTrip_9 : decode cX5_hasTrip 9 = .ok (.if_icmp .ge 7, 3) := by decide +kernel
theorem dX5_hasTrip_12 : decode cX5_hasTrip 12 = .ok (.iconst 1, 1) := by decide +kernel
theorem dX5_hasTrip_13 : decode cX5_hasTrip 13 = .ok (.goto 4, 3) := by decide +kernel
theorem dX5_hasTrip_16 : decode cX5_hasTrip 16 = .ok (.iconst 0, 1) := by decide +kernel
theorem dX5_hasTrip_17 : decode cX5_hasTrip 17 = .ok (.ireturn, 1) := by decide +kernel
theorem dX5_hasDevice_0 : decode cX5_hasDevice 0 = .ok (.iload_n 1, 1) := by decide +kernel
theorem dX5_hasDevice_1 : decode cX5_hasDevice 1 = .ok (.ifCond .lt 15, 3) := by decide +kernel
theorem dX5_hasDevice_4 : decode cX5_hasDevice 4 = .ok (.iload_n 1, 1) := by decide +kernel
theorem dX5_hasDevice_5 : decode cX5_hasDevice 5 = .ok (.aload_n 0, 1) := by decide +kernel
theorem dX5_hasDevice_6 : decode cX5_hasDevice 6 = .ok (.getfield 48, 3) := by decide +kernel
theorem dX5_hasDevice_9 : decode cX5_hasDevice 9 = .ok (.if_icmp .ge 7, 3) := by decide +kernel
theorem dX5_hasDevice_12 : decode cX5_hasDevice 12 = .ok (.iconst 1, 1) := by decide +kernel
theorem dX5_hasDevice_13 : decode cX5_hasDevice 13 = .ok (.goto 4, 3) := by decide +kernel
theorem dX5_hasDevice_16 : decode cX5_hasDevice 16 = .ok (.iconst 0, 1) := by decide +kernel
theorem dX5_hasDevice_17 : decode cX5_hasDevice 17 = .ok (.ireturn, 1) := by decide +kernel
theorem dX5_criticalOf_0 : decode cX5_criticalOf 0 = .ok (.iconst 0, 1) := by decide +kernel
theorem dX5_criticalOf_1 : decode cX5_criticalOf 1 = .ok (.istore_n 2, 1) := by decide +kernel
theorem dX5_criticalOf_2 : decode cX5_criticalOf 2 = .ok (.iload_n 2, 1) := by decide +kernel
theorem dX5_criticalOf_3 : decode cX5_criticalOf 3 = .ok (.aload_n 0, 1) := by decide +kernel
theorem dX5_criticalOf_4 : decode cX5_criticalOf 4 = .ok (.getfield 45, 3) := by decide +kernel
theorem dX5_criticalOf_7 : decode cX5_criticalOf 7 = .ok (.if_icmp .ge 37, 3) := by decide +kernel
theorem dX5_criticalOf_10 : decode cX5_criticalOf 10 = .ok (.aload_n 0, 1) := by decide +kernel
theorem dX5_criticalOf_11 : decode cX5_criticalOf 11 = .ok (.getfield 19, 3) := by decide +kernel
theorem dX5_criticalOf_14 : decode cX5_criticalOf 14 = .ok (.iload_n 2, 1) := by decide +kernel
theorem dX5_criticalOf_15 : decode cX5_criticalOf 15 = .ok (.aaload, 1) := by decide +kernel
theorem dX5_criticalOf_16 : decode cX5_criticalOf 16 = .ok (.getfield 69, 3) := by decide +kernel
theorem dX5_criticalOf_19 : decode cX5_criticalOf 19 = .ok (.iload_n 1, 1) := by decide +kernel
theorem dX5_criticalOf_20 : decode cX5_criticalOf 20 = .ok (.if_icmp .ne 18, 3) := by decide +kernel
theorem dX5_criticalOf_23 : decode cX5_criticalOf 23 = .ok (.aload_n 0, 1) := by decide +kernel
theorem dX5_criticalOf_24 : decode cX5_criticalOf 24 = .ok (.getfield 19, 3) := by decide +kernel
theorem dX5_criticalOf_27 : decode cX5_criticalOf 27 = .ok (.iload_n 2, 1) := by decide +kernel
theorem dX5_criticalOf_28 : decode cX5_criticalOf 28 = .ok (.aaload, 1) := by decide +kernel
theorem dX5_criticalOf_29 : decode cX5_criticalOf 29 = .ok (.getfield 72, 3) := by decide +kernel
theorem dX5_criticalOf_32 : decode cX5_criticalOf 32 = .ok (.iconst 3, 1) := by decide +kernel
theorem dX5_criticalOf_33 : decode cX5_criticalOf 33 = .ok (.if_icmp .ne 5, 3) := by decide +kernel
theorem dX5_criticalOf_36 : decode cX5_criticalOf 36 = .ok (.iload_n 2, 1) := by decide +kernel
theorem dX5_criticalOf_37 : decode cX5_criticalOf 37 = .ok (.ireturn, 1) := by decide +kernel
theorem dX5_criticalOf_38 : decode cX5_criticalOf 38 = .ok (.iinc 2 1, 3) := by decide +kernel
theorem dX5_criticalOf_41 : decode cX5_criticalOf 41 = .ok (.goto (-39), 3) := by decide +kernel
theorem dX5_criticalOf_44 : decode cX5_criticalOf 44 = .ok (.iconst (-1), 1) := by decide +kernel
theorem dX5_criticalOf_45 : decode cX5_criticalOf 45 = .ok (.ireturn, 1) := by decide +kernel
theorem dX5_bindOf_0 : decode cX5_bindOf 0 = .ok (.iconst 0, 1) := by decide +kernel
theorem dX5_bindOf_1 : decode cX5_bindOf 1 = .ok (.istore_n 3, 1) := by decide +kernel
theorem dX5_bindOf_2 : decode cX5_bindOf 2 = .ok (.iload_n 3, 1) := by decide +kernel
theorem dX5_bindOf_3 : decode cX5_bindOf 3 = .ok (.aload_n 0, 1) := by decide +kernel
theorem dX5_bindOf_4 : decode cX5_bindOf 4 = .ok (.getfield 51, 3) := by decide +kernel
theorem dX5_bindOf_7 : decode cX5_bindOf 7 = .ok (.if_icmp .ge 37, 3) := by decide +kernel
theorem dX5_bindOf_10 : decode cX5_bindOf 10 = .ok (.aload_n 0, 1) := by decide +kernel
theorem dX5_bindOf_11 : decode cX5_bindOf 11 = .ok (.getfield 31, 3) := by decide +kernel
theorem dX5_bindOf_14 : decode cX5_bindOf 14 = .ok (.iload_n 3, 1) := by decide +kernel
theorem dX5_bindOf_15 : decode cX5_bindOf 15 = .ok (.aaload, 1) := by decide +kernel
theorem dX5_bindOf_16 : decode cX5_bindOf 16 = .ok (.getfield 75, 3) := by decide +kernel
theorem dX5_bindOf_19 : decode cX5_bindOf 19 = .ok (.iload_n 1, 1) := by decide +kernel
theorem dX5_bindOf_20 : decode cX5_bindOf 20 = .ok (.if_icmp .ne 18, 3) := by decide +kernel
theorem dX5_bindOf_23 : decode cX5_bindOf 23 = .ok (.aload_n 0, 1) := by decide +kernel
theorem dX5_bindOf_24 : decode cX5_bindOf 24 = .ok (.getfield 31, 3) := by decide +kernel
theorem dX5_bindOf_27 : decode cX5_bindOf 27 = .ok (.iload_n 3, 1) := by decide +kernel
theorem dX5_bindOf_28 : decode cX5_bindOf 28 = .ok (.aaload, 1) := by decide +kernel
theorem dX5_bindOf_29 : decode cX5_bindOf 29 = .ok (.getfield 78, 3) := by decide +kernel
theorem dX5_bindOf_32 : decode cX5_bindOf 32 = .ok (.iload_n 2, 1) := by decide +kernel
theorem dX5_bindOf_33 : decode cX5_bindOf 33 = .ok (.if_icmp .ne 5, 3) := by decide +kernel
theorem dX5_bindOf_36 : decode cX5_bindOf 36 = .ok (.iload_n 3, 1) := by decide +kernel
theorem dX5_bindOf_37 : decode cX5_bindOf 37 = .ok (.ireturn, 1) := by decide +kernel
theorem dX5_bindOf_38 : decode cX5_bindOf 38 = .ok (.iinc 3 1, 3) := by decide +kernel
theorem dX5_bindOf_41 : decode cX5_bindOf 41 = .ok (.goto (-39), 3) := by decide +kernel
theorem dX5_bindOf_44 : decode cX5_bindOf 44 = .ok (.iconst (-1), 1) := by decide +kernel
theorem dX5_bindOf_45 : decode cX5_bindOf 45 = .ok (.ireturn, 1) := by decide +kernel
theorem dX5_addBind_0 : decode cX5_addBind 0 = .ok (.aload_n 0, 1) := by decide +kernel
theorem dX5_addBind_1 : decode cX5_addBind 1 = .ok (.getfield 51, 3) := by decide +kernel
theorem dX5_addBind_4 : decode cX5_addBind 4 = .ok (.bipush 60, 2) := by decide +kernel
theorem dX5_addBind_6 : decode cX5_addBind 6 = .ok (.if_icmp .lt 4, 3) := by decide +kernel
theorem dX5_addBind_9 : decode cX5_addBind 9 = .ok (.return_, 1) := by decide +kernel
theorem dX5_addBind_10 : decode cX5_addBind 10 = .ok (.aload_n 0, 1) := by decide +kernel
theorem dX5_addBind_11 : decode cX5_addBind 11 = .ok (.getfield 31, 3) := by decide +kernel
theorem dX5_addBind_14 : decode cX5_addBind 14 = .ok (.aload_n 0, 1) := by decide +kernel
theorem dX5_addBind_15 : decode cX5_addBind 15 = .ok (.getfield 51, 3) := by decide +kernel
theorem dX5_addBind_18 : decode cX5_addBind 18 = .ok (.aaload, 1) := by decide +kernel
theorem dX5_addBind_19 : decode cX5_addBind 19 = .ok (.astore 4, 2) := by decide +kernel
theorem dX5_addBind_21 : decode cX5_addBind 21 = .ok (.aload 4, 2) := by decide +kernel
theorem dX5_addBind_23 : decode cX5_addBind 23 = .ok (.iload_n 1, 1) := by decide +kernel
theorem dX5_addBind_24 : decode cX5_addBind 24 = .ok (.putfield 75, 3) := by decide +kernel
theorem dX5_addBind_27 : decode cX5_addBind 27 = .ok (.aload 4, 2) := by decide +kernel
theorem dX5_addBind_29 : decode cX5_addBind 29 = .ok (.iload_n 2, 1) := by decide +kernel
theorem dX5_addBind_30 : decode cX5_addBind 30 = .ok (.putfield 78, 3) := by decide +kernel
theorem dX5_addBind_33 : decode cX5_addBind 33 = .ok (.aload 4, 2) := by decide +kernel
theorem dX5_addBind_35 : decode cX5_addBind 35 = .ok (.iload_n 3, 1) := by decide +kernel
theorem dX5_addBind_36 : decode cX5_addBind 36 = .ok (.putfield 81, 3) := by decide +kernel
theorem dX5_addBind_39 : decode cX5_addBind 39 = .ok (.aload_n 0, 1) := by decide +kernel
theorem dX5_addBind_40 : decode cX5_addBind 40 = .ok (.getfield 51, 3) := by decide +kernel
theorem dX5_addBind_43 : decode cX5_addBind 43 = .ok (.istore 5, 2) := by decide +kernel
theorem dX5_addBind_45 : decode cX5_addBind 45 = .ok (.iload 5, 2) := by decide +kernel
theorem dX5_addBind_47 : decode cX5_addBind 47 = .ok (.ifCond .le 42, 3) := by decide +kernel
theorem dX5_addBind_50 : decode cX5_addBind 50 = .ok (.aload 4, 2) := by decide +kernel
theorem dX5_addBind_52 : decode cX5_addBind 52 = .ok (.aload_n 0, 1) := by decide +kernel
theorem dX5_addBind_53 : decode cX5_addBind 53 = .ok (.getfield 31, 3) := by decide +kernel
theorem dX5_addBind_56 : decode cX5_addBind 56 = .ok (.iload 5, 2) := by decide +kernel
theorem dX5_addBind_58 : decode cX5_addBind 58 = .ok (.iconst 1, 1) := by decide +kernel
theorem dX5_addBind_59 : decode cX5_addBind 59 = .ok (.isub, 1) := by decide +kernel
theorem dX5_addBind_60 : decode cX5_addBind 60 = .ok (.aaload, 1) := by decide +kernel
theorem dX5_addBind_61 : decode cX5_addBind 61 = .ok (.invokevirtual 84, 3) := by decide +kernel
theorem dX5_addBind_64 : decode cX5_addBind 64 = .ok (.ifCond .eq 25, 3) := by decide +kernel
theorem dX5_addBind_67 : decode cX5_addBind 67 = .ok (.aload_n 0, 1) := by decide +kernel
theorem dX5_addBind_68 : decode cX5_addBind 68 = .ok (.getfield 31, 3) := by decide +kernel
theorem dX5_addBind_71 : decode cX5_addBind 71 = .ok (.iload 5, 2) := by decide +kernel
theorem dX5_addBind_73 : decode cX5_addBind 73 = .ok (.aload_n 0, 1) := by decide +kernel
theorem dX5_addBind_74 : decode cX5_addBind 74 = .ok (.getfield 31, 3) := by decide +kernel
theorem dX5_addBind_77 : decode cX5_addBind 77 = .ok (.iload 5, 2) := by decide +kernel
theorem dX5_addBind_79 : decode cX5_addBind 79 = .ok (.iconst 1, 1) := by decide +kernel
theorem dX5_addBind_80 : decode cX5_addBind 80 = .ok (.isub, 1) := by decide +kernel
theorem dX5_addBind_81 : decode cX5_addBind 81 = .ok (.aaload, 1) := by decide +kernel
theorem dX5_addBind_82 : decode cX5_addBind 82 = .ok (.aastore, 1) := by decide +kernel
theorem dX5_addBind_83 : decode cX5_addBind 83 = .ok (.iinc 5 (-1), 3) := by decide +kernel
theorem dX5_addBind_86 : decode cX5_addBind 86 = .ok (.goto (-41), 3) := by decide +kernel
theorem dX5_addBind_89 : decode cX5_addBind 89 = .ok (.aload_n 0, 1) := by decide +kernel
theorem dX5_addBind_90 : decode cX5_addBind 90 = .ok (.getfield 31, 3) := by decide +kernel
theorem dX5_addBind_93 : decode cX5_addBind 93 = .ok (.iload 5, 2) := by decide +kernel
theorem dX5_addBind_95 : decode cX5_addBind 95 = .ok (.aload 4, 2) := by decide +kernel
theorem dX5_addBind_97 : decode cX5_addBind 97 = .ok (.aastore, 1) := by decide +kernel
theorem dX5_addBind_98 : decode cX5_addBind 98 = .ok (.aload_n 0, 1) := by decide +kernel
theorem dX5_addBind_99 : decode cX5_addBind 99 = .ok (.dup, 1) := by decide +kernel
theorem dX5_addBind_100 : decode cX5_addBind 100 = .ok (.getfield 51, 3) := by decide +kernel
theorem dX5_addBind_103 : decode cX5_addBind 103 = .ok (.iconst 1, 1) := by decide +kernel
theorem dX5_addBind_104 : decode cX5_addBind 104 = .ok (.iadd, 1) := by decide +kernel
theorem dX5_addBind_105 : decode cX5_addBind 105 = .ok (.putfield 51, 3) := by decide +kernel
theorem dX5_addBind_108 : decode cX5_addBind 108 = .ok (.return_, 1) := by decide +kernel
theorem dX5_findBindsOfTrips_0 : decode cX5_findBindsOfTrips 0 = .ok (.iconst 0, 1) := by decide +kernel
theorem dX5_findBindsOfTrips_1 : decode cX5_findBindsOfTrips 1 = .ok (.istore_n 1, 1) := by decide +kernel
theorem dX5_findBindsOfTrips_2 : decode cX5_findBindsOfTrips 2 = .ok (.iconst 0, 1) := by decide +kernel
theorem dX5_findBindsOfTrips_3 : decode cX5_findBindsOfTrips 3 = .ok (.istore_n 2, 1) := by decide +kernel
theorem dX5_findBindsOfTrips_4 : decode cX5_findBindsOfTrips 4 = .ok (.iload_n 2, 1) := by decide +kernel
theorem dX5_findBindsOfTrips_5 : decode cX5_findBindsOfTrips 5 = .ok (.aload_n 0, 1) := by decide +kernel
theorem dX5_findBindsOfTrips_6 : decode cX5_findBindsOfTrips 6 = .ok (.getfield 45, 3) := by decide +kernel
theorem dX5_findBindsOfTrips_9 : decode cX5_findBindsOfTrips 9 = .ok (.if_icmp .ge 56, 3) := by decide +kernel
theorem dX5_findBindsOfTrips_12 : decode cX5_findBindsOfTrips 12 = .ok (.aload_n 0, 1) := by decide +kernel
theorem dX5_findBindsOfTrips_13 : decode cX5_findBindsOfTrips 13 = .ok (.getfield 19, 3) := by decide +kernel
theorem dX5_findBindsOfTrips_16 : decode cX5_findBindsOfTrips 16 = .ok (.iload_n 2, 1) := by decide +kernel
theorem dX5_findBindsOfTrips_17 : decode cX5_findBindsOfTrips 17 = .ok (.aaload, 1) := by decide +kernel
theorem dX5_findBindsOfTrips_18 : decode cX5_findBindsOfTrips 18 = .ok (.iload_n 1, 1) := by decide +kernel
theorem dX5_findBindsOfTrips_19 : decode cX5_findBindsOfTrips 19 = .ok (.putfield 88, 3) := by decide +kernel
theorem dX5_findBindsOfTrips_22 : decode cX5_findBindsOfTrips 22 = .ok (.iload_n 1, 1) := by decide +kernel
theorem dX5_findBindsOfTrips_23 : decode cX5_findBindsOfTrips 23 = .ok (.aload_n 0, 1) := by decide +kernel
theorem dX5_findBindsOfTrips_24 : decode cX5_findBindsOfTrips 24 = .ok (.getfield 51, 3) := by decide +kernel
theorem dX5_findBindsOfTrips_27 : decode cX5_findBindsOfTrips 27 = .ok (.if_icmp .ge 22, 3) := by decide +kernel
theorem dX5_findBindsOfTrips_30 : decode cX5_findBindsOfTrips 30 = .ok (.aload_n 0, 1) := by decide +kernel
theorem dX5_findBindsOfTrips_31 : decode cX5_findBindsOfTrips 31 = .ok (.getfield 31, 3) := by decide +kernel
theorem dX5_findBindsOfTrips_34 : decode cX5_findBindsOfTrips 34 = .ok (.iload_n 1, 1) := by decide +kernel
theorem dX5_findBindsOfTrips_35 : decode cX5_findBindsOfTrips 35 = .ok (.aaload, 1) := by decide +kernel
theorem dX5_findBindsOfTrips_36 : decode cX5_findBindsOfTrips 36 = .ok (.getfield 75, 3) := by decide +kernel
theorem dX5_findBindsOfTrips_39 : decode cX5_findBindsOfTrips 39 = .ok (.iload_n 2, 1) := by decide +kernel
theorem dX5_findBindsOfTrips_40 : decode cX5_findBindsOfTrips 40 = .ok (.if_icmp .ne 9, 3) := by decide +kernel
theorem dX5_findBindsOfTrips_43 : decode cX5_findBindsOfTrips 43 = .ok (.iinc 1 1, 3) := by decide +kernel
theorem dX5_findBindsOfTrips_46 : decode cX5_findBindsOfTrips 46 = .ok (.goto (-24), 3) := by decide +kernel
theorem dX5_findBindsOfTrips_49 : decode cX5_findBindsOfTrips 49 = .ok (.aload_n 0, 1) := by decide +kernel
theorem dX5_findBindsOfTrips_50 : decode cX5_findBindsOfTrips 50 = .ok (.getfield 19, 3) := by decide +kernel
theorem dX5_findBindsOfTrips_53 : decode cX5_findBindsOfTrips 53 = .ok (.iload_n 2, 1) := by decide +kernel
theorem dX5_findBindsOfTrips_54 : decode cX5_findBindsOfTrips 54 = .ok (.aaload, 1) := by decide +kernel
theorem dX5_findBindsOfTrips_55 : decode cX5_findBindsOfTrips 55 = .ok (.iload_n 1, 1) := by decide +kernel
theorem dX5_findBindsOfTrips_56 : decode cX5_findBindsOfTrips 56 = .ok (.putfield 91, 3) := by decide +kernel
theorem dX5_findBindsOfTrips_59 : decode cX5_findBindsOfTrips 59 = .ok (.iinc 2 1, 3) := by decide +kernel
theorem dX5_findBindsOfTrips_62 : decode cX5_findBindsOfTrips 62 = .ok (.goto (-58), 3) := by decide +kernel
theorem dX5_findBindsOfTrips_65 : decode cX5_findBindsOfTrips 65 = .ok (.return_, 1) := by decide +kernel
theorem dX6_init_0 : decode cX6_init 0 = .ok (.aload_n 0, 1) := by decide +kernel
theorem dX6_init_1 : decode cX6_init 1 = .ok (.invokespecial 3, 3) := by decide +kernel
theorem dX6_init_4 : decode cX6_init 4 = .ok (.aload_n 0, 1) := by decide +kernel
theorem dX6_init_5 : decode cX6_init 5 = .ok (.iconst 0, 1) := by decide +kernel
theorem dX6_init_6 : decode cX6_init 6 = .ok (.putfield 9, 3) := by decide +kernel
theorem dX6_init_9 : decode cX6_init 9 = .ok (.aload_n 0, 1) := by decide +kernel
theorem dX6_init_10 : decode cX6_init 10 = .ok (.iconst 0, 1) := by decide +kernel
theorem dX6_init_11 : decode cX6_init 11 = .ok (.putfield 15, 3) := by decide +kernel
theorem dX6_init_14 : decode cX6_init 14 = .ok (.aload_n 0, 1) := by decide +kernel
theorem dX6_init_15 : decode cX6_init 15 = .ok (.iconst 0, 1) := by decide +kernel
theorem dX6_init_16 : decode cX6_init 16 = .ok (.putfield 18, 3) := by decide +kernel
theorem dX6_init_19 : decode cX6_init 19 = .ok (.aload_n 0, 1) := by decide +kernel
theorem dX6_init_20 : decode cX6_init 20 = .ok (.iconst 0, 1) := by decide +kernel
theorem dX6_init_21 : decode cX6_init 21 = .ok (.putfield 21, 3) := by decide +kernel
theorem dX6_init_24 : decode cX6_init 24 = .ok (.aload_n 0, 1) := by decide +kernel
theorem dX6_init_25 : decode cX6_init 25 = .ok (.iconst 0, 1) := by decide +kernel
theorem dX6_init_26 : decode cX6_init 26 = .ok (.putfield 24, 3) := by decide +kernel
theorem dX6_init_29 : decode cX6_init 29 = .ok (.aload_n 0, 1) := by decide +kernel
theorem dX6_init_30 : decode cX6_init 30 = .ok (.aload_n 1, 1) := by decide +kernel
theorem dX6_init_31 : decode cX6_init 31 = .ok (.putfield 27, 3) := by decide +kernel
theorem dX6_init_34 : decode cX6_init 34 = .ok (.return_, 1) := by decide +kernel
theorem dX6_readText_0 : decode cX6_readText 0 = .ok (.aload_n 0, 1) := by decide +kernel
theorem dX6_readText_1 : decode cX6_readText 1 = .ok (.iload_n 1, 1) := by decide +kernel
theorem dX6_readText_2 : decode cX6_readText 2 = .ok (.iconst 0, 1) := by decide +kernel
theorem dX6_readText_3 : decode cX6_readText 3 = .ok (.aload_n 0, 1) := by decide +kernel
theorem dX6_readText_4 : decode cX6_readText 4 = .ok (.getfield 27, 3) := by decide +kernel
theorem dX6_readText_7 : decode cX6_readText 7 = .ok (.arraylength, 1) := by decide +kernel
theorem dX6_readText_8 : decode cX6_readText 8 = .ok (.invokestatic 31, 3) := by decide +kernel
theorem dX6_readText_11 : decode cX6_readText 11 = .ok (.putfield 9, 3) := by decide +kernel
theorem dX6_readText_14 : decode cX6_readText 14 = .ok (.aload_n 0, 1) := by decide +kernel
theorem dX6_readText_15 : decode cX6_readText 15 = .ok (.iconst 0, 1) := by decide +kernel
theorem dX6_readText_16 : decode cX6_readText 16 = .ok (.putfield 15, 3) := by decide +kernel
theorem dX6_readText_19 : decode cX6_readText 19 = .ok (.aload_n 0, 1) := by decide +kernel
theorem dX6_readText_20 : decode cX6_readText 20 = .ok (.iconst 0, 1) := by decide +kernel
theorem dX6_readText_21 : decode cX6_readText 21 = .ok (.putfield 24, 3) := by decide +kernel
theorem dX6_readText_24 : decode cX6_readText 24 = .ok (.aload_n 2, 1) := by decide +kernel
theorem dX6_readText_25 : decode cX6_readText 25 = .ok (.invokevirtual 35, 3) := by decide +kernel
theorem dX6_readText_28 : decode cX6_readText 28 = .ok (.aload_n 0, 1) := by decide +kernel
theorem dX6_readText_29 : decode cX6_readText 29 = .ok (.invokevirtual 40, 3) := by decide +kernel
theorem dX6_readText_32 : decode cX6_readText 32 = .ok (.iconst 0, 1) := by decide +kernel
theorem dX6_readText_33 : decode cX6_readText 33 = .ok (.istore_n 3, 1) := by decide +kernel
theorem dX6_readText_34 : decode cX6_readText 34 = .ok (.iload_n 3, 1) := by decide +kernel
theorem dX6_readText_35 : decode cX6_readText 35 = .ok (.aload_n 0, 1) := by decide +kernel
theorem dX6_readText_36 : decode cX6_readText 36 = .ok (.getfield 9, 3) := by decide +kernel
theorem dX6_readText_39 : decode cX6_readText 39 = .ok (.if_icmp .ge 32, 3) := by decide +kernel
theorem dX6_readText_42 : decode cX6_readText 42 = .ok (.aload_n 0, 1) := by decide +kernel
theorem dX6_readText_43 : decode cX6_readText 43 = .ok (.getfield 18, 3) := by decide +kernel
theorem dX6_readText_46 : decode cX6_readText 46 = .ok (.ifCond .eq 25, 3) := by decide +kernel
theorem dX6_readText_49 : decode cX6_readText 49 = .ok (.aload_n 0, 1) := by decide +kernel
theorem dX6_readText_50 : decode cX6_readText 50 = .ok (.getfield 24, 3) := by decide +kernel
theorem dX6_readText_53 : decode cX6_readText 53 = .ok (.ifCond .ne 18, 3) := by decide +kernel
theorem dX6_readText_56 : decode cX6_readText 56 = .ok (.aload_n 0, 1) := by decide +kernel
theorem dX6_readText_57 : decode cX6_readText 57 = .ok (.aload_n 2, 1) := by decide +kernel
theorem dX6_readText_58 : decode cX6_readText 58 = .ok (.invokevirtual 43, 3) := by decide +kernel
theorem dX6_readText_61 : decode cX6_readText 61 = .ok (.aload_n 0, 1) := by decide +kernel
theorem dX6_readText_62 : decode cX6_readText 62 = .ok (.invokevirtual 40, 3) := by decide +kernel
theorem dX6_readText_65 : decode cX6_readText 65 = .ok (.iinc 3 1, 3) := by decide +kernel
theorem dX6_readText_68 : decode cX6_readText 68 = .ok (.goto (-34), 3) := by decide +kernel
theorem dX6_readText_71 : decode cX6_readText 71 = .ok (.aload_n 2, 1) := by decide +kernel
theorem dX6_readText_72 : decode cX6_readText 72 = .ok (.invokevirtual 47, 3) := by decide +kernel
theorem dX6_readText_75 : decode cX6_readText 75 = .ok (.aload_n 0, 1) := by decide +kernel
theorem dX6_readText_76 : decode cX6_readText 76 = .ok (.getfield 24, 3) := by decide +kernel
theorem dX6_readText_79 : decode cX6_readText 79 = .ok (.ireturn, 1) := by decide +kernel
theorem dX6_faultPlace_0 : decode cX6_faultPlace 0 = .ok (.aload_n 0, 1) := by decide +kernel
theorem dX6_faultPlace_1 : decode cX6_faultPlace 1 = .ok (.getfield 24, 3) := by decide +kernel
theorem dX6_faultPlace_4 : decode cX6_faultPlace 4 = .ok (.ifCond .ne 7, 3) := by decide +kernel
theorem dX6_faultPlace_7 : decode cX6_faultPlace 7 = .ok (.iconst (-1), 1) := by decide +kernel
theorem dX6_faultPlace_8 : decode cX6_faultPlace 8 = .ok (.goto 7, 3) := by decide +kernel
theorem dX6_faultPlace_11 : decode cX6_faultPlace 11 = .ok (.aload_n 0, 1) := by decide +kernel
theorem dX6_faultPlace_12 : decode cX6_faultPlace 12 = .ok (.getfield 21, 3) := by decide +kernel
theorem dX6_faultPlace_15 : decode cX6_faultPlace 15 = .ok (.ireturn, 1) := by decide +kernel
theorem dX6_readClause_0 : decode cX6_readClause 0 = .ok (.aload_n 0, 1) := by decide +kernel
theorem dX6_readClause_1 : decode cX6_readClause 1 = .ok (.ldc 50, 2) := by decide +kernel
theorem dX6_readClause_3 : decode cX6_readClause 3 = .ok (.invokevirtual 52, 3) := by decide +kernel
theorem dX6_readClause_6 : decode cX6_readClause 6 = .ok (.ifCond .eq 11, 3) := by decide +kernel
theorem dX6_readClause_9 : decode cX6_readClause 9 = .ok (.aload_n 0, 1) := by decide +kernel
theorem dX6_readClause_10 : decode cX6_readClause 10 = .ok (.aload_n 1, 1) := by decide +kernel
theorem dX6_readClause_11 : decode cX6_readClause 11 = .ok (.invokevirtual 56, 3) := by decide +kernel
theorem dX6_readClause_14 : decode cX6_readClause 14 = .ok (.goto 93, 3) := by decide +kernel
theorem dX6_readClause_17 : decode cX6_readClause 17 = .ok (.aload_n 0, 1) := by decide +kernel
theorem dX6_readClause_18 : decode cX6_readClause 18 = .ok (.ldc 59, 2) := by decide +kernel
theorem dX6_readClause_20 : decode cX6_readClause 20 = .ok (.invokevirtual 52, 3) := by decide +kernel
theorem dX6_readClause_23 : decode cX6_readClause 23 = .ok (.ifCond .eq 11, 3) := by decide +kernel
theorem dX6_readClause_26 : decode cX6_readClause 26 = .ok (.aload_n 0, 1) := by decide +kernel
theorem dX6_readClause_27 : decode cX6_readClause 27 = .ok (.aload_n 1, 1) := by decide +kernel
theorem dX6_readClause_28 : decode cX6_readClause 28 = .ok (.invokevirtual 61, 3) := by decide +kernel
theorem dX6_readClause_31 : decode cX6_readClause 31 = .ok (.goto 76, 3) := by decide +kernel
theorem dX6_readClause_34 : decode cX6_readClause 34 = .ok (.aload_n 0, 1) := by decide +kernel
theorem dX6_readClause_35 : decode cX6_readClause 35 = .ok (.ldc 64, 2) := by decide +kernel
theorem dX6_readClause_37 : decode cX6_readClause 37 = .ok (.invokevirtual 52, 3) := by decide +kernel
theorem dX6_readClause_40 : decode cX6_readClause 40 = .ok (.ifCond .eq 11, 3) := by decide +kernel
theorem dX6_readClause_43 : decode cX6_readClause 43 = .ok (.aload_n 0, 1) := by decide +kernel
theorem dX6_readClause_44 : decode cX6_readClause 44 = .ok (.aload_n 1, 1) := by decide +kernel
theorem dX6_readClause_45 : decode cX6_readClause 45 = .ok (.invokevirtual 66, 3) := by decide +kernel
theorem dX6_readClause_48 : decode cX6_readClause 48 = .ok (.goto 59, 3) := by decide +kernel
theorem dX6_readClause_51 : decode cX6_readClause 51 = .ok (.aload_n 0, 1) := by decide +kernel
theorem dX6_readClause_52 : decode cX6_readClause 52 = .ok (.ldc 69, 2) := by decide +kernel
theorem dX6_readClause_54 : decode cX6_readClause 54 = .ok (.invokevirtual 52, 3) := by decide +kernel
theorem dX6_readClause_57 : decode cX6_readClause 57 = .ok (.ifCond .eq 11, 3) := by decide +kernel
theorem dX6_readClause_60 : decode cX6_readClause 60 = .ok (.aload_n 0, 1) := by decide +kernel
theorem dX6_readClause_61 : decode cX6_readClause 61 = .ok (.aload_n 1, 1) := by decide +kernel
theorem dX6_readClause_62 : decode cX6_readClause 62 = .ok (.invokevirtual 71, 3) := by decide +kernel
theorem dX6_readClause_65 : decode cX6_readClause 65 = .ok (.goto 42, 3) := by decide +kernel
theorem dX6_readClause_68 : decode cX6_readClause 68 = .ok (.aload_n 0, 1) := by decide +kernel
theorem dX6_readClause_69 : decode cX6_readClause 69 = .ok (.ldc 74, 2) := by decide +kernel
theorem dX6_readClause_71 : decode cX6_readClause 71 = .ok (.invokevirtual 52, 3) := by decide +kernel
theorem dX6_readClause_74 : decode cX6_readClause 74 = .ok (.ifCond .eq 11, 3) := by decide +kernel
theorem dX6_readClause_77 : decode cX6_readClause 77 = .ok (.aload_n 0, 1) := by decide +kernel
theorem dX6_readClause_78 : decode cX6_readClause 78 = .ok (.aload_n 1, 1) := by decide +kernel
theorem dX6_readClause_79 : decode cX6_readClause 79 = .ok (.invokevirtual 76, 3) := by decide +kernel
theorem dX6_readClause_82 : decode cX6_readClause 82 = .ok (.goto 25, 3) := by decide +kernel
theorem dX6_readClause_85 : decode cX6_readClause 85 = .ok (.aload_n 0, 1) := by decide +kernel
theorem dX6_readClause_86 : decode cX6_readClause 86 = .ok (.ldc 79, 2) := by decide +kernel
theorem dX6_readClause_88 : decode cX6_readClause 88 = .ok (.invokevirtual 52, 3) := by decide +kernel
theorem dX6_readClause_91 : decode cX6_readClause 91 = .ok (.ifCond .eq 11, 3) := by decide +kernel
theorem dX6_readClause_94 : decode cX6_readClause 94 = .ok (.aload_n 0, 1) := by decide +kernel
theorem dX6_readClause_95 : decode cX6_readClause 95 = .ok (.aload_n 1, 1) := by decide +kernel
theorem dX6_readClause_96 : decode cX6_readClause 96 = .ok (.invokevirtual 81, 3) := by decide +kernel
theorem dX6_readClause_99 : decode cX6_readClause 99 = .ok (.goto 8, 3) := by decide +kernel
theorem dX6_readClause_102 : decode cX6_readClause 102 = .ok (.aload_n 0, 1) := by decide +kernel
theorem dX6_readClause_103 : decode cX6_readClause 103 = .ok (.iconst 1, 1) := by decide +kernel
theorem dX6_readClause_104 : decode cX6_readClause 104 = .ok (.invokevirtual 84, 3) := by decide +kernel
theorem dX6_readClause_107 : decode cX6_readClause 107 = .ok (.return_, 1) := by decide +kernel
theorem dX6_readZone_0 : decode cX6_readZone 0 = .ok (.aload_n 1, 1) := by decide +kernel
theorem dX6_readZone_1 : decode cX6_readZone 1 = .ok (.getfield 88, 3) := by decide +kernel
theorem dX6_readZone_4 : decode cX6_readZone 4 = .ok (.iconst 5, 1) := by decide +kernel
theorem dX6_readZone_5 : decode cX6_readZone 5 = .ok (.if_icmp .lt 9, 3) := by decide +kernel
theorem dX6_readZone_8 : decode cX6_readZone 8 = .ok (.aload_n 0, 1) := by decide +kernel
theorem dX6_readZone_9 : decode cX6_readZone 9 = .ok (.iconst 2, 1) := by decide +kernel
theorem dX6_readZone_10 : decode cX6_readZone 10 = .ok (.invokevirtual 84, 3) := by decide +kernel
theorem dX6_readZone_13 : decode cX6_readZone 13 = .ok (.return_, 1) := by decide +kernel
theorem dX6_readZone_14 : decode cX6_readZone 14 = .ok (.aload_n 1, 1) := by decide +kernel
theorem dX6_readZone_15 : decode cX6_readZone 15 = .ok (.getfield 91, 3) := by decide +kernel
theorem dX6_readZone_18 : decode cX6_readZone 18 = .ok (.aload_n 1, 1) := by decide +kernel
theorem dX6_readZone_19 : decode cX6_readZone 19 = .ok (.getfield 88, 3) := by decide +kernel
theorem dX6_readZone_22 : decode cX6_readZone 22 = .ok (.aaload, 1) := by decide +kernel
theorem dX6_readZone_23 : decode cX6_readZone 23 = .ok (.astore_n 2, 1) := by decide +kernel
theorem dX6_readZone_24 : decode cX6_readZone 24 = .ok (.aload_n 2, 1) := by decide +kernel
theorem dX6_readZone_25 : decode cX6_readZone 25 = .ok (.aload_n 0, 1) := by decide +kernel
theorem dX6_readZone_26 : decode cX6_readZone 26 = .ok (.iconst 0, 1) := by decide +kernel
theorem dX6_readZone_27 : decode cX6_readZone 27 = .ok (.bipush 99, 2) := by decide +kernel
theorem dX6_readZone_29 : decode cX6_readZone 29 = .ok (.invokevirtual 95, 3) := by decide +kernel
theorem dX6_readZone_32 : decode cX6_readZone 32 = .ok (.putfield 99, 3) := by decide +kernel
theorem dX6_readZone_35 : decode cX6_readZone 35 = .ok (.aload_n 2, 1) := by decide +kernel
theorem dX6_readZone_36 : decode cX6_readZone 36 = .ok (.aload_n 0, 1) := by decide +kernel
theorem dX6_readZone_37 : decode cX6_readZone 37 = .ok (.iconst 1, 1) := by decide +kernel
theorem dX6_readZone_38 : decode cX6_readZone 38 = .ok (.bipush 50, 2) := by decide +kernel
theorem dX6_readZone_40 : decode cX6_readZone 40 = .ok (.invokevirtual 95, 3) := by decide +kernel
theorem dX6_readZone_43 : decode cX6_readZone 43 = .ok (.putfield 104, 3) := by decide +kernel
theorem dX6_readZone_46 : decode cX6_readZone 46 = .ok (.aload_n 0, 1) := by decide +kernel
theorem dX6_readZone_47 : decode cX6_readZone 47 = .ok (.invokevirtual 40, 3) := by decide +kernel
theorem dX6_readZone_50 : decode cX6_readZone 50 = .ok (.aload_n 2, 1) := by decide +kernel
theorem dX6_readZone_51 : decode cX6_readZone 51 = .ok (.aload_n 0, 1) := by decide +kernel
theorem dX6_readZone_52 : decode cX6_readZone 52 = .ok (.invokevirtual 107, 3) := by decide +kernel
theorem dX6_readZone_55 : decode cX6_readZone 55 = .ok (.putfield 111, 3) := by decide +kernel
theorem dX6_readZone_58 : decode cX6_readZone 58 = .ok (.aload_n 2, 1) := by decide +kernel
theorem dX6_readZone_59 : decode cX6_readZone 59 = .ok (.aload_n 2, 1) := by decide +kernel
theorem dX6_readZone_60 : decode cX6_readZone 60 = .ok (.getfield 111, 3) := by decide +kernel
theorem dX6_readZone_63 : decode cX6_readZone 63 = .ok (.ifCond .ne 7, 3) := by decide +kernel
theorem dX6_readZone_66 : decode cX6_readZone 66 = .ok (.iconst 1, 1) := by decide +kernel
theorem dX6_readZone_67 : decode cX6_readZone 67 = .ok (.goto 7, 3) := by decide +kernel
theorem dX6_readZone_70 : decode cX6_readZone 70 = .ok (.aload_n 0, 1) := by decide +kernel
theorem dX6_readZone_71 : decode cX6_readZone 71 = .ok (.invokevirtual 114, 3) := by decide +kernel
theorem dX6_readZone_74 : decode cX6_readZone 74 = .ok (.putfield 117, 3) := by decide +kernel
theorem dX6_readZone_77 : decode cX6_readZone 77 = .ok (.aload_n 0, 1) := by decide +kernel
theorem dX6_readZone_78 : decode cX6_readZone 78 = .ok (.invokevirtual 120, 3) := by decide +kernel
theorem dX6_readZone_81 : decode cX6_readZone 81 = .ok (.aload_n 1, 1) := by decide +kernel
theorem dX6_readZone_82 : decode cX6_readZone 82 = .ok (.dup, 1) := by decide +kernel
theorem dX6_readZone_83 : decode cX6_readZone 83 = .ok (.getfield 88, 3) := by decide +kernel
theorem dX6_readZone_86 : decode cX6_readZone 86 = .ok (.iconst 1, 1) := by decide +kernel
theorem dX6_readZone_87 : decode cX6_readZone 87 = .ok (.iadd, 1) := by decide +kernel
theorem dX6_readZone_88 : decode cX6_readZone 88 = .ok (.putfield 88, 3) := by decide +kernel
theorem dX6_readZone_91 : decode cX6_readZone 91 = .ok (.return_, 1) := by decide +kernel
theorem dX6_filterKind_0 : decode cX6_filterKind 0 = .ok (.aload_n 0, 1) := by decide +kernel
theorem dX6_filterKind_1 : decode cX6_filterKind 1 = .ok (.ldc 123, 2) := by decide +kernel
theorem dX6_filterKind_3 : decode cX6_filterKind 3 = .ok (.invokevirtual 52, 3) := by decide +kernel
theorem dX6_filterKind_6 : decode cX6_filterKind 6 = .ok (.ifCond .eq 5, 3) := by decide +kernel
theorem dX6_filterKind_9 : decode cX6_filterKind 9 = .ok (.iconst 1, 1) := by decide +kernel
theorem dX6_filterKind_10 : decode cX6_filterKind 10 = .ok (.ireturn, 1) := by decide +kernel
theorem dX6_filterKind_11 : decode cX6_filterKind 11 = .ok (.aload_n 0, 1) := by decide +kernel
theorem dX6_filterKind_12 : decode cX6_filterKind 12 = .ok (.ldc 125, 2) := by decide +kernel
theorem dX6_filterKind_14 : decode cX6_filterKind 14 = .ok (.invokevirtual 52, 3) := by decide +kernel
theorem dX6_filterKind_17 : decode cX6_filterKind 17 = .ok (.ifCond .eq 5, 3) := by decide +kernel
theorem dX6_filterKind_20 : decode cX6_filterKind 20 = .ok (.iconst 2, 1) := by decide +kernel
theorem dX6_filterKind_21 : decode cX6_filterKind 21 = .ok (.ireturn, 1) := by decide +kernel
theorem dX6_filterKind_22 : decode cX6_filterKind 22 = .ok (.aload_n 0, 1) := by decide +kernel
theorem dX6_filterKind_23 : decode cX6_filterKind 23 = .ok (.ldc 127, 2) := by decide +kernel
theorem dX6_filterKind_25 : decode cX6_filterKind 25 = .ok (.invokevirtual 52, 3) := by decide +kernel
theorem dX6_filterKind_28 : decode cX6_filterKind 28 = .ok (.ifCond .eq 7, 3) := by decide +kernel
theorem dX6_filterKind_31 : decode cX6_filterKind 31 = .ok (.iconst 3, 1) := by decide +kernel
theorem dX6_filterKind_32 : decode cX6_filterKind 32 = .ok (.goto 4, 3) := by decide +kernel
theorem dX6_filterKind_35 : decode cX6_filterKind 35 = .ok (.iconst 0, 1) := by decide +kernel
theorem dX6_filterKind_36 : decode cX6_filterKind 36 = .ok (.ireturn, 1) := by decide +kernel
theorem dX6_readDepth_0 : decode cX6_readDepth 0 = .ok (.aload_n 0, 1) := by decide +kernel
theorem dX6_readDepth_1 : decode cX6_readDepth 1 = .ok (.invokevirtual 40, 3) := by decide +kernel
theorem dX6_readDepth_4 : decode cX6_readDepth 4 = .ok (.aload_n 0, 1) := by decide +kernel
theorem dX6_readDepth_5 : decode cX6_readDepth 5 = .ok (.getfield 18, 3) := by decide +kernel
theorem dX6_readDepth_8 : decode cX6_readDepth 8 = .ok (.iconst 2, 1) := by decide +kernel
theorem dX6_readDepth_9 : decode cX6_readDepth 9 = .ok (.if_icmp .eq 5, 3) := by decide +kernel
theorem dX6_readDepth_12 : decode cX6_readDepth 12 = .ok (.iconst 3, 1) := by decide +kernel
theorem dX6_readDepth_13 : decode cX6_readDepth 13 = .ok (.ireturn, 1) := by decide +kernel
theorem dX6_readDepth_14 : decode cX6_readDepth 14 = .ok (.aload_n 0, 1) := by decide +kernel
theorem dX6_readDepth_15 : decode cX6_readDepth 15 = .ok (.iconst 1, 1) := by decide +kernel
theorem dX6_readDepth_16 : decode cX6_readDepth 16 = .ok (.iconst 4, 1) := by decide +kernel
theorem dX6_readDepth_17 : decode cX6_readDepth 17 = .ok (.invokevirtual 129, 3) := by decide +kernel
theorem dX6_readDepth_20 : decode cX6_readDepth 20 = .ok (.istore_n 1, 1) := by decide +kernel
theorem dX6_readDepth_21 : decode cX6_readDepth 21 = .ok (.aload_n 0, 1) := by decide +kernel
theorem dX6_readDepth_22 : decode cX6_readDepth 22 = .ok (.invokevirtual 40, 3) := by decide +kernel
theorem dX6_readDepth_25 : decode cX6_readDepth 25 = .ok (.iload_n 1, 1) := by decide +kernel
theorem dX6_readDepth_26 : decode cX6_readDepth 26 = .ok (.ireturn, 1) := by decide +kernel
theorem dX6_readTrip_0 : decode cX6_readTrip 0 = .ok (.aload_n 1, 1) := by decide +kernel
theorem dX6_readTrip_1 : decode cX6_readTrip 1 = .ok (.getfield 132, 3) := by decide +kernel
theorem dX6_readTrip_4 : decode cX6_readTrip 4 = .ok (.bipush 10, 2) := by decide +kernel
theorem dX6_readTrip_6 : decode cX6_readTrip 6 = .ok (.if_icmp .lt 9, 3) := by decide +kernel
theorem dX6_readTrip_9 : decode cX6_readTrip 9 = .ok (.aload_n 0, 1) := by decide +kernel
theorem dX6_readTrip_10 : decode cX6_readTrip 10 = .ok (.iconst 2, 1) := by decide +kernel
theorem dX6_readTrip_11 : decode cX6_readTrip 11 = .ok (.invokevirtual 84, 3) := by decide +kernel
theorem dX6_readTrip_14 : decode cX6_readTrip 14 = .ok (.return_, 1) := by decide +kernel
theorem dX6_readTrip_15 : decode cX6_readTrip 15 = .ok (.aload_n 1, 1) := by decide +kernel
theorem dX6_readTrip_16 : decode cX6_readTrip 16 = .ok (.getfield 135, 3) := by decide +kernel
theorem dX6_readTrip_19 : decode cX6_readTrip 19 = .ok (.aload_n 1, 1) := by decide +kernel
theorem dX6_readTrip_20 : decode cX6_readTrip 20 = .ok (.getfield 132, 3) := by decide +kernel
theorem dX6_readTrip_23 : decode cX6_readTrip 23 = .ok (.aaload, 1) := by decide +kernel
theorem dX6_readTrip_24 : decode cX6_readTrip 24 = .ok (.astore_n 2, 1) := by decide +kernel
theorem dX6_readTrip_25 : decode cX6_readTrip 25 = .ok (.aload_n 2, 1) := by decide +kernel
theorem dX6_readTrip_26 : decode cX6_readTrip 26 = .ok (.aload_n 0, 1) := by decide +kernel
theorem dX6_readTrip_27 : decode cX6_readTrip 27 = .ok (.iconst 5, 1) := by decide +kernel
theorem dX6_readTrip_28 : decode cX6_readTrip 28 = .ok (.aload_n 1, 1) := by decide +kernel
theorem dX6_readTrip_29 : decode cX6_readTrip 29 = .ok (.getfield 88, 3) := by decide +kernel
theorem dX6_readTrip_32 : decode cX6_readTrip 32 = .ok (.invokevirtual 139, 3) := by decide +kernel
theorem dX6_readTrip_35 : decode cX6_readTrip 35 = .ok (.putfield 142, 3) := by decide +kernel
theorem dX6_readTrip_38 : decode cX6_readTrip 38 = .ok (.aload_n 0, 1) := by decide +kernel
theorem dX6_readTrip_39 : decode cX6_readTrip 39 = .ok (.invokevirtual 40, 3) := by decide +kernel
theorem dX6_readTrip_42 : decode cX6_readTrip 42 = .ok (.aload_n 2, 1) := by decide +kernel
theorem dX6_readTrip_43 : decode cX6_readTrip 43 = .ok (.aload_n 0, 1) := by decide +kernel
theorem dX6_readTrip_44 : decode cX6_readTrip 44 = .ok (.invokevirtual 146, 3) := by decide +kernel
theorem dX6_readTrip_47 : decode cX6_readTrip 47 = .ok (.putfield 149, 3) := by decide +kernel
theorem dX6_readTrip_50 : decode cX6_readTrip 50 = .ok (.aload_n 2, 1) := by decide +kernel
theorem dX6_readTrip_51 : decode cX6_readTrip 51 = .ok (.getfield 149, 3) := by decide +kernel
theorem dX6_readTrip_54 : decode cX6_readTrip 54 = .ok (.iconst 3, 1) := by decide +kernel
theorem dX6_readTrip_55 : decode cX6_readTrip 55 = .ok (.if_icmp .ne 20, 3) := by decide +kernel
theorem dX6_readTrip_58 : decode cX6_readTrip 58 = .ok (.aload_n 1, 1) := by decide +kernel
theorem dX6_readTrip_59 : decode cX6_readTrip 59 = .ok (.aload_n 2, 1) := by decide +kernel
theorem dX6_readTrip_60 : decode cX6_readTrip 60 = .ok (.getfield 142, 3) := by decide +kernel
theorem dX6_readTrip_63 : decode cX6_readTrip 63 = .ok (.invokevirtual 152, 3) := by decide +kernel
theorem dX6_readTrip_66 : decode cX6_readTrip 66 = .ok (.iconst (-1), 1) := by decide +kernel
theorem dX6_readTrip_67 : decode cX6_readTrip 67 = .ok (.if_icmp .eq 8, 3) := by decide +kernel
theorem dX6_readTrip_70 : decode cX6_readTrip 70 = .ok (.aload_n 0, 1) := by decide +kernel
theorem dX6_readTrip_71 : decode cX6_readTrip 71 = .ok (.iconst 4, 1) := by decide +kernel
theorem dX6_readTrip_72 : decode cX6_readTrip 72 = .ok (.invokevirtual 84, 3) := by decide +kernel
theorem dX6_readTrip_75 : decode cX6_readTrip 75 = .ok (.aload_n 2, 1) := by decide +kernel
theorem dX6_readTrip_76 : decode cX6_readTrip 76 = .ok (.aload_n 0, 1) := by decide +kernel
theorem dX6_readTrip_77 : decode cX6_readTrip 77 = .ok (.sipush 200, 3) := by decide +kernel
theorem dX6_readTrip_80 : decode cX6_readTrip 80 = .ok (.sipush 999, 3) := by decide +kernel
theorem dX6_readTrip_83 : decode cX6_readTrip 83 = .ok (.invokevirtual 95, 3) := by decide +kernel
theorem dX6_readTrip_86 : decode cX6_readTrip 86 = .ok (.putfield 156, 3) := by decide +kernel
theorem dX6_readTrip_89 : decode cX6_readTrip 89 = .ok (.aload_n 2, 1) := by decide +kernel
theorem dX6_readTrip_90 : decode cX6_readTrip 90 = .ok (.aload_n 0, 1) := by decide +kernel
theorem dX6_readTrip_91 : decode cX6_readTrip 91 = .ok (.iconst 0, 1) := by decide +kernel
theorem dX6_readTrip_92 : decode cX6_readTrip 92 = .ok (.bipush 99, 2) := by decide +kernel
theorem dX6_readTrip_94 : decode cX6_readTrip 94 = .ok (.invokevirtual 95, 3) := by decide +kernel
theorem dX6_readTrip_97 : decode cX6_readTrip 97 = .ok (.putfield 159, 3) := by decide +kernel
theorem dX6_readTrip_100 : decode cX6_readTrip 100 = .ok (.aload_n 0, 1) := by decide +kernel
theorem dX6_readTrip_101 : decode cX6_readTrip 101 = .ok (.invokevirtual 162, 3) := by decide +kernel
theorem dX6_readTrip_104 : decode cX6_readTrip 104 = .ok (.aload_n 1, 1) := by decide +kernel
theorem dX6_readTrip_105 : decode cX6_readTrip 105 = .ok (.dup, 1) := by decide +kernel
theorem dX6_readTrip_106 : decode cX6_readTrip 106 = .ok (.getfield 132, 3) := by decide +kernel
theorem dX6_readTrip_109 : decode cX6_readTrip 109 = .ok (.iconst 1, 1) := by decide +kernel
theorem dX6_readTrip_110 : decode cX6_readTrip 110 = .ok (.iadd, 1) := by decide +kernel
theorem dX6_readTrip_111 : decode cX6_readTrip 111 = .ok (.putfield 132, 3) := by decide +kernel
theorem dX6_readTrip_114 : decode cX6_readTrip 114 = .ok (.return_, 1) := by decide +kernel
theorem dX6_readSort_0 : decode cX6_readSort 0 = .ok (.aload_n 0, 1) := by decide +kernel
theorem dX6_readSort_1 : decode cX6_readSort 1 = .ok (.ldc 165, 2) := by decide +kernel
theorem dX6_readSort_3 : decode cX6_readSort 3 = .ok (.invokevirtual 52, 3) := by decide +kernel
theorem dX6_readSort_6 : decode cX6_readSort 6 = .ok (.ifCond .eq 5, 3) := by decide +kernel
theorem dX6_readSort_9 : decode cX6_readSort 9 = .ok (.iconst 0, 1) := by decide +kernel
theorem dX6_readSort_10 : decode cX6_readSort 10 = .ok (.ireturn, 1) := by decide +kernel
theorem dX6_readSort_11 : decode cX6_readSort 11 = .ok (.aload_n 0, 1) := by decide +kernel
theorem dX6_readSort_12 : decode cX6_readSort 12 = .ok (.ldc 167, 2) := by decide +kernel
theorem dX6_readSort_14 : decode cX6_readSort 14 = .ok (.invokevirtual 52, 3) := by decide +kernel
theorem dX6_readSort_17 : decode cX6_readSort 17 = .ok (.ifCond .eq 5, 3) := by decide +kernel
theorem dX6_readSort_20 : decode cX6_readSort 20 = .ok (.iconst 1, 1) := by decide +kernel
theorem dX6_readSort_21 : decode cX6_readSort 21 = .ok (.ireturn, 1) := by decide +kernel
theorem dX6_readSort_22 : decode cX6_readSort 22 = .ok (.aload_n 0, 1) := by decide +kernel
theorem dX6_readSort_23 : decode cX6_readSort 23 = .ok (.ldc 169, 2) := by decide +kernel
theorem dX6_readSort_25 : decode cX6_readSort 25 = .ok (.invokevirtual 52, 3) := by decide +kernel
theorem dX6_readSort_28 : decode cX6_readSort 28 = .ok (.ifCond .eq 5, 3) := by decide +kernel
theorem dX6_readSort_31 : decode cX6_readSort 31 = .ok (.iconst 2, 1) := by decide +kernel
theorem dX6_readSort_32 : decode cX6_readSort 32 = .ok (.ireturn, 1) := by decide +kernel
theorem dX6_readSort_33 : decode cX6_readSort 33 = .ok (.aload_n 0, 1) := by decide +kernel
theorem dX6_readSort_34 : decode cX6_readSort 34 = .ok (.ldc 171, 2) := by decide +kernel
theorem dX6_readSort_36 : decode cX6_readSort 36 = .ok (.invokevirtual 52, 3) := by decide +kernel
theorem dX6_readSort_39 : decode cX6_readSort 39 = .ok (.ifCond .eq 5, 3) := by decide +kernel
theorem dX6_readSort_42 : decode cX6_readSort 42 = .ok (.iconst 3, 1) := by decide +kernel
theorem dX6_readSort_43 : decode cX6_readSort 43 = .ok (.ireturn, 1) := by decide +kernel
theorem dX6_readSort_44 : decode cX6_readSort 44 = .ok (.aload_n 0, 1) := by decide +kernel
theorem dX6_readSort_45 : decode cX6_readSort 45 = .ok (.iconst 1, 1) := by decide +kernel
theorem dX6_readSort_46 : decode cX6_readSort 46 = .ok (.invokevirtual 84, 3) := by decide +kernel
theorem dX6_readSort_49 : decode cX6_readSort 49 = .ok (.iconst 2, 1) := by decide +kernel
theorem dX6_readSort_50 : decode cX6_readSort 50 = .ok (.ireturn, 1) := by decide +kernel
theorem dX6_readDevice_0 : decode cX6_readDevice 0 = .ok (.aload_n 1, 1) := by decide +kernel
theorem dX6_readDevice_1 : decode cX6_readDevice 1 = .ok (.getfield 173, 3) := by decide +kernel
theorem dX6_readDevice_4 : decode cX6_readDevice 4 = .ok (.bipush 6, 2) := by decide +kernel
theorem dX6_readDevice_6 : decode cX6_readDevice 6 = .ok (.if_icmp .lt 9, 3) := by decide +kernel
theorem dX6_readDevice_9 : decode cX6_readDevice 9 = .ok (.aload_n 0, 1) := by decide +kernel
theorem dX6_readDevice_10 : decode cX6_readDevice 10 = .ok (.iconst 2, 1) := by decide +kernel
theorem dX6_readDevice_11 : decode cX6_readDevice 11 = .ok (.invokevirtual 84, 3) := by decide +kernel
theorem dX6_readDevice_14 : decode cX6_readDevice 14 = .ok (.return_, 1) := by decide +kernel
theorem dX6_readDevice_15 : decode cX6_readDevice 15 = .ok (.aload_n 1, 1) := by decide +kernel
theorem dX6_readDevice_16 : decode cX6_readDevice 16 = .ok (.getfield 176, 3) := by decide +kernel
theorem dX6_readDevice_19 : decode cX6_readDevice 19 = .ok (.aload_n 1, 1) := by decide +kernel
theorem dX6_readDevice_20 : decode cX6_readDevice 20 = .ok (.getfield 173, 3) := by decide +kernel
theorem dX6_readDevice_23 : decode cX6_readDevice 23 = .ok (.aaload, 1) := by decide +kernel
theorem dX6_readDevice_24 : decode cX6_readDevice 24 = .ok (.astore_n 2, 1) := by decide +kernel
theorem dX6_readDevice_25 : decode cX6_readDevice 25 = .ok (.aload_n 0, 1) := by decide +kernel
theorem dX6_readDevice_26 : decode cX6_readDevice 26 = .ok (.invokevirtual 40, 3) := by decide +kernel
theorem dX6_readDevice_29 : decode cX6_readDevice 29 = .ok (.aload_n 2, 1) := by decide +kernel
theorem dX6_readDevice_30 : decode cX6_readDevice 30 = .ok (.aload_n 0, 1) := by decide +kernel
theorem dX6_readDevice_31 : decode cX6_readDevice 31 = .ok (.invokevirtual 180, 3) := by decide +kernel
theorem dX6_readDevice_34 : decode cX6_readDevice 34 = .ok (.putfield 183, 3) := by decide +kernel
theorem dX6_readDevice_37 : decode cX6_readDevice 37 = .ok (.aload_n 2, 1) := by decide +kernel
theorem dX6_readDevice_38 : decode cX6_readDevice 38 = .ok (.aload_n 0, 1) := by decide +kernel
theorem dX6_readDevice_39 : decode cX6_readDevice 39 = .ok (.iconst 5, 1) := by decide +kernel
theorem dX6_readDevice_40 : decode cX6_readDevice 40 = .ok (.aload_n 1, 1) := by decide +kernel
theorem dX6_readDevice_41 : decode cX6_readDevice 41 = .ok (.getfield 88, 3) := by decide +kernel
theorem dX6_readDevice_44 : decode cX6_readDevice 44 = .ok (.invokevirtual 139, 3) := by decide +kernel
theorem dX6_readDevice_47 : decode cX6_readDevice 47 = .ok (.putfield 188, 3) := by decide +kernel
theorem dX6_readDevice_50 : decode cX6_readDevice 50 = .ok (.aload_n 2, 1) := by decide +kernel
theorem dX6_readDevice_51 : decode cX6_readDevice 51 = .ok (.aload_n 0, 1) := by decide +kernel
theorem dX6_readDevice_52 : decode cX6_readDevice 52 = .ok (.iconst 1, 1) := by decide +kernel
theorem dX6_readDevice_53 : decode cX6_readDevice 53 = .ok (.bipush 9, 2) := by decide +kernel
theorem dX6_readDevice_55 : decode cX6_readDevice 55 = .ok (.invokevirtual 95, 3) := by decide +kernel
theorem dX6_readDevice_58 : decode cX6_readDevice 58 = .ok (.putfield 189, 3) := by decide +kernel
theorem dX6_readDevice_61 : decode cX6_readDevice 61 = .ok (.aload_n 2, 1) := by decide +kernel
theorem dX6_readDevice_62 : decode cX6_readDevice 62 = .ok (.aload_n 0, 1) := by decide +kernel
theorem dX6_readDevice_63 : decode cX6_readDevice 63 = .ok (.iconst 1, 1) := by decide +kernel
theorem dX6_readDevice_64 : decode cX6_readDevice 64 = .ok (.bipush 30, 2) := by decide +kernel
theorem dX6_readDevice_66 : decode cX6_readDevice 66 = .ok (.invokevirtual 95, 3) := by decide +kernel
theorem dX6_readDevice_69 : decode cX6_readDevice 69 = .ok (.putfield 192, 3) := by decide +kernel
theorem dX6_readDevice_72 : decode cX6_readDevice 72 = .ok (.aload_n 0, 1) := by decide +kernel
theorem dX6_readDevice_73 : decode cX6_readDevice 73 = .ok (.invokevirtual 162, 3) := by decide +kernel
theorem dX6_readDevice_76 : decode cX6_readDevice 76 = .ok (.aload_n 1, 1) := by decide +kernel
theorem dX6_readDevice_77 : decode cX6_readDevice 77 = .ok (.dup, 1) := by decide +kernel
theorem dX6_readDevice_78 : decode cX6_readDevice 78 = .ok (.getfield 173, 3) := by decide +kernel
theorem dX6_readDevice_81 : decode cX6_readDevice 81 = .ok (.iconst 1, 1) := by decide +kernel
theorem dX6_readDevice_82 : decode cX6_readDevice 82 = .ok (.iadd, 1) := by decide +kernel
theorem dX6_readDevice_83 : decode cX6_readDevice 83 = .ok (.putfield 173, 3) := by decide +kernel
theorem dX6_readDevice_86 : decode cX6_readDevice 86 = .ok (.return_, 1) := by decide +kernel
theorem dX6_readMake_0 : decode cX6_readMake 0 = .ok (.aload_n 0, 1) := by decide +kernel
theorem dX6_readMake_1 : decode cX6_readMake 1 = .ok (.ldc 195, 2) := by decide +kernel
theorem dX6_readMake_3 : decode cX6_readMake 3 = .ok (.invokevirtual 52, 3) := by decide +kernel
theorem dX6_readMake_6 : decode cX6_readMake 6 = .ok (.ifCond .eq 5, 3) := by decide +kernel
theorem dX6_readMake_9 : decode cX6_readMake 9 = .ok (.iconst 0, 1) := by decide +kernel
theorem dX6_readMake_10 : decode cX6_readMake 10 = .ok (.ireturn, 1) := by decide +kernel
theorem dX6_readMake_11 : decode cX6_readMake 11 = .ok (.aload_n 0, 1) := by decide +kernel
theorem dX6_readMake_12 : decode cX6_readMake 12 = .ok (.ldc 197, 2) := by decide +kernel
theorem dX6_readMake_14 : decode cX6_readMake 14 = .ok (.invokevirtual 52, 3) := by decide +kernel
theorem dX6_readMake_17 : decode cX6_readMake 17 = .ok (.ifCond .eq 5, 3) := by decide +kernel
theorem dX6_readMake_20 : decode cX6_readMake 20 = .ok (.iconst 1, 1) := by decide +kernel
theorem dX6_readMake_21 : decode cX6_readMake 21 = .ok (.ireturn, 1) := by decide +kernel
theorem dX6_readMake_22 : decode cX6_readMake 22 = .ok (.aload_n 0, 1) := by decide +kernel
theorem dX6_readMake_23 : decode cX6_readMake 23 = .ok (.ldc 199, 2) := by decide +kernel
theorem dX6_readMake_25 : decode cX6_readMake 25 = .ok (.invokevirtual 52, 3) := by decide +kernel
theorem dX6_readMake_28 : decode cX6_readMake 28 = .ok (.ifCond .ne 8, 3) := by decide +kernel
theorem dX6_readMake_31 : decode cX6_readMake 31 = .ok (.aload_n 0, 1) := by decide +kernel
theorem dX6_readMake_32 : decode cX6_readMake 32 = .ok (.iconst 1, 1) := by decide +kernel
theorem dX6_readMake_33 : decode cX6_readMake 33 = .ok (.invokevirtual 84, 3) := by decide +kernel
theorem dX6_readMake_36 : decode cX6_readMake 36 = .ok (.iconst 2, 1) := by decide +kernel
theorem dX6_readMake_37 : decode cX6_readMake 37 = .ok (.ireturn, 1) := by decide +kernel
theorem dX6_readBind_0 : decode cX6_readBind 0 = .ok (.aload_n 0, 1) := by decide +kernel
theorem dX6_readBind_1 : decode cX6_readBind 1 = .ok (.bipush 10, 2) := by decide +kernel
theorem dX6_readBind_3 : decode cX6_readBind 3 = .ok (.aload_n 1, 1) := by decide +kernel
theorem dX6_readBind_4 : decode cX6_readBind 4 = .ok (.getfield 132, 3) := by decide +kernel
theorem dX6_readBind_7 : decode cX6_readBind 7 = .ok (.invokevirtual 139, 3) := by decide +kernel
theorem dX6_readBind_10 : decode cX6_readBind 10 = .ok (.istore_n 2, 1) := by decide +kernel
theorem dX6_readBind_11 : decode cX6_readBind 11 = .ok (.aload_n 1, 1) := by decide +kernel
theorem dX6_readBind_12 : decode cX6_readBind 12 = .ok (.getfield 135, 3) := by decide +kernel
theorem dX6_readBind_15 : decode cX6_readBind 15 = .ok (.iload_n 2, 1) := by decide +kernel
theorem dX6_readBind_16 : decode cX6_readBind 16 = .ok (.aaload, 1) := by decide +kernel
theorem dX6_readBind_17 : decode cX6_readBind 17 = .ok (.getfield 149, 3) := by decide +kernel
theorem dX6_readBind_20 : decode cX6_readBind 20 = .ok (.ifCond .eq 21, 3) := by decide +kernel
theorem dX6_readBind_23 : decode cX6_readBind 23 = .ok (.aload_n 1, 1) := by decide +kernel
theorem dX6_readBind_24 : decode cX6_readBind 24 = .ok (.getfield 135, 3) := by decide +kernel
theorem dX6_readBind_27 : decode cX6_readBind 27 = .ok (.iload_n 2, 1) := by decide +kernel
theorem dX6_readBind_28 : decode cX6_readBind 28 = .ok (.aaload, 1) := by decide +kernel
theorem dX6_readBind_29 : decode cX6_readBind 29 = .ok (.getfield 149, 3) := by decide +kernel
theorem dX6_readBind_32 : decode cX6_readBind 32 = .ok (.iconst 1, 1) := by decide +kernel
theorem dX6_readBind_33 : decode cX6_readBind 33 = .ok (.if_icmp .eq 8, 3) := by decide +kernel
theorem dX6_readBind_36 : decode cX6_readBind 36 = .ok (.aload_n 0, 1) := by decide +kernel
theorem dX6_readBind_37 : decode cX6_readBind 37 = .ok (.iconst 4, 1) := by decide +kernel
theorem dX6_readBind_38 : decode cX6_readBind 38 = .ok (.invokevirtual 84, 3) := by decide +kernel
theorem dX6_readBind_41 : decode cX6_readBind 41 = .ok (.aload_n 0, 1) := by decide +kernel
theorem dX6_readBind_42 : decode cX6_readBind 42 = .ok (.bipush 6, 2) := by decide +kernel
theorem dX6_readBind_44 : decode cX6_readBind 44 = .ok (.aload_n 1, 1) := by decide +kernel
theorem dX6_readBind_45 : decode cX6_readBind 45 = .ok (.getfield 173, 3) := by decide +kernel
theorem dX6_readBind_48 : decode cX6_readBind 48 = .ok (.invokevirtual 139, 3) := by decide +kernel
theorem dX6_readBind_51 : decode cX6_readBind 51 = .ok (.istore_n 3, 1) := by decide +kernel
theorem dX6_readBind_52 : decode cX6_readBind 52 = .ok (.aload_n 1, 1) := by decide +kernel
theorem dX6_readBind_53 : decode cX6_readBind 53 = .ok (.iload_n 2, 1) := by decide +kernel
theorem dX6_readBind_54 : decode cX6_readBind 54 = .ok (.iload_n 3, 1) := by decide +kernel
theorem dX6_readBind_55 : decode cX6_readBind 55 = .ok (.invokevirtual 201, 3) := by decide +kernel
theorem dX6_readBind_58 : decode cX6_readBind 58 = .ok (.iconst (-1), 1) := by decide +kernel
theorem dX6_readBind_59 : decode cX6_readBind 59 = .ok (.if_icmp .eq 8, 3) := by decide +kernel
theorem dX6_readBind_62 : decode cX6_readBind 62 = .ok (.aload_n 0, 1) := by decide +kernel
theorem dX6_readBind_63 : decode cX6_readBind 63 = .ok (.iconst 4, 1) := by decide +kernel
theorem dX6_readBind_64 : decode cX6_readBind 64 = .ok (.invokevirtual 84, 3) := by decide +kernel
theorem dX6_readBind_67 : decode cX6_readBind 67 = .ok (.aload_n 0, 1) := by decide +kernel
theorem dX6_readBind_68 : decode cX6_readBind 68 = .ok (.iconst 1, 1) := by decide +kernel
theorem dX6_readBind_69 : decode cX6_readBind 69 = .ok (.bipush 9, 2) := by decide +kernel
theorem dX6_readBind_71 : decode cX6_readBind 71 = .ok (.invokevirtual 95, 3) := by decide +kernel
theorem dX6_readBind_74 : decode cX6_readBind 74 = .ok (.istore 4, 2) := by decide +kernel
theorem dX6_readBind_76 : decode cX6_readBind 76 = .ok (.aload_n 0, 1) := by decide +kernel
theorem dX6_readBind_77 : decode cX6_readBind 77 = .ok (.invokevirtual 162, 3) := by decide +kernel
theorem dX6_readBind_80 : decode cX6_readBind 80 = .ok (.aload_n 0, 1) := by decide +kernel
theorem dX6_readBind_81 : decode cX6_readBind 81 = .ok (.getfield 24, 3) := by decide +kernel
theorem dX6_readBind_84 : decode cX6_readBind 84 = .ok (.ifCond .ne 11, 3) := by decide +kernel
theorem dX6_readBind_87 : decode cX6_readBind 87 = .ok (.aload_n 1, 1) := by decide +kernel
theorem dX6_readBind_88 : decode cX6_readBind 88 = .ok (.iload_n 2, 1) := by decide +kernel
theorem dX6_readBind_89 : decode cX6_readBind 89 = .ok (.iload_n 3, 1) := by decide +kernel
theorem dX6_readBind_90 : decode cX6_readBind 90 = .ok (.iload 4, 2) := by decide +kernel
theorem dX6_readBind_92 : decode cX6_readBind 92 = .ok (.invokevirtual 204, 3) := by decide +kernel
theorem dX6_readBind_95 : decode cX6_readBind 95 = .ok (.return_, 1) := by decide +kernel
theorem dX6_readWall_0 : decode cX6_readWall 0 = .ok (.aload_n 1, 1) := by decide +kernel
theorem dX6_readWall_1 : decode cX6_readWall 1 = .ok (.getfield 208, 3) := by decide +kernel
theorem dX6_readWall_4 : decode cX6_readWall 4 = .ok (.bipush 8, 2) := by decide +kernel
theorem dX6_readWall_6 : decode cX6_readWall 6 = .ok (.if_icmp .lt 9, 3) := by decide +kernel
theorem dX6_readWall_9 : decode cX6_readWall 9 = .ok (.aload_n 0, 1) := by decide +kernel
theorem dX6_readWall_10 : decode cX6_readWall 10 = .ok (.iconst 2, 1) := by decide +kernel
theorem dX6_readWall_11 : decode cX6_readWall 11 = .ok (.invokevirtual 84, 3) := by decide +kernel
theorem dX6_readWall_14 : decode cX6_readWall 14 = .ok (.return_, 1) := by decide +kernel
theorem dX6_readWall_15 : decode cX6_readWall 15 = .ok (.aload_n 1, 1) := by decide +kernel
theorem dX6_readWall_16 : decode cX6_readWall 16 = .ok (.getfield 211, 3) := by decide +kernel
theorem dX6_readWall_19 : decode cX6_readWall 19 = .ok (.aload_n 1, 1) := by decide +kernel
theorem dX6_readWall_20 : decode cX6_readWall 20 = .ok (.getfield 208, 3) := by decide +kernel
theorem dX6_readWall_23 : decode cX6_readWall 23 = .ok (.aaload, 1) := by decide +kernel
theorem dX6_readWall_24 : decode cX6_readWall 24 = .ok (.astore_n 2, 1) := by decide +kernel
theorem dX6_readWall_25 : decode cX6_readWall 25 = .ok (.aload_n 2, 1) := by decide +kernel
theorem dX6_readWall_26 : decode cX6_readWall 26 = .ok (.aload_n 0, 1) := by decide +kernel
theorem dX6_readWall_27 : decode cX6_readWall 27 = .ok (.iconst 5, 1) := by decide +kernel
theorem dX6_readWall_28 : decode cX6_readWall 28 = .ok (.aload_n 1, 1) := by decide +kernel
theorem dX6_readWall_29 : decode cX6_readWall 29 = .ok (.getfield 88, 3) := by decide +kernel
theorem dX6_readWall_32 : decode cX6_readWall 32 = .ok (.invokevirtual 139, 3) := by decide +kernel
theorem dX6_readWall_35 : decode cX6_readWall 35 = .ok (.putfield 215, 3) := by decide +kernel
theorem dX6_readWall_38 : decode cX6_readWall 38 = .ok (.aload_n 2, 1) := by decide +kernel
theorem dX6_readWall_39 : decode cX6_readWall 39 = .ok (.aload_n 0, 1) := by decide +kernel
theorem dX6_readWall_40 : decode cX6_readWall 40 = .ok (.iconst 5, 1) := by decide +kernel
theorem dX6_readWall_41 : decode cX6_readWall 41 = .ok (.aload_n 1, 1) := by decide +kernel
theorem dX6_readWall_42 : decode cX6_readWall 42 = .ok (.getfield 88, 3) := by decide +kernel
theorem dX6_readWall_45 : decode cX6_readWall 45 = .ok (.invokevirtual 139, 3) := by decide +kernel
theorem dX6_readWall_48 : decode cX6_readWall 48 = .ok (.putfield 220, 3) := by decide +kernel
theorem dX6_readWall_51 : decode cX6_readWall 51 = .ok (.aload_n 2, 1) := by decide +kernel
theorem dX6_readWall_52 : decode cX6_readWall 52 = .ok (.getfield 220, 3) := by decide +kernel
theorem dX6_readWall_55 : decode cX6_readWall 55 = .ok (.aload_n 2, 1) := by decide +kernel
theorem dX6_readWall_56 : decode cX6_readWall 56 = .ok (.getfield 215, 3) := by decide +kernel
theorem dX6_readWall_59 : decode cX6_readWall 59 = .ok (.if_icmp .ne 8, 3) := by decide +kernel
theorem dX6_readWall_62 : decode cX6_readWall 62 = .ok (.aload_n 0, 1) := by decide +kernel
theorem dX6_readWall_63 : decode cX6_readWall 63 = .ok (.iconst 4, 1) := by decide +kernel
theorem dX6_readWall_64 : decode cX6_readWall 64 = .ok (.invokevirtual 84, 3) := by decide +kernel
theorem dX6_readWall_67 : decode cX6_readWall 67 = .ok (.aload_n 2, 1) := by decide +kernel
theorem dX6_readWall_68 : decode cX6_readWall 68 = .ok (.aload_n 0, 1) := by decide +kernel
theorem dX6_readWall_69 : decode cX6_readWall 69 = .ok (.iconst 1, 1) := by decide +kernel
theorem dX6_readWall_70 : decode cX6_readWall 70 = .ok (.bipush 50, 2) := by decide +kernel
theorem dX6_readWall_72 : decode cX6_readWall 72 = .ok (.invokevirtual 95, 3) := by decide +kernel
theorem dX6_readWall_75 : decode cX6_readWall 75 = .ok (.putfield 223, 3) := by decide +kernel
theorem dX6_readWall_78 : decode cX6_readWall 78 = .ok (.aload_n 0, 1) := by decide +kernel
theorem dX6_readWall_79 : decode cX6_readWall 79 = .ok (.invokevirtual 162, 3) := by decide +kernel
theorem dX6_readWall_82 : decode cX6_readWall 82 = .ok (.aload_n 1, 1) := by decide +kernel
theorem dX6_readWall_83 : decode cX6_readWall 83 = .ok (.dup, 1) := by decide +kernel
theorem dX6_readWall_84 : decode cX6_readWall 84 = .ok (.getfield 208, 3) := by decide +kernel
theorem dX6_readWall_87 : decode cX6_readWall 87 = .ok (.iconst 1, 1) := by decide +kernel
theorem dX6_readWall_88 : decode cX6_readWall 88 = .ok (.iadd, 1) := by decide +kernel
theorem dX6_readWall_89 : decode cX6_readWall 89 = .ok (.putfield 208, 3) := by decide +kernel
theorem dX6_readWall_92 : decode cX6_readWall 92 = .ok (.return_, 1) := by decide +kernel
theorem dX6_readForeseen_0 : decode cX6_readForeseen 0 = .ok (.aload_n 1, 1) := by decide +kernel
theorem dX6_readForeseen_1 : decode cX6_readForeseen 1 = .ok (.getfield 226, 3) := by decide +kernel
theorem dX6_readForeseen_4 : decode cX6_readForeseen 4 = .ok (.ifCond .eq 8, 3) := by decide +kernel
theorem dX6_readForeseen_7 : decode cX6_readForeseen 7 = .ok (.aload_n 0, 1) := by decide +kernel
theorem dX6_readForeseen_8 : decode cX6_readForeseen 8 = .ok (.iconst 4, 1) := by decide +kernel
theorem dX6_readForeseen_9 : decode cX6_readForeseen 9 = .ok (.invokevirtual 84, 3) := by decide +kernel
theorem dX6_readForeseen_12 : decode cX6_readForeseen 12 = .ok (.aload_n 1, 1) := by decide +kernel
theorem dX6_readForeseen_13 : decode cX6_readForeseen 13 = .ok (.iconst 1, 1) := by decide +kernel
theorem dX6_readForeseen_14 : decode cX6_readForeseen 14 = .ok (.putfield 226, 3) := by decide +kernel
theorem dX6_readForeseen_17 : decode cX6_readForeseen 17 = .ok (.aload_n 1, 1) := by decide +kernel
theorem dX6_readForeseen_18 : decode cX6_readForeseen 18 = .ok (.aload_n 0, 1) := by decide +kernel
theorem dX6_readForeseen_19 : decode cX6_readForeseen 19 = .ok (.iconst 0, 1) := by decide +kernel
theorem dX6_readForeseen_20 : decode cX6_readForeseen 20 = .ok (.bipush 9, 2) := by decide +kernel
theorem dX6_readForeseen_22 : decode cX6_readForeseen 22 = .ok (.invokevirtual 95, 3) := by decide +kernel
theorem dX6_readForeseen_25 : decode cX6_readForeseen 25 = .ok (.putfield 230, 3) := by decide +kernel
theorem dX6_readForeseen_28 : decode cX6_readForeseen 28 = .ok (.aload_n 0, 1) := by decide +kernel
theorem dX6_readForeseen_29 : decode cX6_readForeseen 29 = .ok (.invokevirtual 162, 3) := by decide +kernel
theorem dX6_readForeseen_32 : decode cX6_readForeseen 32 = .ok (.return_, 1) := by decide +kernel
theorem dX6_readTold_0 : decode cX6_readTold 0 = .ok (.aload_n 0, 1) := by decide +kernel
theorem dX6_readTold_1 : decode cX6_readTold 1 = .ok (.invokevirtual 40, 3) := by decide +kernel
theorem dX6_readTold_4 : decode cX6_readTold 4 = .ok (.aload_n 0, 1) := by decide +kernel
theorem dX6_readTold_5 : decode cX6_readTold 5 = .ok (.iconst 0, 1) := by decide +kernel
theorem dX6_readTold_6 : decode cX6_readTold 6 = .ok (.iload_n 1, 1) := by decide +kernel
theorem dX6_readTold_7 : decode cX6_readTold 7 = .ok (.iconst 1, 1) := by decide +kernel
theorem dX6_readTold_8 : decode cX6_readTold 8 = .ok (.isub, 1) := by decide +kernel
theorem dX6_readTold_9 : decode cX6_readTold 9 = .ok (.invokevirtual 129, 3) := by decide +kernel
theorem dX6_readTold_12 : decode cX6_readTold 12 = .ok (.istore_n 3, 1) := by decide +kernel
theorem dX6_readTold_13 : decode cX6_readTold 13 = .ok (.iload_n 3, 1) := by decide +kernel
theorem dX6_readTold_14 : decode cX6_readTold 14 = .ok (.iload_n 2, 1) := by decide +kernel
theorem dX6_readTold_15 : decode cX6_readTold 15 = .ok (.if_icmp .lt 8, 3) := by decide +kernel
theorem dX6_readTold_18 : decode cX6_readTold 18 = .ok (.aload_n 0, 1) := by decide +kernel
theorem dX6_readTold_19 : decode cX6_readTold 19 = .ok (.iconst 3, 1) := by decide +kernel
theorem dX6_readTold_20 : decode cX6_readTold 20 = .ok (.invokevirtual 84, 3) := by decide +kernel
theorem dX6_readTold_23 : decode cX6_readTold 23 = .ok (.aload_n 0, 1) := by decide +kernel
theorem dX6_readTold_24 : decode cX6_readTold 24 = .ok (.getfield 24, 3) := by decide +kernel
theorem dX6_readTold_27 : decode cX6_readTold 27 = .ok (.ifCond .ne 7, 3) := by decide +kernel
theorem dX6_readTold_30 : decode cX6_readTold 30 = .ok (.iload_n 3, 1) := by decide +kernel
theorem dX6_readTold_31 : decode cX6_readTold 31 = .ok (.goto 4, 3) := by decide +kernel
theorem dX6_readTold_34 : decode cX6_readTold 34 = .ok (.iconst 0, 1) := by decide +kernel
theorem dX6_readTold_35 : decode cX6_readTold 35 = .ok (.ireturn, 1) := by decide +kernel
theorem dX6_readNumber_0 : decode cX6_readNumber 0 = .ok (.aload_n 0, 1) := by decide +kernel
theorem dX6_readNumber_1 : decode cX6_readNumber 1 = .ok (.invokevirtual 40, 3) := by decide +kernel
theorem dX6_readNumber_4 : decode cX6_readNumber 4 = .ok (.aload_n 0, 1) := by decide +kernel
theorem dX6_readNumber_5 : decode cX6_readNumber 5 = .ok (.iload_n 1, 1) := by decide +kernel
theorem dX6_readNumber_6 : decode cX6_readNumber 6 = .ok (.iload_n 2, 1) := by decide +kernel
theorem dX6_readNumber_7 : decode cX6_readNumber 7 = .ok (.invokevirtual 129, 3) := by decide +kernel
theorem dX6_readNumber_10 : decode cX6_readNumber 10 = .ok (.ireturn, 1) := by decide +kernel
theorem dX6_needNumber_0 : decode cX6_needNumber 0 = .ok (.aload_n 0, 1) := by decide +kernel
theorem dX6_needNumber_1 : decode cX6_needNumber 1 = .ok (.getfield 18, 3) := by decide +kernel
theorem dX6_needNumber_4 : decode cX6_needNumber 4 = .ok (.iconst 2, 1) := by decide +kernel
theorem dX6_needNumber_5 : decode cX6_needNumber 5 = .ok (.if_icmp .ne 10, 3) := by decide +kernel
theorem dX6_needNumber_8 : decode cX6_needNumber 8 = .ok (.aload_n 0, 1) := by decide +kernel
theorem dX6_needNumber_9 : decode cX6_needNumber 9 = .ok (.invokevirtual 232, 3) := by decide +kernel
theorem dX6_needNumber_12 : decode cX6_needNumber 12 = .ok (.goto 4, 3) := by decide +kernel
theorem dX6_needNumber_15 : decode cX6_needNumber 15 = .ok (.iconst (-1), 1) := by decide +kernel
theorem dX6_needNumber_16 : decode cX6_needNumber 16 = .ok (.istore_n 3, 1) := by decide +kernel
theorem dX6_needNumber_17 : decode cX6_needNumber 17 = .ok (.aload_n 0, 1) := by decide +kernel
theorem dX6_needNumber_18 : decode cX6_needNumber 18 = .ok (.getfield 18, 3) := by decide +kernel
theorem dX6_needNumber_21 : decode cX6_needNumber 21 = .ok (.iconst 2, 1) := by decide +kernel
theorem dX6_needNumber_22 : decode cX6_needNumber 22 = .ok (.if_icmp .eq 11, 3) := by decide +kernel
theorem dX6_needNumber_25 : decode cX6_needNumber 25 = .ok (.aload_n 0, 1) := by decide +kernel
theorem dX6_needNumber_26 : decode cX6_needNumber 26 = .ok (.iconst 1, 1) := by decide +kernel
theorem dX6_needNumber_27 : decode cX6_needNumber 27 = .ok (.invokevirtual 84, 3) := by decide +kernel
theorem dX6_needNumber_30 : decode cX6_needNumber 30 = .ok (.goto 18, 3) := by decide +kernel
theorem dX6_needNumber_33 : decode cX6_needNumber 33 = .ok (.iload_n 3, 1) := by decide +kernel
theorem dX6_needNumber_34 : decode cX6_needNumber 34 = .ok (.iload_n 1, 1) := by decide +kernel
theorem dX6_needNumber_35 : decode cX6_needNumber 35 = .ok (.if_icmp .lt 8, 3) := by decide +kernel
theorem dX6_needNumber_38 : decode cX6_needNumber 38 = .ok (.iload_n 3, 1) := by decide +kernel
theorem dX6_needNumber_39 : decode cX6_needNumber 39 = .ok (.iload_n 2, 1) := by decide +kernel
theorem dX6_needNumber_40 : decode cX6_needNumber 40 = .ok (.if_icmp .le 8, 3) := by decide +kernel
theorem dX6_needNumber_43 : decode cX6_needNumber 43 = .ok (.aload_n 0, 1) := by decide +kernel
theorem dX6_needNumber_44 : decode cX6_needNumber 44 = .ok (.iconst 2, 1) := by decide +kernel
theorem dX6_needNumber_45 : decode cX6_needNumber 45 = .ok (.invokevirtual 84, 3) := by decide +kernel
theorem dX6_needNumber_48 : decode cX6_needNumber 48 = .ok (.aload_n 0, 1) := by decide +kernel
theorem dX6_needNumber_49 : decode cX6_needNumber 49 = .ok (.getfield 24, 3) := by decide +kernel
theorem dX6_needNumber_52 : decode cX6_needNumber 52 = .ok (.ifCond .ne 7, 3) := by decide +kernel
theorem dX6_needNumber_55 : decode cX6_needNumber 55 = .ok (.iload_n 3, 1) := by decide +kernel
theorem dX6_needNumber_56 : decode cX6_needNumber 56 = .ok (.goto 4, 3) := by decide +kernel
theorem dX6_needNumber_59 : decode cX6_needNumber 59 = .ok (.iload_n 1, 1) := by decide +kernel
theorem dX6_needNumber_60 : decode cX6_needNumber 60 = .ok (.ireturn, 1) := by decide +kernel
theorem dX6_readEnd_0 : decode cX6_readEnd 0 = .ok (.aload_n 0, 1) := by decide +kernel
theorem dX6_readEnd_1 : decode cX6_readEnd 1 = .ok (.invokevirtual 40, 3) := by decide +kernel
theorem dX6_readEnd_4 : decode cX6_readEnd 4 = .ok (.aload_n 0, 1) := by decide +kernel
theorem dX6_readEnd_5 : decode cX6_readEnd 5 = .ok (.invokevirtual 120, 3) := by decide +kernel
theorem dX6_readEnd_8 : decode cX6_readEnd 8 = .ok (.return_, 1) := by decide +kernel
theorem dX6_needSemicolon_0 : decode cX6_needSemicolon 0 = .ok (.aload_n 0, 1) := by decide +kernel
theorem dX6_needSemicolon_1 : decode cX6_needSemicolon 1 = .ok (.getfield 18, 3) := by decide +kernel
theorem dX6_needSemicolon_4 : decode cX6_needSemicolon 4 = .ok (.iconst 3, 1) := by decide +kernel
theorem dX6_needSemicolon_5 : decode cX6_needSemicolon 5 = .ok (.if_icmp .eq 8, 3) := by decide +kernel
theorem dX6_needSemicolon_8 : decode cX6_needSemicolon 8 = .ok (.aload_n 0, 1) := by decide +kernel
theorem dX6_needSemicolon_9 : decode cX6_needSemicolon 9 = .ok (.iconst 1, 1) := by decide +kernel
theorem dX6_needSemicolon_10 : decode cX6_needSemicolon 10 = .ok (.invokevirtual 84, 3) := by decide +kernel
theorem dX6_needSemicolon_13 : decode cX6_needSemicolon 13 = .ok (.return_, 1) := by decide +kernel
theorem dX6_fail_0 : decode cX6_fail 0 = .ok (.aload_n 0, 1) := by decide +kernel
theorem dX6_fail_1 : decode cX6_fail 1 = .ok (.getfield 24, 3) := by decide +kernel
theorem dX6_fail_4 : decode cX6_fail 4 = .ok (.ifCond .ne 8, 3) := by decide +kernel
theorem dX6_fail_7 : decode cX6_fail 7 = .ok (.aload_n 0, 1) := by decide +kernel
theorem dX6_fail_8 : decode cX6_fail 8 = .ok (.iload_n 1, 1) := by decide +kernel
theorem dX6_fail_9 : decode cX6_fail 9 = .ok (.putfield 24, 3) := by decide +kernel
theorem dX6_fail_12 : decode cX6_fail 12 = .ok (.return_, 1) := by decide +kernel
theorem dX6_nextToken_0 : decode cX6_nextToken 0 = .ok (.aload_n 0, 1) := by decide +kernel
theorem dX6_nextToken_1 : decode cX6_nextToken 1 = .ok (.getfield 24, 3) := by decide +kernel
theorem dX6_nextToken_4 : decode cX6_nextToken 4 = .ok (.ifCond .eq 4, 3) := by decide +kernel
theorem dX6_nextToken_7 : decode cX6_nextToken 7 = .ok (.return_, 1) := by decide +kernel
theorem dX6_nextToken_8 : decode cX6_nextToken 8 = .ok (.aload_n 0, 1) := by decide +kernel
theorem dX6_nextToken_9 : decode cX6_nextToken 9 = .ok (.getfield 15, 3) := by decide +kernel
theorem dX6_nextToken_12 : decode cX6_nextToken 12 = .ok (.aload_n 0, 1) := by decide +kernel
theorem dX6_nextToken_13 : decode cX6_nextToken 13 = .ok (.getfield 9, 3) := by decide +kernel
theorem dX6_nextToken_16 : decode cX6_nextToken 16 = .ok (.if_icmp .ge 44, 3) := by decide +kernel
theorem dX6_nextToken_19 : decode cX6_nextToken 19 = .ok (.aload_n 0, 1) := by decide +kernel
theorem dX6_nextToken_20 : decode cX6_nextToken 20 = .ok (.getfield 27, 3) := by decide +kernel
theorem dX6_nextToken_23 : decode cX6_nextToken 23 = .ok (.aload_n 0, 1) := by decide +kernel
theorem dX6_nextToken_24 : decode cX6_nextToken 24 = .ok (.getfield 15, 3) := by decide +kernel
theorem dX6_nextToken_27 : decode cX6_nextToken 27 = .ok (.baload, 1) := by decide +kernel
theorem dX6_nextToken_28 : decode cX6_nextToken 28 = .ok (.bipush 32, 2) := by decide +kernel
theorem dX6_nextToken_30 : decode cX6_nextToken 30 = .ok (.if_icmp .eq 17, 3) := by decide +kernel
theorem dX6_nextToken_33 : decode cX6_nextToken 33 = .ok (.aload_n 0, 1) := by decide +kernel
theorem dX6_nextToken_34 : decode cX6_nextToken 34 = .ok (.getfield 27, 3) := by decide +kernel
theorem dX6_nextToken_37 : decode cX6_nextToken 37 = .ok (.aload_n 0, 1) := by decide +kernel
theorem dX6_nextToken_38 : decode cX6_nextToken 38 = .ok (.getfield 15, 3) := by decide +kernel
theorem dX6_nextToken_41 : decode cX6_nextToken 41 = .ok (.baload, 1) := by decide +kernel
theorem dX6_nextToken_42 : decode cX6_nextToken 42 = .ok (.bipush 10, 2) := by decide +kernel
theorem dX6_nextToken_44 : decode cX6_nextToken 44 = .ok (.if_icmp .ne 16, 3) := by decide +kernel
theorem dX6_nextToken_47 : decode cX6_nextToken 47 = .ok (.aload_n 0, 1) := by decide +kernel
theorem dX6_nextToken_48 : decode cX6_nextToken 48 = .ok (.dup, 1) := by decide +kernel
theorem dX6_nextToken_49 : decode cX6_nextToken 49 = .ok (.getfield 15, 3) := by decide +kernel
theorem dX6_nextToken_52 : decode cX6_nextToken 52 = .ok (.iconst 1, 1) := by decide +kernel
theorem dX6_nextToken_53 : decode cX6_nextToken 53 = .ok (.iadd, 1) := by decide +kernel
theorem dX6_nextToken_54 : decode cX6_nextToken 54 = .ok (.putfield 15, 3) := by decide +kernel
theorem dX6_nextToken_57 : decode cX6_nextToken 57 = .ok (.goto (-49), 3) := by decide +kernel
theorem dX6_nextToken_60 : decode cX6_nextToken 60 = .ok (.aload_n 0, 1) := by decide +kernel
theorem dX6_nextToken_61 : decode cX6_nextToken 61 = .ok (.aload_n 0, 1) := by decide +kernel
theorem dX6_nextToken_62 : decode cX6_nextToken 62 = .ok (.getfield 15, 3) := by decide +kernel
theorem dX6_nextToken_65 : decode cX6_nextToken 65 = .ok (.putfield 21, 3) := by decide +kernel
theorem dX6_nextToken_68 : decode cX6_nextToken 68 = .ok (.aload_n 0, 1) := by decide +kernel
theorem dX6_nextToken_69 : decode cX6_nextToken 69 = .ok (.aload_n 0, 1) := by decide +kernel
theorem dX6_nextToken_70 : decode cX6_nextToken 70 = .ok (.aload_n 0, 1) := by decide +kernel
theorem dX6_nextToken_71 : decode cX6_nextToken 71 = .ok (.getfield 15, 3) := by decide +kernel
theorem dX6_nextToken_74 : decode cX6_nextToken 74 = .ok (.invokevirtual 235, 3) := by decide +kernel
theorem dX6_nextToken_77 : decode cX6_nextToken 77 = .ok (.putfield 18, 3) := by decide +kernel
theorem dX6_nextToken_80 : decode cX6_nextToken 80 = .ok (.aload_n 0, 1) := by decide +kernel
theorem dX6_nextToken_81 : decode cX6_nextToken 81 = .ok (.getfield 18, 3) := by decide +kernel
theorem dX6_nextToken_84 : decode cX6_nextToken 84 = .ok (.iconst 1, 1) := by decide +kernel
theorem dX6_nextToken_85 : decode cX6_nextToken 85 = .ok (.if_icmp .eq 11, 3) := by decide +kernel
theorem dX6_nextToken_88 : decode cX6_nextToken 88 = .ok (.aload_n 0, 1) := by decide +kernel
theorem dX6_nextToken_89 : decode cX6_nextToken 89 = .ok (.getfield 18, 3) := by decide +kernel
theorem dX6_nextToken_92 : decode cX6_nextToken 92 = .ok (.iconst 2, 1) := by decide +kernel
theorem dX6_nextToken_93 : decode cX6_nextToken 93 = .ok (.if_icmp .ne 7, 3) := by decide +kernel
theorem dX6_nextToken_96 : decode cX6_nextToken 96 = .ok (.iconst 1, 1) := by decide +kernel
theorem dX6_nextToken_97 : decode cX6_nextToken 97 = .ok (.goto 4, 3) := by decide +kernel
theorem dX6_nextToken_100 : decode cX6_nextToken 100 = .ok (.iconst 0, 1) := by decide +kernel
theorem dX6_nextToken_101 : decode cX6_nextToken 101 = .ok (.istore_n 1, 1) := by decide +kernel
theorem dX6_nextToken_102 : decode cX6_nextToken 102 = .ok (.aload_n 0, 1) := by decide +kernel
theorem dX6_nextToken_103 : decode cX6_nextToken 103 = .ok (.aload_n 0, 1) := by decide +kernel
theorem dX6_nextToken_104 : decode cX6_nextToken 104 = .ok (.getfield 15, 3) := by decide +kernel
theorem dX6_nextToken_107 : decode cX6_nextToken 107 = .ok (.iconst 1, 1) := by decide +kernel
theorem dX6_nextToken_108 : decode cX6_nextToken 108 = .ok (.iadd, 1) := by decide +kernel
theorem dX6_nextToken_109 : decode cX6_nextToken 109 = .ok (.aload_n 0, 1) := by decide +kernel
theorem dX6_nextToken_110 : decode cX6_nextToken 110 = .ok (.getfield 9, 3) := by decide +kernel
theorem dX6_nextToken_113 : decode cX6_nextToken 113 = .ok (.invokestatic 238, 3) := by decide +kernel
theorem dX6_nextToken_116 : decode cX6_nextToken 116 = .ok (.putfield 15, 3) := by decide +kernel
theorem dX6_nextToken_119 : decode cX6_nextToken 119 = .ok (.iload_n 1, 1) := by decide +kernel
theorem dX6_nextToken_120 : decode cX6_nextToken 120 = .ok (.ifCond .eq 42, 3) := by decide +kernel
theorem dX6_nextToken_123 : decode cX6_nextToken 123 = .ok (.aload_n 0, 1) := by decide +kernel
theorem dX6_nextToken_124 : decode cX6_nextToken 124 = .ok (.getfield 15, 3) := by decide +kernel
theorem dX6_nextToken_127 : decode cX6_nextToken 127 = .ok (.aload_n 0, 1) := by decide +kernel
theorem dX6_nextToken_128 : decode cX6_nextToken 128 = .ok (.getfield 9, 3) := by decide +kernel
theorem dX6_nextToken_131 : decode cX6_nextToken 131 = .ok (.if_icmp .ge 31, 3) := by decide +kernel
theorem dX6_nextToken_134 : decode cX6_nextToken 134 = .ok (.aload_n 0, 1) := by decide +kernel
theorem dX6_nextToken_135 : decode cX6_nextToken 135 = .ok (.aload_n 0, 1) := by decide +kernel
theorem dX6_nextToken_136 : decode cX6_nextToken 136 = .ok (.getfield 15, 3) := by decide +kernel
theorem dX6_nextToken_139 : decode cX6_nextToken 139 = .ok (.invokevirtual 235, 3) := by decide +kernel
theorem dX6_nextToken_142 : decode cX6_nextToken 142 = .ok (.aload_n 0, 1) := by decide +kernel
theorem dX6_nextToken_143 : decode cX6_nextToken 143 = .ok (.getfield 18, 3) := by decide +kernel
theorem dX6_nextToken_146 : decode cX6_nextToken 146 = .ok (.if_icmp .ne 16, 3) := by decide +kernel
theorem dX6_nextToken_149 : decode cX6_nextToken 149 = .ok (.aload_n 0, 1) := by decide +kernel
theorem dX6_nextToken_150 : decode cX6_nextToken 150 = .ok (.dup, 1) := by decide +kernel
theorem dX6_nextToken_151 : decode cX6_nextToken 151 = .ok (.getfield 15, 3) := by decide +kernel
theorem dX6_nextToken_154 : decode cX6_nextToken 154 = .ok (.iconst 1, 1) := by decide +kernel
theorem dX6_nextToken_155 : decode cX6_nextToken 155 = .ok (.iadd, 1) := by decide +kernel
theorem dX6_nextToken_156 : decode cX6_nextToken 156 = .ok (.putfield 15, 3) := by decide +kernel
theorem dX6_nextToken_159 : decode cX6_nextToken 159 = .ok (.goto (-40), 3) := by decide +kernel
theorem dX6_nextToken_162 : decode cX6_nextToken 162 = .ok (.return_, 1) := by decide +kernel
theorem dX6_tokenAt_0 : decode cX6_tokenAt 0 = .ok (.iload_n 1, 1) := by decide +kernel
theorem dX6_tokenAt_1 : decode cX6_tokenAt 1 = .ok (.aload_n 0, 1) := by decide +kernel
theorem dX6_tokenAt_2 : decode cX6_tokenAt 2 = .ok (.getfield 9, 3) := by decide +kernel
theorem dX6_tokenAt_5 : decode cX6_tokenAt 5 = .ok (.if_icmp .lt 5, 3) := by decide +kernel
theorem dX6_tokenAt_8 : decode cX6_tokenAt 8 = .ok (.iconst 0, 1) := by decide +kernel
theorem dX6_tokenAt_9 : decode cX6_tokenAt 9 = .ok (.ireturn, 1) := by decide +kernel
theorem dX6_tokenAt_10 : decode cX6_tokenAt 10 = .ok (.aload_n 0, 1) := by decide +kernel
theorem dX6_tokenAt_11 : decode cX6_tokenAt 11 = .ok (.getfield 27, 3) := by decide +kernel
theorem dX6_tokenAt_14 : decode cX6_tokenAt 14 = .ok (.iload_n 1, 1) := by decide +kernel
theorem dX6_tokenAt_15 : decode cX6_tokenAt 15 = .ok (.baload, 1) := by decide +kernel
theorem dX6_tokenAt_16 : decode cX6_tokenAt 16 = .ok (.bipush 97, 2) := by decide +kernel
theorem dX6_tokenAt_18 : decode cX6_tokenAt 18 = .ok (.if_icmp .lt 16, 3) := by decide +kernel
theorem dX6_tokenAt_21 : decode cX6_tokenAt 21 = .ok (.aload_n 0, 1) := by decide +kernel
theorem dX6_tokenAt_22 : decode cX6_tokenAt 22 = .ok (.getfield 27, 3) := by decide +kernel
theorem dX6_tokenAt_25 : decode cX6_tokenAt 25 = .ok (.iload_n 1, 1) := by decide +kernel
theorem dX6_tokenAt_26 : decode cX6_tokenAt 26 = .ok (.baload, 1) := by decide +kernel
theorem dX6_tokenAt_27 : decode cX6_tokenAt 27 = .ok (.bipush 122, 2) := by decide +kernel
theorem dX6_tokenAt_29 : decode cX6_tokenAt 29 = .ok (.if_icmp .gt 5, 3) := by decide +kernel
theorem dX6_tokenAt_32 : decode cX6_tokenAt 32 = .ok (.iconst 1, 1) := by decide +kernel
theorem dX6_tokenAt_33 : decode cX6_tokenAt 33 = .ok (.ireturn, 1) := by decide +kernel
theorem dX6_tokenAt_34 : decode cX6_tokenAt 34 = .ok (.aload_n 0, 1) := by decide +kernel
theorem dX6_tokenAt_35 : decode cX6_tokenAt 35 = .ok (.getfield 27, 3) := by decide +kernel
theorem dX6_tokenAt_38 : decode cX6_tokenAt 38 = .ok (.iload_n 1, 1) := by decide +kernel
theorem dX6_tokenAt_39 : decode cX6_tokenAt 39 = .ok (.baload, 1) := by decide +kernel
theorem dX6_tokenAt_40 : decode cX6_tokenAt 40 = .ok (.bipush 48, 2) := by decide +kernel
theorem dX6_tokenAt_42 : decode cX6_tokenAt 42 = .ok (.if_icmp .lt 16, 3) := by decide +kernel
theorem dX6_tokenAt_45 : decode cX6_tokenAt 45 = .ok (.aload_n 0, 1) := by decide +kernel
theorem dX6_tokenAt_46 : decode cX6_tokenAt 46 = .ok (.getfield 27, 3) := by decide +kernel
theorem dX6_tokenAt_49 : decode cX6_tokenAt 49 = .ok (.iload_n 1, 1) := by decide +kernel
theorem dX6_tokenAt_50 : decode cX6_tokenAt 50 = .ok (.baload, 1) := by decide +kernel
theorem dX6_tokenAt_51 : decode cX6_tokenAt 51 = .ok (.bipush 57, 2) := by decide +kernel
theorem dX6_tokenAt_53 : decode cX6_tokenAt 53 = .ok (.if_icmp .gt 5, 3) := by decide +kernel
theorem dX6_tokenAt_56 : decode cX6_tokenAt 56 = .ok (.iconst 2, 1) := by decide +kernel
theorem dX6_tokenAt_57 : decode cX6_tokenAt 57 = .ok (.ireturn, 1) := by decide +kernel
theorem dX6_tokenAt_58 : decode cX6_tokenAt 58 = .ok (.aload_n 0, 1) := by decide +kernel
theorem dX6_tokenAt_59 : decode cX6_tokenAt 59 = .ok (.getfield 27, 3) := by decide +kernel
theorem dX6_tokenAt_62 : decode cX6_tokenAt 62 = .ok (.iload_n 1, 1) := by decide +kernel
theorem dX6_tokenAt_63 : decode cX6_tokenAt 63 = .ok (.baload, 1) := by decide +kernel
theorem dX6_tokenAt_64 : decode cX6_tokenAt 64 = .ok (.bipush 59, 2) := by decide +kernel
theorem dX6_tokenAt_66 : decode cX6_tokenAt 66 = .ok (.if_icmp .ne 7, 3) := by decide +kernel
theorem dX6_tokenAt_69 : decode cX6_tokenAt 69 = .ok (.iconst 3, 1) := by decide +kernel
theorem dX6_tokenAt_70 : decode cX6_tokenAt 70 = .ok (.goto 4, 3) := by decide +kernel
theorem dX6_tokenAt_73 : decode cX6_tokenAt 73 = .ok (.iconst 4, 1) := by decide +kernel
theorem dX6_tokenAt_74 : decode cX6_tokenAt 74 = .ok (.ireturn, 1) := by decide +kernel
theorem dX6_numberHere_0 : decode cX6_numberHere 0 = .ok (.aload_n 0, 1) := by decide +kernel
theorem dX6_numberHere_1 : decode cX6_numberHere 1 = .ok (.getfield 15, 3) := by decide +kernel
theorem dX6_numberHere_4 : decode cX6_numberHere 4 = .ok (.aload_n 0, 1) := by decide +kernel
theorem dX6_numberHere_5 : decode cX6_numberHere 5 = .ok (.getfield 21, 3) := by decide +kernel
theorem dX6_numberHere_8 : decode cX6_numberHere 8 = .ok (.isub, 1) := by decide +kernel
theorem dX6_numberHere_9 : decode cX6_numberHere 9 = .ok (.iconst 3, 1) := by decide +kernel
theorem dX6_numberHere_10 : decode cX6_numberHere 10 = .ok (.if_icmp .le 5, 3) := by decide +kernel
theorem dX6_numberHere_13 : decode cX6_numberHere 13 = .ok (.iconst (-1), 1) := by decide +kernel
theorem dX6_numberHere_14 : decode cX6_numberHere 14 = .ok (.ireturn, 1) := by decide +kernel
theorem dX6_numberHere_15 : decode cX6_numberHere 15 = .ok (.iconst 0, 1) := by decide +kernel
theorem dX6_numberHere_16 : decode cX6_numberHere 16 = .ok (.istore_n 1, 1) := by decide +kernel
theorem dX6_numberHere_17 : decode cX6_numberHere 17 = .ok (.aload_n 0, 1) := by decide +kernel
theorem dX6_numberHere_18 : decode cX6_numberHere 18 = .ok (.getfield 21, 3) := by decide +kernel
theorem dX6_numberHere_21 : decode cX6_numberHere 21 = .ok (.istore_n 2, 1) := by decide +kernel
theorem dX6_numberHere_22 : decode cX6_numberHere 22 = .ok (.iload_n 2, 1) := by decide +kernel
theorem dX6_numberHere_23 : decode cX6_numberHere 23 = .ok (.aload_n 0, 1) := by decide +kernel
theorem dX6_numberHere_24 : decode cX6_numberHere 24 = .ok (.getfield 15, 3) := by decide +kernel
theorem dX6_numberHere_27 : decode cX6_numberHere 27 = .ok (.if_icmp .ge 24, 3) := by decide +kernel
theorem dX6_numberHere_30 : decode cX6_numberHere 30 = .ok (.iload_n 1, 1) := by decide +kernel
theorem dX6_numberHere_31 : decode cX6_numberHere 31 = .ok (.bipush 10, 2) := by decide +kernel
theorem dX6_numberHere_33 : decode cX6_numberHere 33 = .ok (.imul, 1) := by decide +kernel
theorem dX6_numberHere_34 : decode cX6_numberHere 34 = .ok (.aload_n 0, 1) := by decide +kernel
theorem dX6_numberHere_35 : decode cX6_numberHere 35 = .ok (.getfield 27, 3) := by decide +kernel
theorem dX6_numberHere_38 : decode cX6_numberHere 38 = .ok (.iload_n 2, 1) := by decide +kernel
theorem dX6_numberHere_39 : decode cX6_numberHere 39 = .ok (.baload, 1) := by decide +kernel
theorem dX6_numberHere_40 : decode cX6_numberHere 40 = .ok (.iadd, 1) := by decide +kernel
theorem dX6_numberHere_41 : decode cX6_numberHere 41 = .ok (.bipush 48, 2) := by decide +kernel
theorem dX6_numberHere_43 : decode cX6_numberHere 43 = .ok (.isub, 1) := by decide +kernel
theorem dX6_numberHere_44 : decode cX6_numberHere 44 = .ok (.istore_n 1, 1) := by decide +kernel
theorem dX6_numberHere_45 : decode cX6_numberHere 45 = .ok (.iinc 2 1, 3) := by decide +kernel
theorem dX6_numberHere_48 : decode cX6_numberHere 48 = .ok (.goto (-26), 3) := by decide +kernel
theorem dX6_numberHere_51 : decode cX6_numberHere 51 = .ok (.iload_n 1, 1) := by decide +kernel
theorem dX6_numberHere_52 : decode cX6_numberHere 52 = .ok (.ireturn, 1) := by decide +kernel
theorem dX6_isWord_0 : decode cX6_isWord 0 = .ok (.aload_n 0, 1) := by decide +kernel
theorem dX6_isWord_1 : decode cX6_isWord 1 = .ok (.getfield 18, 3) := by decide +kernel
theorem dX6_isWord_4 : decode cX6_isWord 4 = .ok (.iconst 1, 1) := by decide +kernel
theorem dX6_isWord_5 : decode cX6_isWord 5 = .ok (.if_icmp .ne 19, 3) := by decide +kernel
theorem dX6_isWord_8 : decode cX6_isWord 8 = .ok (.aload_n 0, 1) := by decide +kernel
theorem dX6_isWord_9 : decode cX6_isWord 9 = .ok (.getfield 15, 3) := by decide +kernel
theorem dX6_isWord_12 : decode cX6_isWord 12 = .ok (.aload_n 0, 1) := by decide +kernel
theorem dX6_isWord_13 : decode cX6_isWord 13 = .ok (.getfield 21, 3) := by decide +kernel
theorem dX6_isWord_16 : decode cX6_isWord 16 = .ok (.isub, 1) := by decide +kernel
theorem dX6_isWord_17 : decode cX6_isWord 17 = .ok (.aload_n 1, 1) := by decide +kernel
theorem dX6_isWord_18 : decode cX6_isWord 18 = .ok (.invokevirtual 243, 3) := by decide +kernel
theorem dX6_isWord_21 : decode cX6_isWord 21 = .ok (.if_icmp .eq 5, 3) := by decide +kernel
theorem dX6_isWord_24 : decode cX6_isWord 24 = .ok (.iconst 0, 1) := by decide +kernel
theorem dX6_isWord_25 : decode cX6_isWord 25 = .ok (.ireturn, 1) := by decide +kernel
theorem dX6_isWord_26 : decode cX6_isWord 26 = .ok (.iconst 0, 1) := by decide +kernel
theorem dX6_isWord_27 : decode cX6_isWord 27 = .ok (.istore_n 2, 1) := by decide +kernel
theorem dX6_isWord_28 : decode cX6_isWord 28 = .ok (.iload_n 2, 1) := by decide +kernel
theorem dX6_isWord_29 : decode cX6_isWord 29 = .ok (.aload_n 1, 1) := by decide +kernel
theorem dX6_isWord_30 : decode cX6_isWord 30 = .ok (.invokevirtual 243, 3) := by decide +kernel
theorem dX6_isWord_33 : decode cX6_isWord 33 = .ok (.if_icmp .ge 30, 3) := by decide +kernel
theorem dX6_isWord_36 : decode cX6_isWord 36 = .ok (.aload_n 0, 1) := by decide +kernel
theorem dX6_isWord_37 : decode cX6_isWord 37 = .ok (.getfield 27, 3) := by decide +kernel
theorem dX6_isWord_40 : decode cX6_isWord 40 = .ok (.aload_n 0, 1) := by decide +kernel
theorem dX6_isWord_41 : decode cX6_isWord 41 = .ok (.getfield 21, 3) := by decide +kernel
theorem dX6_isWord_44 : decode cX6_isWord 44 = .ok (.iload_n 2, 1) := by decide +kernel
theorem dX6_isWord_45 : decode cX6_isWord 45 = .ok (.iadd, 1) := by decide +kernel
theorem dX6_isWord_46 : decode cX6_isWord 46 = .ok (.baload, 1) := by decide +kernel
theorem dX6_isWord_47 : decode cX6_isWord 47 = .ok (.aload_n 1, 1) := by decide +kernel
theorem dX6_isWord_48 : decode cX6_isWord 48 = .ok (.iload_n 2, 1) := by decide +kernel
theorem dX6_isWord_49 : decode cX6_isWord 49 = .ok (.invokevirtual 247, 3) := by decide +kernel
theorem dX6_isWord_52 : decode cX6_isWord 52 = .ok (.if_icmp .eq 5, 3) := by decide +kernel
theorem dX6_isWord_55 : decode cX6_isWord 55 = .ok (.iconst 0, 1) := by decide +kernel
theorem dX6_isWord_56 : decode cX6_isWord 56 = .ok (.ireturn, 1) := by decide +kernel
theorem dX6_isWord_57 : decode cX6_isWord 57 = .ok (.iinc 2 1, 3) := by decide +kernel
theorem dX6_isWord_60 : decode cX6_isWord 60 = .ok (.goto (-32), 3) := by decide +kernel
theorem dX6_isWord_63 : decode cX6_isWord 63 = .ok (.iconst 1, 1) := by decide +kernel
theorem dX6_isWord_64 : decode cX6_isWord 64 = .ok (.ireturn, 1) := by decide +kernel
theorem dX7_init_0 : decode cX7_init 0 = .ok (.aload_n 0, 1) := by decide +kernel
theorem dX7_init_1 : decode cX7_init 1 = .ok (.invokespecial 3, 3) := by decide +kernel
theorem dX7_init_4 : decode cX7_init 4 = .ok (.aload_n 0, 1) := by decide +kernel
theorem dX7_init_5 : decode cX7_init 5 = .ok (.iconst 0, 1) := by decide +kernel
theorem dX7_init_6 : decode cX7_init 6 = .ok (.putfield 9, 3) := by decide +kernel
theorem dX7_init_9 : decode cX7_init 9 = .ok (.aload_n 0, 1) := by decide +kernel
theorem dX7_init_10 : decode cX7_init 10 = .ok (.iconst 0, 1) := by decide +kernel
theorem dX7_init_11 : decode cX7_init 11 = .ok (.putfield 15, 3) := by decide +kernel
theorem dX7_init_14 : decode cX7_init 14 = .ok (.aload_n 0, 1) := by decide +kernel
theorem dX7_init_15 : decode cX7_init 15 = .ok (.iconst 5, 1) := by decide +kernel
theorem dX7_init_16 : decode cX7_init 16 = .ok (.newarray .int, 2) := by decide +kernel
theorem dX7_init_18 : decode cX7_init 18 = .ok (.putfield 18, 3) := by decide +kernel
theorem dX7_init_21 : decode cX7_init 21 = .ok (.aload_n 0, 1) := by decide +kernel
theorem dX7_init_22 : decode cX7_init 22 = .ok (.iconst 5, 1) := by decide +kernel
theorem dX7_init_23 : decode cX7_init 23 = .ok (.newarray .int, 2) := by decide +kernel
theorem dX7_init_25 : decode cX7_init 25 = .ok (.putfield 22, 3) := by decide +kernel
theorem dX7_init_28 : decode cX7_init 28 = .ok (.aload_n 0, 1) := by decide +kernel
theorem dX7_init_29 : decode cX7_init 29 = .ok (.iconst 5, 1) := by decide +kernel
theorem dX7_init_30 : decode cX7_init 30 = .ok (.newarray .int, 2) := by decide +kernel
theorem dX7_init_32 : decode cX7_init 32 = .ok (.putfield 25, 3) := by decide +kernel
theorem dX7_init_35 : decode cX7_init 35 = .ok (.aload_n 0, 1) := by decide +kernel
theorem dX7_init_36 : decode cX7_init 36 = .ok (.iconst 5, 1) := by decide +kernel
theorem dX7_init_37 : decode cX7_init 37 = .ok (.newarray .int, 2) := by decide +kernel
theorem dX7_init_39 : decode cX7_init 39 = .ok (.putfield 28, 3) := by decide +kernel
theorem dX7_init_42 : decode cX7_init 42 = .ok (.aload_n 0, 1) := by decide +kernel
theorem dX7_init_43 : decode cX7_init 43 = .ok (.iconst 5, 1) := by decide +kernel
theorem dX7_init_44 : decode cX7_init 44 = .ok (.newarray .int, 2) := by decide +kernel
theorem dX7_init_46 : decode cX7_init 46 = .ok (.putfield 31, 3) := by decide +kernel
theorem dX7_init_49 : decode cX7_init 49 = .ok (.aload_n 0, 1) := by decide +kernel
theorem dX7_init_50 : decode cX7_init 50 = .ok (.iconst 5, 1) := by decide +kernel
theorem dX7_init_51 : decode cX7_init 51 = .ok (.newarray .int, 2) := by decide +kernel
theorem dX7_init_53 : decode cX7_init 53 = .ok (.putfield 34, 3) := by decide +kernel
theorem dX7_init_56 : decode cX7_init 56 = .ok (.aload_n 0, 1) := by decide +kernel
theorem dX7_init_57 : decode cX7_init 57 = .ok (.bipush 20, 2) := by decide +kernel
theorem dX7_init_59 : decode cX7_init 59 = .ok (.newarray .int, 2) := by decide +kernel
theorem dX7_init_61 : decode cX7_init 61 = .ok (.putfield 37, 3) := by decide +kernel
theorem dX7_init_64 : decode cX7_init 64 = .ok (.aload_n 0, 1) := by decide +kernel
theorem dX7_init_65 : decode cX7_init 65 = .ok (.bipush 10, 2) := by decide +kernel
theorem dX7_init_67 : decode cX7_init 67 = .ok (.newarray .int, 2) := by decide +kernel
theorem dX7_init_69 : decode cX7_init 69 = .ok (.putfield 40, 3) := by decide +kernel
theorem dX7_init_72 : decode cX7_init 72 = .ok (.aload_n 0, 1) := by decide +kernel
theorem dX7_init_73 : decode cX7_init 73 = .ok (.bipush 10, 2) := by decide +kernel
theorem dX7_init_75 : decode cX7_init 75 = .ok (.newarray .int, 2) := by decide +kernel
theorem dX7_init_77 : decode cX7_init 77 = .ok (.putfield 43, 3) := by decide +kernel
theorem dX7_init_80 : decode cX7_init 80 = .ok (.aload_n 0, 1) := by decide +kernel
theorem dX7_init_81 : decode cX7_init 81 = .ok (.bipush 6, 2) := by decide +kernel
theorem dX7_init_83 : decode cX7_init 83 = .ok (.newarray .int, 2) := by decide +kernel
theorem dX7_init_85 : decode cX7_init 85 = .ok (.putfield 46, 3) := by decide +kernel
theorem dX7_init_88 : decode cX7_init 88 = .ok (.aload_n 0, 1) := by decide +kernel
theorem dX7_init_89 : decode cX7_init 89 = .ok (.bipush 6, 2) := by decide +kernel
theorem dX7_init_91 : decode cX7_init 91 = .ok (.newarray .int, 2) := by decide +kernel
theorem dX7_init_93 : decode cX7_init 93 = .ok (.putfield 49, 3) := by decide +kernel
theorem dX7_init_96 : decode cX7_init 96 = .ok (.aload_n 0, 1) := by decide +kernel
theorem dX7_init_97 : decode cX7_init 97 = .ok (.bipush 6, 2) := by decide +kernel
theorem dX7_init_99 : decode cX7_init 99 = .ok (.newarray .int, 2) := by decide +kernel
theorem dX7_init_101 : decode cX7_init 101 = .ok (.putfield 52, 3) := by decide +kernel
theorem dX7_init_104 : decode cX7_init 104 = .ok (.aload_n 0, 1) := by decide +kernel
theorem dX7_init_105 : decode cX7_init 105 = .ok (.bipush 60, 2) := by decide +kernel
theorem dX7_init_107 : decode cX7_init 107 = .ok (.newarray .int, 2) := by decide +kernel
theorem dX7_init_109 : decode cX7_init 109 = .ok (.putfield 55, 3) := by decide +kernel
theorem dX7_init_112 : decode cX7_init 112 = .ok (.aload_n 0, 1) := by decide +kernel
theorem dX7_init_113 : decode cX7_init 113 = .ok (.sipush 160, 3) := by decide +kernel
theorem dX7_init_116 : decode cX7_init 116 = .ok (.newarray .int, 2) := by decide +kernel
theorem dX7_init_118 : decode cX7_init 118 = .ok (.putfield 58, 3) := by decide +kernel
theorem dX7_init_121 : decode cX7_init 121 = .ok (.aload_n 0, 1) := by decide +kernel
theorem dX7_init_122 : decode cX7_init 122 = .ok (.iconst 0, 1) := by decide +kernel
theorem dX7_init_123 : decode cX7_init 123 = .ok (.putfield 61, 3) := by decide +kernel
theorem dX7_init_126 : decode cX7_init 126 = .ok (.aload_n 0, 1) := by decide +kernel
theorem dX7_init_127 : decode cX7_init 127 = .ok (.iconst 0, 1) := by decide +kernel
theorem dX7_init_128 : decode cX7_init 128 = .ok (.putfield 64, 3) := by decide +kernel
theorem dX7_init_131 : decode cX7_init 131 = .ok (.aload_n 0, 1) := by decide +kernel
theorem dX7_init_132 : decode cX7_init 132 = .ok (.iconst 0, 1) := by decide +kernel
theorem dX7_init_133 : decode cX7_init 133 = .ok (.putfield 67, 3) := by decide +kernel
theorem dX7_init_136 : decode cX7_init 136 = .ok (.aload_n 0, 1) := by decide +kernel
theorem dX7_init_137 : decode cX7_init 137 = .ok (.aload_n 1, 1) := by decide +kernel
theorem dX7_init_138 : decode cX7_init 138 = .ok (.putfield 70, 3) := by decide +kernel
theorem dX7_init_141 : decode cX7_init 141 = .ok (.return_, 1) := by decide +kernel
theorem dX7_begin_0 : decode cX7_begin 0 = .ok (.aload_n 0, 1) := by decide +kernel
theorem dX7_begin_1 : decode cX7_begin 1 = .ok (.aload_n 1, 1) := by decide +kernel
theorem dX7_begin_2 : decode cX7_begin 2 = .ok (.putfield 70, 3) := by decide +kernel
theorem dX7_begin_5 : decode cX7_begin 5 = .ok (.aload_n 0, 1) := by decide +kernel
theorem dX7_begin_6 : decode cX7_begin 6 = .ok (.iconst 0, 1) := by decide +kernel
theorem dX7_begin_7 : decode cX7_begin 7 = .ok (.putfield 9, 3) := by decide +kernel
theorem dX7_begin_10 : decode cX7_begin 10 = .ok (.aload_n 0, 1) := by decide +kernel
theorem dX7_begin_11 : decode cX7_begin 11 = .ok (.aload_n 1, 1) := by decide +kernel
theorem dX7_begin_12 : decode cX7_begin 12 = .ok (.getfield 74, 3) := by decide +kernel
theorem dX7_begin_15 : decode cX7_begin 15 = .ok (.putfield 15, 3) := by decide +kernel
theorem dX7_begin_18 : decode cX7_begin 18 = .ok (.iconst 0, 1) := by decide +kernel
theorem dX7_begin_19 : decode cX7_begin 19 = .ok (.istore_n 2, 1) := by decide +kernel
theorem dX7_begin_20 : decode cX7_begin 20 = .ok (.iload_n 2, 1) := by decide +kernel
theorem dX7_begin_21 : decode cX7_begin 21 = .ok (.aload_n 1, 1) := by decide +kernel
theorem dX7_begin_22 : decode cX7_begin 22 = .ok (.getfield 77, 3) := by decide +kernel
theorem dX7_begin_25 : decode cX7_begin 25 = .ok (.if_icmp .ge 71, 3) := by decide +kernel
theorem dX7_begin_28 : decode cX7_begin 28 = .ok (.aload_n 0, 1) := by decide +kernel
theorem dX7_begin_29 : decode cX7_begin 29 = .ok (.getfield 18, 3) := by decide +kernel
theorem dX7_begin_32 : decode cX7_begin 32 = .ok (.iload_n 2, 1) := by decide +kernel
theorem dX7_begin_33 : decode cX7_begin 33 = .ok (.sipush 200, 3) := by decide +kernel
theorem dX7_begin_36 : decode cX7_begin 36 = .ok (.iastore, 1) := by decide +kernel
theorem dX7_begin_37 : decode cX7_begin 37 = .ok (.aload_n 0, 1) := by decide +kernel
theorem dX7_begin_38 : decode cX7_begin 38 = .ok (.getfield 28, 3) := by decide +kernel
theorem dX7_begin_41 : decode cX7_begin 41 = .ok (.iload_n 2, 1) := by decide +kernel
theorem dX7_begin_42 : decode cX7_begin 42 = .ok (.sipush 200, 3) := by decide +kernel
theorem dX7_begin_45 : decode cX7_begin 45 = .ok (.iastore, 1) := by decide +kernel
theorem dX7_begin_46 : decode cX7_begin 46 = .ok (.aload_n 0, 1) := by decide +kernel
theorem dX7_begin_47 : decode cX7_begin 47 = .ok (.getfield 31, 3) := by decide +kernel
theorem dX7_begin_50 : decode cX7_begin 50 = .ok (.iload_n 2, 1) := by decide +kernel
theorem dX7_begin_51 : decode cX7_begin 51 = .ok (.iconst 0, 1) := by decide +kernel
theorem dX7_begin_52 : decode cX7_begin 52 = .ok (.iastore, 1) := by decide +kernel
theorem dX7_begin_53 : decode cX7_begin 53 = .ok (.aload_n 0, 1) := by decide +kernel
theorem dX7_begin_54 : decode cX7_begin 54 = .ok (.getfield 34, 3) := by decide +kernel
theorem dX7_begin_57 : decode cX7_begin 57 = .ok (.iload_n 2, 1) := by decide +kernel
theorem dX7_begin_58 : decode cX7_begin 58 = .ok (.iconst 0, 1) := by decide +kernel
theorem dX7_begin_59 : decode cX7_begin 59 = .ok (.iastore, 1) := by decide +kernel
theorem dX7_begin_60 : decode cX7_begin 60 = .ok (.aload_n 0, 1) := by decide +kernel
theorem dX7_begin_61 : decode cX7_begin 61 = .ok (.getfield 22, 3) := by decide +kernel
theorem dX7_begin_64 : decode cX7_begin 64 = .ok (.iload_n 2, 1) := by decide +kernel
theorem dX7_begin_65 : decode cX7_begin 65 = .ok (.aload_n 1, 1) := by decide +kernel
theorem dX7_begin_66 : decode cX7_begin 66 = .ok (.getfield 80, 3) := by decide +kernel
theorem dX7_begin_69 : decode cX7_begin 69 = .ok (.iload_n 2, 1) := by decide +kernel
theorem dX7_begin_70 : decode cX7_begin 70 = .ok (.aaload, 1) := by decide +kernel
theorem dX7_begin_71 : decode cX7_begin 71 = .ok (.getfield 84, 3) := by decide +kernel
theorem dX7_begin_74 : decode cX7_begin 74 = .ok (.iastore, 1) := by decide +kernel
theorem dX7_begin_75 : decode cX7_begin 75 = .ok (.aload_n 0, 1) := by decide +kernel
theorem dX7_begin_76 : decode cX7_begin 76 = .ok (.getfield 25, 3) := by decide +kernel
theorem dX7_begin_79 : decode cX7_begin 79 = .ok (.iload_n 2, 1) := by decide +kernel
theorem dX7_begin_80 : decode cX7_begin 80 = .ok (.aload_n 1, 1) := by decide +kernel
theorem dX7_begin_81 : decode cX7_begin 81 = .ok (.getfield 80, 3) := by decide +kernel
theorem dX7_begin_84 : decode cX7_begin 84 = .ok (.iload_n 2, 1) := by decide +kernel
theorem dX7_begin_85 : decode cX7_begin 85 = .ok (.aaload, 1) := by decide +kernel
theorem dX7_begin_86 : decode cX7_begin 86 = .ok (.getfield 88, 3) := by decide +kernel
theorem dX7_begin_89 : decode cX7_begin 89 = .ok (.iastore, 1) := by decide +kernel
theorem dX7_begin_90 : decode cX7_begin 90 = .ok (.iinc 2 1, 3) := by decide +kernel
theorem dX7_begin_93 : decode cX7_begin 93 = .ok (.goto (-73), 3) := by decide +kernel
theorem dX7_begin_96 : decode cX7_begin 96 = .ok (.aload_n 0, 1) := by decide +kernel
theorem dX7_begin_97 : decode cX7_begin 97 = .ok (.getfield 37, 3) := by decide +kernel
theorem dX7_begin_100 : decode cX7_begin 100 = .ok (.sipush 200, 3) := by decide +kernel
theorem dX7_begin_103 : decode cX7_begin 103 = .ok (.invokestatic 90, 3) := by decide +kernel
theorem dX7_begin_106 : decode cX7_begin 106 = .ok (.aload_n 0, 1) := by decide +kernel
theorem dX7_begin_107 : decode cX7_begin 107 = .ok (.getfield 40, 3) := by decide +kernel
theorem dX7_begin_110 : decode cX7_begin 110 = .ok (.iconst 0, 1) := by decide +kernel
theorem dX7_begin_111 : decode cX7_begin 111 = .ok (.invokestatic 90, 3) := by decide +kernel
theorem dX7_begin_114 : decode cX7_begin 114 = .ok (.aload_n 0, 1) := by decide +kernel
theorem dX7_begin_115 : decode cX7_begin 115 = .ok (.getfield 43, 3) := by decide +kernel
theorem dX7_begin_118 : decode cX7_begin 118 = .ok (.iconst 0, 1) := by decide +kernel
theorem dX7_begin_119 : decode cX7_begin 119 = .ok (.invokestatic 90, 3) := by decide +kernel
theorem dX7_begin_122 : decode cX7_begin 122 = .ok (.iconst 0, 1) := by decide +kernel
theorem dX7_begin_123 : decode cX7_begin 123 = .ok (.istore_n 2, 1) := by decide +kernel
theorem dX7_begin_124 : decode cX7_begin 124 = .ok (.iload_n 2, 1) := by decide +kernel
theorem dX7_begin_125 : decode cX7_begin 125 = .ok (.aload_n 1, 1) := by decide +kernel
theorem dX7_begin_126 : decode cX7_begin 126 = .ok (.getfield 96, 3) := by decide +kernel
theorem dX7_begin_129 : decode cX7_begin 129 = .ok (.if_icmp .ge 38, 3) := by decide +kernel
theorem dX7_begin_132 : decode cX7_begin 132 = .ok (.aload_n 0, 1) := by decide +kernel
theorem dX7_begin_133 : decode cX7_begin 133 = .ok (.getfield 46, 3) := by decide +kernel
theorem dX7_begin_136 : decode cX7_begin 136 = .ok (.iload_n 2, 1) := by decide +kernel
theorem dX7_begin_137 : decode cX7_begin 137 = .ok (.iconst 0, 1) := by decide +kernel
theorem dX7_begin_138 : decode cX7_begin 138 = .ok (.iastore, 1) := by decide +kernel
theorem dX7_begin_139 : decode cX7_begin 139 = .ok (.aload_n 0, 1) := by decide +kernel
theorem dX7_begin_140 : decode cX7_begin 140 = .ok (.getfield 49, 3) := by decide +kernel
theorem dX7_begin_143 : decode cX7_begin 143 = .ok (.iload_n 2, 1) := by decide +kernel
theorem dX7_begin_144 : decode cX7_begin 144 = .ok (.iconst (-1), 1) := by decide +kernel
theorem dX7_begin_145 : decode cX7_begin 145 = .ok (.iastore, 1) := by decide +kernel
theorem dX7_begin_146 : decode cX7_begin 146 = .ok (.aload_n 0, 1) := by decide +kernel
theorem dX7_begin_147 : decode cX7_begin 147 = .ok (.getfield 52, 3) := by decide +kernel
theorem dX7_begin_150 : decode cX7_begin 150 = .ok (.iload_n 2, 1) := by decide +kernel
theorem dX7_begin_151 : decode cX7_begin 151 = .ok (.aload_n 1, 1) := by decide +kernel
theorem dX7_begin_152 : decode cX7_begin 152 = .ok (.getfield 99, 3) := by decide +kernel
theorem dX7_begin_155 : decode cX7_begin 155 = .ok (.iload_n 2, 1) := by decide +kernel
theorem dX7_begin_156 : decode cX7_begin 156 = .ok (.aaload, 1) := by decide +kernel
theorem dX7_begin_157 : decode cX7_begin 157 = .ok (.getfield 103, 3) := by decide +kernel
theorem dX7_begin_160 : decode cX7_begin 160 = .ok (.iastore, 1) := by decide +kernel
theorem dX7_begin_161 : decode cX7_begin 161 = .ok (.iinc 2 1, 3) := by decide +kernel
theorem dX7_begin_164 : decode cX7_begin 164 = .ok (.goto (-40), 3) := by decide +kernel
theorem dX7_begin_167 : decode cX7_begin 167 = .ok (.aload_n 0, 1) := by decide +kernel
theorem dX7_begin_168 : decode cX7_begin 168 = .ok (.getfield 55, 3) := by decide +kernel
theorem dX7_begin_171 : decode cX7_begin 171 = .ok (.iconst 0, 1) := by decide +kernel
theorem dX7_begin_172 : decode cX7_begin 172 = .ok (.invokestatic 90, 3) := by decide +kernel
theorem dX7_begin_175 : decode cX7_begin 175 = .ok (.aload_n 0, 1) := by decide +kernel
theorem dX7_begin_176 : decode cX7_begin 176 = .ok (.iconst 0, 1) := by decide +kernel
theorem dX7_begin_177 : decode cX7_begin 177 = .ok (.putfield 61, 3) := by decide +kernel
theorem dX7_begin_180 : decode cX7_begin 180 = .ok (.aload_n 0, 1) := by decide +kernel
theorem dX7_begin_181 : decode cX7_begin 181 = .ok (.iconst 0, 1) := by decide +kernel
theorem dX7_begin_182 : decode cX7_begin 182 = .ok (.putfield 64, 3) := by decide +kernel
theorem dX7_begin_185 : decode cX7_begin 185 = .ok (.aload_n 0, 1) := by decide +kernel
theorem dX7_begin_186 : decode cX7_begin 186 = .ok (.iconst 0, 1) := by decide +kernel
theorem dX7_begin_187 : decode cX7_begin 187 = .ok (.putfield 67, 3) := by decide +kernel
theorem dX7_begin_190 : decode cX7_begin 190 = .ok (.return_, 1) := by decide +kernel
theorem dX7_copyFrom_0 : decode cX7_copyFrom 0 = .ok (.aload_n 0, 1) := by decide +kernel
theorem dX7_copyFrom_1 : decode cX7_copyFrom 1 = .ok (.aload_n 1, 1) := by decide +kernel
theorem dX7_copyFrom_2 : decode cX7_copyFrom 2 = .ok (.getfield 70, 3) := by decide +kernel
theorem dX7_copyFrom_5 : decode cX7_copyFrom 5 = .ok (.putfield 70, 3) := by decide +kernel
theorem dX7_copyFrom_8 : decode cX7_copyFrom 8 = .ok (.aload_n 0, 1) := by decide +kernel
theorem dX7_copyFrom_9 : decode cX7_copyFrom 9 = .ok (.aload_n 1, 1) := by decide +kernel
theorem dX7_copyFrom_10 : decode cX7_copyFrom 10 = .ok (.getfield 9, 3) := by decide +kernel
theorem dX7_copyFrom_13 : decode cX7_copyFrom 13 = .ok (.putfield 9, 3) := by decide +kernel
theorem dX7_copyFrom_16 : decode cX7_copyFrom 16 = .ok (.aload_n 0, 1) := by decide +kernel
theorem dX7_copyFrom_17 : decode cX7_copyFrom 17 = .ok (.aload_n 1, 1) := by decide +kernel
theorem dX7_copyFrom_18 : decode cX7_copyFrom 18 = .ok (.getfield 15, 3) := by decide +kernel
theorem dX7_copyFrom_21 : decode cX7_copyFrom 21 = .ok (.putfield 15, 3) := by decide +kernel
theorem dX7_copyFrom_24 : decode cX7_copyFrom 24 = .ok (.aload_n 1, 1) := by decide +kernel
theorem dX7_copyFrom_25 : decode cX7_copyFrom 25 = .ok (.getfield 18, 3) := by decide +kernel
theorem dX7_copyFrom_28 : decode cX7_copyFrom 28 = .ok (.aload_n 0, 1) := by decide +kernel
theorem dX7_copyFrom_29 : decode cX7_copyFrom 29 = .ok (.getfield 18, 3) := by decide +kernel
theorem dX7_copyFrom_32 : decode cX7_copyFrom 32 = .ok (.invokestatic 107, 3) := by decide +kernel
theorem dX7_copyFrom_35 : decode cX7_copyFrom 35 = .ok (.aload_n 1, 1) := by decide +kernel
theorem dX7_copyFrom_36 : decode cX7_copyFrom 36 = .ok (.getfield 22, 3) := by decide +kernel
theorem dX7_copyFrom_39 : decode cX7_copyFrom 39 = .ok (.aload_n 0, 1) := by decide +kernel
theorem dX7_copyFrom_40 : decode cX7_copyFrom 40 = .ok (.getfield 22, 3) := by decide +kernel
theorem dX7_copyFrom_43 : decode cX7_copyFrom 43 = .ok (.invokestatic 107, 3) := by decide +kernel
theorem dX7_copyFrom_46 : decode cX7_copyFrom 46 = .ok (.aload_n 1, 1) := by decide +kernel
theorem dX7_copyFrom_47 : decode cX7_copyFrom 47 = .ok (.getfield 25, 3) := by decide +kernel
theorem dX7_copyFrom_50 : decode cX7_copyFrom 50 = .ok (.aload_n 0, 1) := by decide +kernel
theorem dX7_copyFrom_51 : decode cX7_copyFrom 51 = .ok (.getfield 25, 3) := by decide +kernel
theorem dX7_copyFrom_54 : decode cX7_copyFrom 54 = .ok (.invokestatic 107, 3) := by decide +kernel
theorem dX7_copyFrom_57 : decode cX7_copyFrom 57 = .ok (.aload_n 1, 1) := by decide +kernel
theorem dX7_copyFrom_58 : decode cX7_copyFrom 58 = .ok (.getfield 28, 3) := by decide +kernel
theorem dX7_copyFrom_61 : decode cX7_copyFrom 61 = .ok (.aload_n 0, 1) := by decide +kernel
theorem dX7_copyFrom_62 : decode cX7_copyFrom 62 = .ok (.getfield 28, 3) := by decide +kernel
theorem dX7_copyFrom_65 : decode cX7_copyFrom 65 = .ok (.invokestatic 107, 3) := by decide +kernel
theorem dX7_copyFrom_68 : decode cX7_copyFrom 68 = .ok (.aload_n 1, 1) := by decide +kernel
theorem dX7_copyFrom_69 : decode cX7_copyFrom 69 = .ok (.getfield 31, 3) := by decide +kernel
theorem dX7_copyFrom_72 : decode cX7_copyFrom 72 = .ok (.aload_n 0, 1) := by decide +kernel
theorem dX7_copyFrom_73 : decode cX7_copyFrom 73 = .ok (.getfield 31, 3) := by decide +kernel
theorem dX7_copyFrom_76 : decode cX7_copyFrom 76 = .ok (.invokestatic 107, 3) := by decide +kernel
theorem dX7_copyFrom_79 : decode cX7_copyFrom 79 = .ok (.aload_n 1, 1) := by decide +kernel
theorem dX7_copyFrom_80 : decode cX7_copyFrom 80 = .ok (.getfield 34, 3) := by decide +kernel
theorem dX7_copyFrom_83 : decode cX7_copyFrom 83 = .ok (.aload_n 0, 1) := by decide +kernel
theorem dX7_copyFrom_84 : decode cX7_copyFrom 84 = .ok (.getfield 34, 3) := by decide +kernel
theorem dX7_copyFrom_87 : decode cX7_copyFrom 87 = .ok (.invokestatic 107, 3) := by decide +kernel
theorem dX7_copyFrom_90 : decode cX7_copyFrom 90 = .ok (.aload_n 1, 1) := by decide +kernel
theorem dX7_copyFrom_91 : decode cX7_copyFrom 91 = .ok (.getfield 37, 3) := by decide +kernel
theorem dX7_copyFrom_94 : decode cX7_copyFrom 94 = .ok (.aload_n 0, 1) := by decide +kernel
theorem dX7_copyFrom_95 : decode cX7_copyFrom 95 = .ok (.getfield 37, 3) := by decide +kernel
theorem dX7_copyFrom_98 : decode cX7_copyFrom 98 = .ok (.invokestatic 107, 3) := by decide +kernel
theorem dX7_copyFrom_101 : decode cX7_copyFrom 101 = .ok (.aload_n 1, 1) := by decide +kernel
theorem dX7_copyFrom_102 : decode cX7_copyFrom 102 = .ok (.getfield 40, 3) := by decide +kernel
theorem dX7_copyFrom_105 : decode cX7_copyFrom 105 = .ok (.aload_n 0, 1) := by decide +kernel
theorem dX7_copyFrom_106 : decode cX7_copyFrom 106 = .ok (.getfield 40, 3) := by decide +kernel
theorem dX7_copyFrom_109 : decode cX7_copyFrom 109 = .ok (.invokestatic 107, 3) := by decide +kernel
theorem dX7_copyFrom_112 : decode cX7_copyFrom 112 = .ok (.aload_n 1, 1) := by decide +kernel
theorem dX7_copyFrom_113 : decode cX7_copyFrom 113 = .ok (.getfield 43, 3) := by decide +kernel
theorem dX7_copyFrom_116 : decode cX7_copyFrom 116 = .ok (.aload_n 0, 1) := by decide +kernel
