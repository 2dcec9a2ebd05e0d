theorem dX0_init_0 : decode cX0_init 0 = .ok (.aload_n 0, 1) := by decide +kernel
theorem dX0_init_1 : decode cX0_init 1 = .ok (.invokespecial 1, 3) := by decide +kernel
theorem dX0_init_4 : decode cX0_init 4 = .ok (.aload_n 0, 1) := by decide +kernel
theorem dX0_init_5 : decode cX0_init 5 = .ok (.iconst 0, 1) := by decide +kernel
theorem dX0_init_6 : decode cX0_init 6 = .ok (.putfield 7, 3) := by decide +kernel
theorem dX0_init_9 : decode cX0_init 9 = .ok (.aload_n 0, 1) := by decide +kernel
theorem dX0_init_10 : decode cX0_init 10 = .ok (.iconst 0, 1) := by decide +kernel
theorem dX0_init_11 : decode cX0_init 11 = .ok (.putfield 13, 3) := by decide +kernel
theorem dX0_init_14 : decode cX0_init 14 = .ok (.aload_n 0, 1) := by decide +kernel
theorem dX0_init_15 : decode cX0_init 15 = .ok (.iconst 1, 1) := by decide +kernel
theorem dX0_init_16 : decode cX0_init 16 = .ok (.putfield 16, 3) := by decide +kernel
theorem dX0_init_19 : decode cX0_init 19 = .ok (.return_, 1) := by decide +kernel
theorem dX0_comesBefore_0 : decode cX0_comesBefore 0 = .ok (.aload_n 0, 1) := by decide +kernel
theorem dX0_comesBefore_1 : decode cX0_comesBefore 1 = .ok (.getfield 7, 3) := by decide +kernel
theorem dX0_comesBefore_4 : decode cX0_comesBefore 4 = .ok (.aload_n 1, 1) := by decide +kernel
theorem dX0_comesBefore_5 : decode cX0_comesBefore 5 = .ok (.getfield 7, 3) := by decide +kernel
theorem dX0_comesBefore_8 : decode cX0_comesBefore 8 = .ok (.if_icmp .eq 20, 3) := by decide +kernel
theorem dX0_comesBefore_11 : decode cX0_comesBefore 11 = .ok (.aload_n 0, 1) := by decide +kernel
theorem dX0_comesBefore_12 : decode cX0_comesBefore 12 = .ok (.getfield 7, 3) := by decide +kernel
theorem dX0_comesBefore_15 : decode cX0_comesBefore 15 = .ok (.aload_n 1, 1) := by decide +kernel
theorem dX0_comesBefore_16 : decode cX0_comesBefore 16 = .ok (.getfield 7, 3) := by decide +kernel
theorem dX0_comesBefore_19 : decode cX0_comesBefore 19 = .ok (.if_icmp .ge 7, 3) := by decide +kernel
theorem dX0_comesBefore_22 : decode cX0_comesBefore 22 = .ok (.iconst 1, 1) := by decide +kernel
theorem dX0_comesBefore_23 : decode cX0_comesBefore 23 = .ok (.goto 4, 3) := by decide +kernel
theorem dX0_comesBefore_26 : decode cX0_comesBefore 26 = .ok (.iconst 0, 1) := by decide +kernel
theorem dX0_comesBefore_27 : decode cX0_comesBefore 27 = .ok (.ireturn, 1) := by decide +kernel
theorem dX0_comesBefore_28 : decode cX0_comesBefore 28 = .ok (.aload_n 0, 1) := by decide +kernel
theorem dX0_comesBefore_29 : decode cX0_comesBefore 29 = .ok (.getfield 16, 3) := by decide +kernel
theorem dX0_comesBefore_32 : decode cX0_comesBefore 32 = .ok (.aload_n 1, 1) := by decide +kernel
theorem dX0_comesBefore_33 : decode cX0_comesBefore 33 = .ok (.getfield 16, 3) := by decide +kernel
theorem dX0_comesBefore_36 : decode cX0_comesBefore 36 = .ok (.if_icmp .eq 22, 3) := by decide +kernel
theorem dX0_comesBefore_39 : decode cX0_comesBefore 39 = .ok (.aload_n 0, 1) := by decide +kernel
theorem dX0_comesBefore_40 : decode cX0_comesBefore 40 = .ok (.getfield 16, 3) := by decide +kernel
theorem dX0_comesBefore_43 : decode cX0_comesBefore 43 = .ok (.aload_n 1, 1) := by decide +kernel
theorem dX0_comesBefore_44 : decode cX0_comesBefore 44 = .ok (.getfield 16, 3) := by decide +kernel
theorem dX0_comesBefore_47 : decode cX0_comesBefore 47 = .ok (.if_icmp .le 7, 3) := by decide +kernel
theorem dX0_comesBefore_50 : decode cX0_comesBefore 50 = .ok (.iconst 1, 1) := by decide +kernel
theorem dX0_comesBefore_51 : decode cX0_comesBefore 51 = .ok (.goto 23, 3) := by decide +kernel
theorem dX0_comesBefore_54 : decode cX0_comesBefore 54 = .ok (.iconst 0, 1) := by decide +kernel
theorem dX0_comesBefore_55 : decode cX0_comesBefore 55 = .ok (.goto 19, 3) := by decide +kernel
theorem dX0_comesBefore_58 : decode cX0_comesBefore 58 = .ok (.aload_n 0, 1) := by decide +kernel
theorem dX0_comesBefore_59 : decode cX0_comesBefore 59 = .ok (.getfield 13, 3) := by decide +kernel
theorem dX0_comesBefore_62 : decode cX0_comesBefore 62 = .ok (.aload_n 1, 1) := by decide +kernel
theorem dX0_comesBefore_63 : decode cX0_comesBefore 63 = .ok (.getfield 13, 3) := by decide +kernel
theorem dX0_comesBefore_66 : decode cX0_comesBefore 66 = .ok (.if_icmp .ge 7, 3) := by decide +kernel
theorem dX0_comesBefore_69 : decode cX0_comesBefore 69 = .ok (.iconst 1, 1) := by decide +kernel
theorem dX0_comesBefore_70 : decode cX0_comesBefore 70 = .ok (.goto 4, 3) := by decide +kernel
theorem dX0_comesBefore_73 : decode cX0_comesBefore 73 = .ok (.iconst 0, 1) := by decide +kernel
theorem dX0_comesBefore_74 : decode cX0_comesBefore 74 = .ok (.ireturn, 1) := by decide +kernel
theorem dX1_init_0 : decode cX1_init 0 = .ok (.aload_n 0, 1) := by decide +kernel
theorem dX1_init_1 : decode cX1_init 1 = .ok (.invokespecial 3, 3) := by decide +kernel
theorem dX1_init_4 : decode cX1_init 4 = .ok (.aload_n 0, 1) := by decide +kernel
theorem dX1_init_5 : decode cX1_init 5 = .ok (.iconst 5, 1) := by decide +kernel
theorem dX1_init_6 : decode cX1_init 6 = .ok (.newarray .int, 2) := by decide +kernel
theorem dX1_init_8 : decode cX1_init 8 = .ok (.putfield 9, 3) := by decide +kernel
theorem dX1_init_11 : decode cX1_init 11 = .ok (.aload_n 0, 1) := by decide +kernel
theorem dX1_init_12 : decode cX1_init 12 = .ok (.iconst 4, 1) := by decide +kernel
theorem dX1_init_13 : decode cX1_init 13 = .ok (.newarray .int, 2) := by decide +kernel
theorem dX1_init_15 : decode cX1_init 15 = .ok (.putfield 15, 3) := by decide +kernel
theorem dX1_init_18 : decode cX1_init 18 = .ok (.return_, 1) := by decide +kernel
theorem dX1_passMinute_0 : decode cX1_passMinute 0 = .ok (.aload_n 0, 1) := by decide +kernel
theorem dX1_passMinute_1 : decode cX1_passMinute 1 = .ok (.aload_n 1, 1) := by decide +kernel
theorem dX1_passMinute_2 : decode cX1_passMinute 2 = .ok (.invokevirtual 18, 3) := by decide +kernel
theorem dX1_passMinute_5 : decode cX1_passMinute 5 = .ok (.aload_n 0, 1) := by decide +kernel
theorem dX1_passMinute_6 : decode cX1_passMinute 6 = .ok (.aload_n 1, 1) := by decide +kernel
theorem dX1_passMinute_7 : decode cX1_passMinute 7 = .ok (.invokevirtual 22, 3) := by decide +kernel
theorem dX1_passMinute_10 : decode cX1_passMinute 10 = .ok (.aload_n 0, 1) := by decide +kernel
theorem dX1_passMinute_11 : decode cX1_passMinute 11 = .ok (.aload_n 1, 1) := by decide +kernel
theorem dX1_passMinute_12 : decode cX1_passMinute 12 = .ok (.invokevirtual 25, 3) := by decide +kernel
theorem dX1_passMinute_15 : decode cX1_passMinute 15 = .ok (.aload_n 0, 1) := by decide +kernel
theorem dX1_passMinute_16 : decode cX1_passMinute 16 = .ok (.aload_n 1, 1) := by decide +kernel
theorem dX1_passMinute_17 : decode cX1_passMinute 17 = .ok (.invokevirtual 28, 3) := by decide +kernel
theorem dX1_passMinute_20 : decode cX1_passMinute 20 = .ok (.aload_n 0, 1) := by decide +kernel
theorem dX1_passMinute_21 : decode cX1_passMinute 21 = .ok (.aload_n 1, 1) := by decide +kernel
theorem dX1_passMinute_22 : decode cX1_passMinute 22 = .ok (.invokevirtual 31, 3) := by decide +kernel
theorem dX1_passMinute_25 : decode cX1_passMinute 25 = .ok (.aload_n 0, 1) := by decide +kernel
theorem dX1_passMinute_26 : decode cX1_passMinute 26 = .ok (.aload_n 1, 1) := by decide +kernel
theorem dX1_passMinute_27 : decode cX1_passMinute 27 = .ok (.invokevirtual 34, 3) := by decide +kernel
theorem dX1_passMinute_30 : decode cX1_passMinute 30 = .ok (.aload_n 1, 1) := by decide +kernel
theorem dX1_passMinute_31 : decode cX1_passMinute 31 = .ok (.dup, 1) := by decide +kernel
theorem dX1_passMinute_32 : decode cX1_passMinute 32 = .ok (.getfield 37, 3) := by decide +kernel
theorem dX1_passMinute_35 : decode cX1_passMinute 35 = .ok (.iconst 1, 1) := by decide +kernel
theorem dX1_passMinute_36 : decode cX1_passMinute 36 = .ok (.iadd, 1) := by decide +kernel
theorem dX1_passMinute_37 : decode cX1_passMinute 37 = .ok (.putfield 37, 3) := by decide +kernel
theorem dX1_passMinute_40 : decode cX1_passMinute 40 = .ok (.return_, 1) := by decide +kernel
theorem dX1_moveHeats_0 : decode cX1_moveHeats 0 = .ok (.aload_n 1, 1) := by decide +kernel
theorem dX1_moveHeats_1 : decode cX1_moveHeats 1 = .ok (.getfield 43, 3) := by decide +kernel
theorem dX1_moveHeats_4 : decode cX1_moveHeats 4 = .ok (.astore_n 2, 1) := by decide +kernel
theorem dX1_moveHeats_5 : decode cX1_moveHeats 5 = .ok (.iconst 0, 1) := by decide +kernel
theorem dX1_moveHeats_6 : decode cX1_moveHeats 6 = .ok (.istore_n 3, 1) := by decide +kernel
theorem dX1_moveHeats_7 : decode cX1_moveHeats 7 = .ok (.iload_n 3, 1) := by decide +kernel
theorem dX1_moveHeats_8 : decode cX1_moveHeats 8 = .ok (.aload_n 2, 1) := by decide +kernel
theorem dX1_moveHeats_9 : decode cX1_moveHeats 9 = .ok (.getfield 47, 3) := by decide +kernel
theorem dX1_moveHeats_12 : decode cX1_moveHeats 12 = .ok (.if_icmp .ge 60, 3) := by decide +kernel
theorem dX1_moveHeats_15 : decode cX1_moveHeats 15 = .ok (.aload_n 1, 1) := by decide +kernel
theorem dX1_moveHeats_16 : decode cX1_moveHeats 16 = .ok (.getfield 52, 3) := by decide +kernel
theorem dX1_moveHeats_19 : decode cX1_moveHeats 19 = .ok (.iload_n 3, 1) := by decide +kernel
theorem dX1_moveHeats_20 : decode cX1_moveHeats 20 = .ok (.iaload, 1) := by decide +kernel
theorem dX1_moveHeats_21 : decode cX1_moveHeats 21 = .ok (.istore 4, 2) := by decide +kernel
theorem dX1_moveHeats_23 : decode cX1_moveHeats 23 = .ok (.aload_n 0, 1) := by decide +kernel
theorem dX1_moveHeats_24 : decode cX1_moveHeats 24 = .ok (.getfield 9, 3) := by decide +kernel
theorem dX1_moveHeats_27 : decode cX1_moveHeats 27 = .ok (.iload_n 3, 1) := by decide +kernel
theorem dX1_moveHeats_28 : decode cX1_moveHeats 28 = .ok (.iload 4, 2) := by decide +kernel
theorem dX1_moveHeats_30 : decode cX1_moveHeats 30 = .ok (.aload_n 1, 1) := by decide +kernel
theorem dX1_moveHeats_31 : decode cX1_moveHeats 31 = .ok (.iload_n 3, 1) := by decide +kernel
theorem dX1_moveHeats_32 : decode cX1_moveHeats 32 = .ok (.invokevirtual 55, 3) := by decide +kernel
theorem dX1_moveHeats_35 : decode cX1_moveHeats 35 = .ok (.ifCond .eq 7, 3) := by decide +kernel
theorem dX1_moveHeats_38 : decode cX1_moveHeats 38 = .ok (.iconst 0, 1) := by decide +kernel
theorem dX1_moveHeats_39 : decode cX1_moveHeats 39 = .ok (.goto 9, 3) := by decide +kernel
theorem dX1_moveHeats_42 : decode cX1_moveHeats 42 = .ok (.aload_n 1, 1) := by decide +kernel
theorem dX1_moveHeats_43 : decode cX1_moveHeats 43 = .ok (.getfield 59, 3) := by decide +kernel
theorem dX1_moveHeats_46 : decode cX1_moveHeats 46 = .ok (.iload_n 3, 1) := by decide +kernel
theorem dX1_moveHeats_47 : decode cX1_moveHeats 47 = .ok (.iaload, 1) := by decide +kernel
theorem dX1_moveHeats_48 : decode cX1_moveHeats 48 = .ok (.iadd, 1) := by decide +kernel
theorem dX1_moveHeats_49 : decode cX1_moveHeats 49 = .ok (.iload 4, 2) := by decide +kernel
theorem dX1_moveHeats_51 : decode cX1_moveHeats 51 = .ok (.sipush 200, 3) := by decide +kernel
theorem dX1_moveHeats_54 : decode cX1_moveHeats 54 = .ok (.isub, 1) := by decide +kernel
theorem dX1_moveHeats_55 : decode cX1_moveHeats 55 = .ok (.aload_n 1, 1) := by decide +kernel
theorem dX1_moveHeats_56 : decode cX1_moveHeats 56 = .ok (.getfield 62, 3) := by decide +kernel
theorem dX1_moveHeats_59 : decode cX1_moveHeats 59 = .ok (.iload_n 3, 1) := by decide +kernel
theorem dX1_moveHeats_60 : decode cX1_moveHeats 60 = .ok (.iaload, 1) := by decide +kernel
theorem dX1_moveHeats_61 : decode cX1_moveHeats 61 = .ok (.invokestatic 65, 3) := by decide +kernel
theorem dX1_moveHeats_64 : decode cX1_moveHeats 64 = .ok (.isub, 1) := by decide +kernel
theorem dX1_moveHeats_65 : decode cX1_moveHeats 65 = .ok (.iastore, 1) := by decide +kernel
theorem dX1_moveHeats_66 : decode cX1_moveHeats 66 = .ok (.iinc 3 1, 3) := by decide +kernel
theorem dX1_moveHeats_69 : decode cX1_moveHeats 69 = .ok (.goto (-62), 3) := by decide +kernel
theorem dX1_moveHeats_72 : decode cX1_moveHeats 72 = .ok (.iconst 0, 1) := by decide +kernel
theorem dX1_moveHeats_73 : decode cX1_moveHeats 73 = .ok (.istore_n 3, 1) := by decide +kernel
theorem dX1_moveHeats_74 : decode cX1_moveHeats 74 = .ok (.iload_n 3, 1) := by decide +kernel
theorem dX1_moveHeats_75 : decode cX1_moveHeats 75 = .ok (.aload_n 2, 1) := by decide +kernel
theorem dX1_moveHeats_76 : decode cX1_moveHeats 76 = .ok (.getfield 69, 3) := by decide +kernel
theorem dX1_moveHeats_79 : decode cX1_moveHeats 79 = .ok (.if_icmp .ge 39, 3) := by decide +kernel
theorem dX1_moveHeats_82 : decode cX1_moveHeats 82 = .ok (.aload_n 0, 1) := by decide +kernel
theorem dX1_moveHeats_83 : decode cX1_moveHeats 83 = .ok (.getfield 9, 3) := by decide +kernel
theorem dX1_moveHeats_86 : decode cX1_moveHeats 86 = .ok (.aload_n 2, 1) := by decide +kernel
theorem dX1_moveHeats_87 : decode cX1_moveHeats 87 = .ok (.getfield 72, 3) := by decide +kernel
theorem dX1_moveHeats_90 : decode cX1_moveHeats 90 = .ok (.iload_n 3, 1) := by decide +kernel
theorem dX1_moveHeats_91 : decode cX1_moveHeats 91 = .ok (.aaload, 1) := by decide +kernel
theorem dX1_moveHeats_92 : decode cX1_moveHeats 92 = .ok (.getfield 76, 3) := by decide +kernel
theorem dX1_moveHeats_95 : decode cX1_moveHeats 95 = .ok (.dup2, 1) := by decide +kernel
theorem dX1_moveHeats_96 : decode cX1_moveHeats 96 = .ok (.iaload, 1) := by decide +kernel
theorem dX1_moveHeats_97 : decode cX1_moveHeats 97 = .ok (.aload_n 1, 1) := by decide +kernel
theorem dX1_moveHeats_98 : decode cX1_moveHeats 98 = .ok (.getfield 81, 3) := by decide +kernel
theorem dX1_moveHeats_101 : decode cX1_moveHeats 101 = .ok (.iload_n 3, 1) := by decide +kernel
theorem dX1_moveHeats_102 : decode cX1_moveHeats 102 = .ok (.iaload, 1) := by decide +kernel
theorem dX1_moveHeats_103 : decode cX1_moveHeats 103 = .ok (.aload_n 1, 1) := by decide +kernel
theorem dX1_moveHeats_104 : decode cX1_moveHeats 104 = .ok (.getfield 84, 3) := by decide +kernel
theorem dX1_moveHeats_107 : decode cX1_moveHeats 107 = .ok (.iload_n 3, 1) := by decide +kernel
theorem dX1_moveHeats_108 : decode cX1_moveHeats 108 = .ok (.iaload, 1) := by decide +kernel
theorem dX1_moveHeats_109 : decode cX1_moveHeats 109 = .ok (.imul, 1) := by decide +kernel
theorem dX1_moveHeats_110 : decode cX1_moveHeats 110 = .ok (.isub, 1) := by decide +kernel
theorem dX1_moveHeats_111 : decode cX1_moveHeats 111 = .ok (.iastore, 1) := by decide +kernel
theorem dX1_moveHeats_112 : decode cX1_moveHeats 112 = .ok (.iinc 3 1, 3) := by decide +kernel
theorem dX1_moveHeats_115 : decode cX1_moveHeats 115 = .ok (.goto (-41), 3) := by decide +kernel
theorem dX1_moveHeats_118 : decode cX1_moveHeats 118 = .ok (.iconst 0, 1) := by decide +kernel
theorem dX1_moveHeats_119 : decode cX1_moveHeats 119 = .ok (.istore_n 3, 1) := by decide +kernel
theorem dX1_moveHeats_120 : decode cX1_moveHeats 120 = .ok (.iload_n 3, 1) := by decide +kernel
theorem dX1_moveHeats_121 : decode cX1_moveHeats 121 = .ok (.aload_n 2, 1) := by decide +kernel
theorem dX1_moveHeats_122 : decode cX1_moveHeats 122 = .ok (.getfield 87, 3) := by decide +kernel
theorem dX1_moveHeats_125 : decode cX1_moveHeats 125 = .ok (.if_icmp .ge 78, 3) := by decide +kernel
theorem dX1_moveHeats_128 : decode cX1_moveHeats 128 = .ok (.aload_n 2, 1) := by decide +kernel
theorem dX1_moveHeats_129 : decode cX1_moveHeats 129 = .ok (.getfield 90, 3) := by decide +kernel
theorem dX1_moveHeats_132 : decode cX1_moveHeats 132 = .ok (.iload_n 3, 1) := by decide +kernel
theorem dX1_moveHeats_133 : decode cX1_moveHeats 133 = .ok (.aaload, 1) := by decide +kernel
theorem dX1_moveHeats_134 : decode cX1_moveHeats 134 = .ok (.astore 4, 2) := by decide +kernel
theorem dX1_moveHeats_136 : decode cX1_moveHeats 136 = .ok (.aload_n 1, 1) := by decide +kernel
theorem dX1_moveHeats_137 : decode cX1_moveHeats 137 = .ok (.getfield 52, 3) := by decide +kernel
theorem dX1_moveHeats_140 : decode cX1_moveHeats 140 = .ok (.aload 4, 2) := by decide +kernel
theorem dX1_moveHeats_142 : decode cX1_moveHeats 142 = .ok (.getfield 94, 3) := by decide +kernel
theorem dX1_moveHeats_145 : decode cX1_moveHeats 145 = .ok (.iaload, 1) := by decide +kernel
theorem dX1_moveHeats_146 : decode cX1_moveHeats 146 = .ok (.aload_n 1, 1) := by decide +kernel
theorem dX1_moveHeats_147 : decode cX1_moveHeats 147 = .ok (.getfield 52, 3) := by decide +kernel
theorem dX1_moveHeats_150 : decode cX1_moveHeats 150 = .ok (.aload 4, 2) := by decide +kernel
theorem dX1_moveHeats_152 : decode cX1_moveHeats 152 = .ok (.getfield 99, 3) := by decide +kernel
theorem dX1_moveHeats_155 : decode cX1_moveHeats 155 = .ok (.iaload, 1) := by decide +kernel
theorem dX1_moveHeats_156 : decode cX1_moveHeats 156 = .ok (.isub, 1) := by decide +kernel
theorem dX1_moveHeats_157 : decode cX1_moveHeats 157 = .ok (.aload 4, 2) := by decide +kernel
theorem dX1_moveHeats_159 : decode cX1_moveHeats 159 = .ok (.getfield 102, 3) := by decide +kernel
theorem dX1_moveHeats_162 : decode cX1_moveHeats 162 = .ok (.invokestatic 65, 3) := by decide +kernel
theorem dX1_moveHeats_165 : decode cX1_moveHeats 165 = .ok (.istore 5, 2) := by decide +kernel
theorem dX1_moveHeats_167 : decode cX1_moveHeats 167 = .ok (.aload_n 0, 1) := by decide +kernel
theorem dX1_moveHeats_168 : decode cX1_moveHeats 168 = .ok (.getfield 9, 3) := by decide +kernel
theorem dX1_moveHeats_171 : decode cX1_moveHeats 171 = .ok (.aload 4, 2) := by decide +kernel
theorem dX1_moveHeats_173 : decode cX1_moveHeats 173 = .ok (.getfield 94, 3) := by decide +kernel
theorem dX1_moveHeats_176 : decode cX1_moveHeats 176 = .ok (.dup2, 1) := by decide +kernel
theorem dX1_moveHeats_177 : decode cX1_moveHeats 177 = .ok (.iaload, 1) := by decide +kernel
theorem dX1_moveHeats_178 : decode cX1_moveHeats 178 = .ok (.iload 5, 2) := by decide +kernel
theorem dX1_moveHeats_180 : decode cX1_moveHeats 180 = .ok (.isub, 1) := by decide +kernel
theorem dX1_moveHeats_181 : decode cX1_moveHeats 181 = .ok (.iastore, 1) := by decide +kernel
theorem dX1_moveHeats_182 : decode cX1_moveHeats 182 = .ok (.aload_n 0, 1) := by decide +kernel
theorem dX1_moveHeats_183 : decode cX1_moveHeats 183 = .ok (.getfield 9, 3) := by decide +kernel
theorem dX1_moveHeats_186 : decode cX1_moveHeats 186 = .ok (.aload 4, 2) := by decide +kernel
theorem dX1_moveHeats_188 : decode cX1_moveHeats 188 = .ok (.getfield 99, 3) := by decide +kernel
theorem dX1_moveHeats_191 : decode cX1_moveHeats 191 = .ok (.dup2, 1) := by decide +kernel
theorem dX1_moveHeats_192 : decode cX1_moveHeats 192 = .ok (.iaload, 1) := by decide +kernel
theorem dX1_moveHeats_193 : decode cX1_moveHeats 193 = .ok (.iload 5, 2) := by decide +kernel
theorem dX1_moveHeats_195 : decode cX1_moveHeats 195 = .ok (.iadd, 1) := by decide +kernel
theorem dX1_moveHeats_196 : decode cX1_moveHeats 196 = .ok (.iastore, 1) := by decide +kernel
theorem dX1_moveHeats_197 : decode cX1_moveHeats 197 = .ok (.iinc 3 1, 3) := by decide +kernel
theorem dX1_moveHeats_200 : decode cX1_moveHeats 200 = .ok (.goto (-80), 3) := by decide +kernel
theorem dX1_moveHeats_203 : decode cX1_moveHeats 203 = .ok (.iconst 0, 1) := by decide +kernel
theorem dX1_moveHeats_204 : decode cX1_moveHeats 204 = .ok (.istore_n 3, 1) := by decide +kernel
theorem dX1_moveHeats_205 : decode cX1_moveHeats 205 = .ok (.iload_n 3, 1) := by decide +kernel
theorem dX1_moveHeats_206 : decode cX1_moveHeats 206 = .ok (.aload_n 2, 1) := by decide +kernel
theorem dX1_moveHeats_207 : decode cX1_moveHeats 207 = .ok (.getfield 47, 3) := by decide +kernel
theorem dX1_moveHeats_210 : decode cX1_moveHeats 210 = .ok (.if_icmp .ge 28, 3) := by decide +kernel
theorem dX1_moveHeats_213 : decode cX1_moveHeats 213 = .ok (.aload_n 1, 1) := by decide +kernel
theorem dX1_moveHeats_214 : decode cX1_moveHeats 214 = .ok (.getfield 52, 3) := by decide +kernel
theorem dX1_moveHeats_217 : decode cX1_moveHeats 217 = .ok (.iload_n 3, 1) := by decide +kernel
theorem dX1_moveHeats_218 : decode cX1_moveHeats 218 = .ok (.aload_n 0, 1) := by decide +kernel
theorem dX1_moveHeats_219 : decode cX1_moveHeats 219 = .ok (.getfield 9, 3) := by decide +kernel
theorem dX1_moveHeats_222 : decode cX1_moveHeats 222 = .ok (.iload_n 3, 1) := by decide +kernel
theorem dX1_moveHeats_223 : decode cX1_moveHeats 223 = .ok (.iaload, 1) := by decide +kernel
theorem dX1_moveHeats_224 : decode cX1_moveHeats 224 = .ok (.iconst 0, 1) := by decide +kernel
theorem dX1_moveHeats_225 : decode cX1_moveHeats 225 = .ok (.sipush 1500, 3) := by decide +kernel
theorem dX1_moveHeats_228 : decode cX1_moveHeats 228 = .ok (.invokestatic 105, 3) := by decide +kernel
theorem dX1_moveHeats_231 : decode cX1_moveHeats 231 = .ok (.iastore, 1) := by decide +kernel
theorem dX1_moveHeats_232 : decode cX1_moveHeats 232 = .ok (.iinc 3 1, 3) := by decide +kernel
theorem dX1_moveHeats_235 : decode cX1_moveHeats 235 = .ok (.goto (-30), 3) := by decide +kernel
theorem dX1_moveHeats_238 : decode cX1_moveHeats 238 = .ok (.return_, 1) := by decide +kernel
theorem dX1_readSensors_0 : decode cX1_readSensors 0 = .ok (.iconst 0, 1) := by decide +kernel
theorem dX1_readSensors_1 : decode cX1_readSensors 1 = .ok (.istore_n 2, 1) := by decide +kernel
theorem dX1_readSensors_2 : decode cX1_readSensors 2 = .ok (.iload_n 2, 1) := by decide +kernel
theorem dX1_readSensors_3 : decode cX1_readSensors 3 = .ok (.aload_n 1, 1) := by decide +kernel
theorem dX1_readSensors_4 : decode cX1_readSensors 4 = .ok (.getfield 43, 3) := by decide +kernel
theorem dX1_readSensors_7 : decode cX1_readSensors 7 = .ok (.getfield 47, 3) := by decide +kernel
theorem dX1_readSensors_10 : decode cX1_readSensors 10 = .ok (.if_icmp .ge 95, 3) := by decide +kernel
theorem dX1_readSensors_13 : decode cX1_readSensors 13 = .ok (.iload_n 2, 1) := by decide +kernel
theorem dX1_readSensors_14 : decode cX1_readSensors 14 = .ok (.iconst 4, 1) := by decide +kernel
theorem dX1_readSensors_15 : decode cX1_readSensors 15 = .ok (.imul, 1) := by decide +kernel
theorem dX1_readSensors_16 : decode cX1_readSensors 16 = .ok (.istore_n 3, 1) := by decide +kernel
theorem dX1_readSensors_17 : decode cX1_readSensors 17 = .ok (.iload_n 3, 1) := by decide +kernel
theorem dX1_readSensors_18 : decode cX1_readSensors 18 = .ok (.iconst 4, 1) := by decide +kernel
theorem dX1_readSensors_19 : decode cX1_readSensors 19 = .ok (.iadd, 1) := by decide +kernel
theorem dX1_readSensors_20 : decode cX1_readSensors 20 = .ok (.iconst 1, 1) := by decide +kernel
theorem dX1_readSensors_21 : decode cX1_readSensors 21 = .ok (.isub, 1) := by decide +kernel
theorem dX1_readSensors_22 : decode cX1_readSensors 22 = .ok (.istore 4, 2) := by decide +kernel
theorem dX1_readSensors_24 : decode cX1_readSensors 24 = .ok (.iload 4, 2) := by decide +kernel
theorem dX1_readSensors_26 : decode cX1_readSensors 26 = .ok (.iload_n 3, 1) := by decide +kernel
theorem dX1_readSensors_27 : decode cX1_readSensors 27 = .ok (.if_icmp .le 25, 3) := by decide +kernel
theorem dX1_readSensors_30 : decode cX1_readSensors 30 = .ok (.aload_n 1, 1) := by decide +kernel
theorem dX1_readSensors_31 : decode cX1_readSensors 31 = .ok (.getfield 109, 3) := by decide +kernel
theorem dX1_readSensors_34 : decode cX1_readSensors 34 = .ok (.iload 4, 2) := by decide +kernel
theorem dX1_readSensors_36 : decode cX1_readSensors 36 = .ok (.aload_n 1, 1) := by decide +kernel
theorem dX1_readSensors_37 : decode cX1_readSensors 37 = .ok (.getfield 109, 3) := by decide +kernel
theorem dX1_readSensors_40 : decode cX1_readSensors 40 = .ok (.iload 4, 2) := by decide +kernel
theorem dX1_readSensors_42 : decode cX1_readSensors 42 = .ok (.iconst 1, 1) := by decide +kernel
theorem dX1_readSensors_43 : decode cX1_readSensors 43 = .ok (.isub, 1) := by decide +kernel
theorem dX1_readSensors_44 : decode cX1_readSensors 44 = .ok (.iaload, 1) := by decide +kernel
theorem dX1_readSensors_45 : decode cX1_readSensors 45 = .ok (.iastore, 1) := by decide +kernel
theorem dX1_readSensors_46 : decode cX1_readSensors 46 = .ok (.iinc 4 (-1), 3) := by decide +kernel
theorem dX1_readSensors_49 : decode cX1_readSensors 49 = .ok (.goto (-25), 3) := by decide +kernel
theorem dX1_readSensors_52 : decode cX1_readSensors 52 = .ok (.aload_n 1, 1) := by decide +kernel
theorem dX1_readSensors_53 : decode cX1_readSensors 53 = .ok (.getfield 109, 3) := by decide +kernel
theorem dX1_readSensors_56 : decode cX1_readSensors 56 = .ok (.iload_n 3, 1) := by decide +kernel
theorem dX1_readSensors_57 : decode cX1_readSensors 57 = .ok (.aload_n 1, 1) := by decide +kernel
theorem dX1_readSensors_58 : decode cX1_readSensors 58 = .ok (.getfield 52, 3) := by decide +kernel
theorem dX1_readSensors_61 : decode cX1_readSensors 61 = .ok (.iload_n 2, 1) := by decide +kernel
theorem dX1_readSensors_62 : decode cX1_readSensors 62 = .ok (.iaload, 1) := by decide +kernel
theorem dX1_readSensors_63 : decode cX1_readSensors 63 = .ok (.iastore, 1) := by decide +kernel
theorem dX1_readSensors_64 : decode cX1_readSensors 64 = .ok (.aload_n 1, 1) := by decide +kernel
theorem dX1_readSensors_65 : decode cX1_readSensors 65 = .ok (.getfield 112, 3) := by decide +kernel
theorem dX1_readSensors_68 : decode cX1_readSensors 68 = .ok (.iload_n 2, 1) := by decide +kernel
theorem dX1_readSensors_69 : decode cX1_readSensors 69 = .ok (.iaload, 1) := by decide +kernel
theorem dX1_readSensors_70 : decode cX1_readSensors 70 = .ok (.istore 4, 2) := by decide +kernel
theorem dX1_readSensors_72 : decode cX1_readSensors 72 = .ok (.aload_n 1, 1) := by decide +kernel
theorem dX1_readSensors_73 : decode cX1_readSensors 73 = .ok (.getfield 112, 3) := by decide +kernel
theorem dX1_readSensors_76 : decode cX1_readSensors 76 = .ok (.iload_n 2, 1) := by decide +kernel
theorem dX1_readSensors_77 : decode cX1_readSensors 77 = .ok (.aload_n 0, 1) := by decide +kernel
theorem dX1_readSensors_78 : decode cX1_readSensors 78 = .ok (.aload_n 1, 1) := by decide +kernel
theorem dX1_readSensors_79 : decode cX1_readSensors 79 = .ok (.iload_n 2, 1) := by decide +kernel
theorem dX1_readSensors_80 : decode cX1_readSensors 80 = .ok (.invokevirtual 115, 3) := by decide +kernel
theorem dX1_readSensors_83 : decode cX1_readSensors 83 = .ok (.iastore, 1) := by decide +kernel
theorem dX1_readSensors_84 : decode cX1_readSensors 84 = .ok (.aload_n 1, 1) := by decide +kernel
theorem dX1_readSensors_85 : decode cX1_readSensors 85 = .ok (.getfield 119, 3) := by decide +kernel
theorem dX1_readSensors_88 : decode cX1_readSensors 88 = .ok (.iload_n 2, 1) := by decide +kernel
theorem dX1_readSensors_89 : decode cX1_readSensors 89 = .ok (.aload_n 1, 1) := by decide +kernel
theorem dX1_readSensors_90 : decode cX1_readSensors 90 = .ok (.getfield 112, 3) := by decide +kernel
theorem dX1_readSensors_93 : decode cX1_readSensors 93 = .ok (.iload_n 2, 1) := by decide +kernel
theorem dX1_readSensors_94 : decode cX1_readSensors 94 = .ok (.iaload, 1) := by decide +kernel
theorem dX1_readSensors_95 : decode cX1_readSensors 95 = .ok (.iload 4, 2) := by decide +kernel
theorem dX1_readSensors_97 : decode cX1_readSensors 97 = .ok (.isub, 1) := by decide +kernel
theorem dX1_readSensors_98 : decode cX1_readSensors 98 = .ok (.iastore, 1) := by decide +kernel
theorem dX1_readSensors_99 : decode cX1_readSensors 99 = .ok (.iinc 2 1, 3) := by decide +kernel
theorem dX1_readSensors_102 : decode cX1_readSensors 102 = .ok (.goto (-100), 3) := by decide +kernel
theorem dX1_readSensors_105 : decode cX1_readSensors 105 = .ok (.return_, 1) := by decide +kernel
theorem dX1_filtered_0 : decode cX1_filtered 0 = .ok (.aload_n 1, 1) := by decide +kernel
theorem dX1_filtered_1 : decode cX1_filtered 1 = .ok (.getfield 43, 3) := by decide +kernel
theorem dX1_filtered_4 : decode cX1_filtered 4 = .ok (.getfield 122, 3) := by decide +kernel
theorem dX1_filtered_7 : decode cX1_filtered 7 = .ok (.iload_n 2, 1) := by decide +kernel
theorem dX1_filtered_8 : decode cX1_filtered 8 = .ok (.aaload, 1) := by decide +kernel
theorem dX1_filtered_9 : decode cX1_filtered 9 = .ok (.astore_n 3, 1) := by decide +kernel
theorem dX1_filtered_10 : decode cX1_filtered 10 = .ok (.aload_n 1, 1) := by decide +kernel
theorem dX1_filtered_11 : decode cX1_filtered 11 = .ok (.getfield 52, 3) := by decide +kernel
theorem dX1_filtered_14 : decode cX1_filtered 14 = .ok (.iload_n 2, 1) := by decide +kernel
theorem dX1_filtered_15 : decode cX1_filtered 15 = .ok (.iaload, 1) := by decide +kernel
theorem dX1_filtered_16 : decode cX1_filtered 16 = .ok (.istore 4, 2) := by decide +kernel
theorem dX1_filtered_18 : decode cX1_filtered 18 = .ok (.aload_n 3, 1) := by decide +kernel
theorem dX1_filtered_19 : decode cX1_filtered 19 = .ok (.getfield 126, 3) := by decide +kernel
theorem dX1_filtered_22 : decode cX1_filtered 22 = .ok (.tableswitch 79 1 3 #[26, 44, 55], 26) := by decide +kernel
theorem dX1_filtered_48 : decode cX1_filtered 48 = .ok (.aload_n 0, 1) := by decide +kernel
theorem dX1_filtered_49 : decode cX1_filtered 49 = .ok (.aload_n 1, 1) := by decide +kernel
theorem dX1_filtered_50 : decode cX1_filtered 50 = .ok (.iload_n 2, 1) := by decide +kernel
theorem dX1_filtered_51 : decode cX1_filtered 51 = .ok (.aload_n 3, 1) := by decide +kernel
theorem dX1_filtered_52 : decode cX1_filtered 52 = .ok (.getfield 131, 3) := by decide +kernel
theorem dX1_filtered_55 : decode cX1_filtered 55 = .ok (.invokevirtual 134, 3) := by decide +kernel
theorem dX1_filtered_58 : decode cX1_filtered 58 = .ok (.aload_n 3, 1) := by decide +kernel
theorem dX1_filtered_59 : decode cX1_filtered 59 = .ok (.getfield 131, 3) := by decide +kernel
theorem dX1_filtered_62 : decode cX1_filtered 62 = .ok (.invokestatic 65, 3) := by decide +kernel
theorem dX1_filtered_65 : decode cX1_filtered 65 = .ok (.ireturn, 1) := by decide +kernel
theorem dX1_filtered_66 : decode cX1_filtered 66 = .ok (.aload_n 0, 1) := by decide +kernel
theorem dX1_filtered_67 : decode cX1_filtered 67 = .ok (.aload_n 1, 1) := by decide +kernel
theorem dX1_filtered_68 : decode cX1_filtered 68 = .ok (.iload_n 2, 1) := by decide +kernel
theorem dX1_filtered_69 : decode cX1_filtered 69 = .ok (.aload_n 3, 1) := by decide +kernel
theorem dX1_filtered_70 : decode cX1_filtered 70 = .ok (.getfield 131, 3) := by decide +kernel
theorem dX1_filtered_73 : decode cX1_filtered 73 = .ok (.invokevirtual 138, 3) := by decide +kernel
theorem dX1_filtered_76 : decode cX1_filtered 76 = .ok (.ireturn, 1) := by decide +kernel
theorem dX1_filtered_77 : decode cX1_filtered 77 = .ok (.aload_n 1, 1) := by decide +kernel
theorem dX1_filtered_78 : decode cX1_filtered 78 = .ok (.getfield 112, 3) := by decide +kernel
theorem dX1_filtered_81 : decode cX1_filtered 81 = .ok (.iload_n 2, 1) := by decide +kernel
theorem dX1_filtered_82 : decode cX1_filtered 82 = .ok (.iaload, 1) := by decide +kernel
theorem dX1_filtered_83 : decode cX1_filtered 83 = .ok (.iload 4, 2) := by decide +kernel
theorem dX1_filtered_85 : decode cX1_filtered 85 = .ok (.aload_n 1, 1) := by decide +kernel
theorem dX1_filtered_86 : decode cX1_filtered 86 = .ok (.getfield 112, 3) := by decide +kernel
theorem dX1_filtered_89 : decode cX1_filtered 89 = .ok (.iload_n 2, 1) := by decide +kernel
theorem dX1_filtered_90 : decode cX1_filtered 90 = .ok (.iaload, 1) := by decide +kernel
theorem dX1_filtered_91 : decode cX1_filtered 91 = .ok (.isub, 1) := by decide +kernel
theorem dX1_filtered_92 : decode cX1_filtered 92 = .ok (.aload_n 3, 1) := by decide +kernel
theorem dX1_filtered_93 : decode cX1_filtered 93 = .ok (.getfield 131, 3) := by decide +kernel
theorem dX1_filtered_96 : decode cX1_filtered 96 = .ok (.invokestatic 65, 3) := by decide +kernel
theorem dX1_filtered_99 : decode cX1_filtered 99 = .ok (.iadd, 1) := by decide +kernel
theorem dX1_filtered_100 : decode cX1_filtered 100 = .ok (.ireturn, 1) := by decide +kernel
theorem dX1_filtered_101 : decode cX1_filtered 101 = .ok (.iload 4, 2) := by decide +kernel
theorem dX1_filtered_103 : decode cX1_filtered 103 = .ok (.ireturn, 1) := by decide +kernel
theorem dX1_sumOfReadings_0 : decode cX1_sumOfReadings 0 = .ok (.iconst 0, 1) := by decide +kernel
theorem dX1_sumOfReadings_1 : decode cX1_sumOfReadings 1 = .ok (.istore 4, 2) := by decide +kernel
theorem dX1_sumOfReadings_3 : decode cX1_sumOfReadings 3 = .ok (.iconst 0, 1) := by decide +kernel
theorem dX1_sumOfReadings_4 : decode cX1_sumOfReadings 4 = .ok (.istore 5, 2) := by decide +kernel
theorem dX1_sumOfReadings_6 : decode cX1_sumOfReadings 6 = .ok (.iload 5, 2) := by decide +kernel
theorem dX1_sumOfReadings_8 : decode cX1_sumOfReadings 8 = .ok (.iload_n 3, 1) := by decide +kernel
theorem dX1_sumOfReadings_9 : decode cX1_sumOfReadings 9 = .ok (.if_icmp .ge 25, 3) := by decide +kernel
theorem dX1_sumOfReadings_12 : decode cX1_sumOfReadings 12 = .ok (.iload 4, 2) := by decide +kernel
theorem dX1_sumOfReadings_14 : decode cX1_sumOfReadings 14 = .ok (.aload_n 1, 1) := by decide +kernel
theorem dX1_sumOfReadings_15 : decode cX1_sumOfReadings 15 = .ok (.getfield 109, 3) := by decide +kernel
theorem dX1_sumOfReadings_18 : decode cX1_sumOfReadings 18 = .ok (.iload_n 2, 1) := by decide +kernel
theorem dX1_sumOfReadings_19 : decode cX1_sumOfReadings 19 = .ok (.iconst 4, 1) := by decide +kernel
theorem dX1_sumOfReadings_20 : decode cX1_sumOfReadings 20 = .ok (.imul, 1) := by decide +kernel
theorem dX1_sumOfReadings_21 : decode cX1_sumOfReadings 21 = .ok (.iload 5, 2) := by decide +kernel
theorem dX1_sumOfReadings_23 : decode cX1_sumOfReadings 23 = .ok (.iadd, 1) := by decide +kernel
theorem dX1_sumOfReadings_24 : decode cX1_sumOfReadings 24 = .ok (.iaload, 1) := by decide +kernel
theorem dX1_sumOfReadings_25 : decode cX1_sumOfReadings 25 = .ok (.iadd, 1) := by decide +kernel
theorem dX1_sumOfReadings_26 : decode cX1_sumOfReadings 26 = .ok (.istore 4, 2) := by decide +kernel
theorem dX1_sumOfReadings_28 : decode cX1_sumOfReadings 28 = .ok (.iinc 5 1, 3) := by decide +kernel
theorem dX1_sumOfReadings_31 : decode cX1_sumOfReadings 31 = .ok (.goto (-25), 3) := by decide +kernel
theorem dX1_sumOfReadings_34 : decode cX1_sumOfReadings 34 = .ok (.iload 4, 2) := by decide +kernel
theorem dX1_sumOfReadings_36 : decode cX1_sumOfReadings 36 = .ok (.ireturn, 1) := by decide +kernel
theorem dX1_medianOfReadings_0 : decode cX1_medianOfReadings 0 = .ok (.iconst 0, 1) := by decide +kernel
theorem dX1_medianOfReadings_1 : decode cX1_medianOfReadings 1 = .ok (.istore 4, 2) := by decide +kernel
theorem dX1_medianOfReadings_3 : decode cX1_medianOfReadings 3 = .ok (.iload 4, 2) := by decide +kernel
theorem dX1_medianOfReadings_5 : decode cX1_medianOfReadings 5 = .ok (.iload_n 3, 1) := by decide +kernel
theorem dX1_medianOfReadings_6 : decode cX1_medianOfReadings 6 = .ok (.if_icmp .ge 76, 3) := by decide +kernel
theorem dX1_medianOfReadings_9 : decode cX1_medianOfReadings 9 = .ok (.aload_n 1, 1) := by decide +kernel
theorem dX1_medianOfReadings_10 : decode cX1_medianOfReadings 10 = .ok (.getfield 109, 3) := by decide +kernel
theorem dX1_medianOfReadings_13 : decode cX1_medianOfReadings 13 = .ok (.iload_n 2, 1) := by decide +kernel
theorem dX1_medianOfReadings_14 : decode cX1_medianOfReadings 14 = .ok (.iconst 4, 1) := by decide +kernel
theorem dX1_medianOfReadings_15 : decode cX1_medianOfReadings 15 = .ok (.imul, 1) := by decide +kernel
theorem dX1_medianOfReadings_16 : decode cX1_medianOfReadings 16 = .ok (.iload 4, 2) := by decide +kernel
theorem dX1_medianOfReadings_18 : decode cX1_medianOfReadings 18 = .ok (.iadd, 1) := by decide +kernel
theorem dX1_medianOfReadings_19 : decode cX1_medianOfReadings 19 = .ok (.iaload, 1) := by decide +kernel
theorem dX1_medianOfReadings_20 : decode cX1_medianOfReadings 20 = .ok (.istore 5, 2) := by decide +kernel
theorem dX1_medianOfReadings_22 : decode cX1_medianOfReadings 22 = .ok (.iload 4, 2) := by decide +kernel
theorem dX1_medianOfReadings_24 : decode cX1_medianOfReadings 24 = .ok (.istore 6, 2) := by decide +kernel
theorem dX1_medianOfReadings_26 : decode cX1_medianOfReadings 26 = .ok (.iload 6, 2) := by decide +kernel
theorem dX1_medianOfReadings_28 : decode cX1_medianOfReadings 28 = .ok (.ifCond .le 39, 3) := by decide +kernel
theorem dX1_medianOfReadings_31 : decode cX1_medianOfReadings 31 = .ok (.aload_n 0, 1) := by decide +kernel
theorem dX1_medianOfReadings_32 : decode cX1_medianOfReadings 32 = .ok (.getfield 15, 3) := by decide +kernel
theorem dX1_medianOfReadings_35 : decode cX1_medianOfReadings 35 = .ok (.iload 6, 2) := by decide +kernel
theorem dX1_medianOfReadings_37 : decode cX1_medianOfReadings 37 = .ok (.iconst 1, 1) := by decide +kernel
theorem dX1_medianOfReadings_38 : decode cX1_medianOfReadings 38 = .ok (.isub, 1) := by decide +kernel
theorem dX1_medianOfReadings_39 : decode cX1_medianOfReadings 39 = .ok (.iaload, 1) := by decide +kernel
theorem dX1_medianOfReadings_40 : decode cX1_medianOfReadings 40 = .ok (.iload 5, 2) := by decide +kernel
theorem dX1_medianOfReadings_42 : decode cX1_medianOfReadings 42 = .ok (.if_icmp .le 25, 3) := by decide +kernel
theorem dX1_medianOfReadings_45 : decode cX1_medianOfReadings 45 = .ok (.aload_n 0, 1) := by decide +kernel
theorem dX1_medianOfReadings_46 : decode cX1_medianOfReadings 46 = .ok (.getfield 15, 3) := by decide +kernel
theorem dX1_medianOfReadings_49 : decode cX1_medianOfReadings 49 = .ok (.iload 6, 2) := by decide +kernel
theorem dX1_medianOfReadings_51 : decode cX1_medianOfReadings 51 = .ok (.aload_n 0, 1) := by decide +kernel
theorem dX1_medianOfReadings_52 : decode cX1_medianOfReadings 52 = .ok (.getfield 15, 3) := by decide +kernel
theorem dX1_medianOfReadings_55 : decode cX1_medianOfReadings 55 = .ok (.iload 6, 2) := by decide +kernel
theorem dX1_medianOfReadings_57 : decode cX1_medianOfReadings 57 = .ok (.iconst 1, 1) := by decide +kernel
theorem dX1_medianOfReadings_58 : decode cX1_medianOfReadings 58 = .ok (.isub, 1) := by decide +kernel
theorem dX1_medianOfReadings_59 : decode cX1_medianOfReadings 59 = .ok (.iaload, 1) := by decide +kernel
theorem dX1_medianOfReadings_60 : decode cX1_medianOfReadings 60 = .ok (.iastore, 1) := by decide +kernel
theorem dX1_medianOfReadings_61 : decode cX1_medianOfReadings 61 = .ok (.iinc 6 (-1), 3) := by decide +kernel
theorem dX1_medianOfReadings_64 : decode cX1_medianOfReadings 64 = .ok (.goto (-38), 3) := by decide +kernel
theorem dX1_medianOfReadings_67 : decode cX1_medianOfReadings 67 = .ok (.aload_n 0, 1) := by decide +kernel
theorem dX1_medianOfReadings_68 : decode cX1_medianOfReadings 68 = .ok (.getfield 15, 3) := by decide +kernel
theorem dX1_medianOfReadings_71 : decode cX1_medianOfReadings 71 = .ok (.iload 6, 2) := by decide +kernel
theorem dX1_medianOfReadings_73 : decode cX1_medianOfReadings 73 = .ok (.iload 5, 2) := by decide +kernel
theorem dX1_medianOfReadings_75 : decode cX1_medianOfReadings 75 = .ok (.iastore, 1) := by decide +kernel
theorem dX1_medianOfReadings_76 : decode cX1_medianOfReadings 76 = .ok (.iinc 4 1, 3) := by decide +kernel
theorem dX1_medianOfReadings_79 : decode cX1_medianOfReadings 79 = .ok (.goto (-76), 3) := by decide +kernel
theorem dX1_medianOfReadings_82 : decode cX1_medianOfReadings 82 = .ok (.aload_n 0, 1) := by decide +kernel
theorem dX1_medianOfReadings_83 : decode cX1_medianOfReadings 83 = .ok (.getfield 15, 3) := by decide +kernel
theorem dX1_medianOfReadings_86 : decode cX1_medianOfReadings 86 = .ok (.iconst 0, 1) := by decide +kernel
theorem dX1_medianOfReadings_87 : decode cX1_medianOfReadings 87 = .ok (.iload_n 3, 1) := by decide +kernel
theorem dX1_medianOfReadings_88 : decode cX1_medianOfReadings 88 = .ok (.iconst 1, 1) := by decide +kernel
theorem dX1_medianOfReadings_89 : decode cX1_medianOfReadings 89 = .ok (.isub, 1) := by decide +kernel
theorem dX1_medianOfReadings_90 : decode cX1_medianOfReadings 90 = .ok (.invokestatic 141, 3) := by decide +kernel
theorem dX1_medianOfReadings_93 : decode cX1_medianOfReadings 93 = .ok (.iconst 2, 1) := by decide +kernel
theorem dX1_medianOfReadings_94 : decode cX1_medianOfReadings 94 = .ok (.idiv, 1) := by decide +kernel
theorem dX1_medianOfReadings_95 : decode cX1_medianOfReadings 95 = .ok (.iaload, 1) := by decide +kernel
theorem dX1_medianOfReadings_96 : decode cX1_medianOfReadings 96 = .ok (.ireturn, 1) := by decide +kernel
theorem dX1_flipTrips_0 : decode cX1_flipTrips 0 = .ok (.iconst 0, 1) := by decide +kernel
theorem dX1_flipTrips_1 : decode cX1_flipTrips 1 = .ok (.istore_n 2, 1) := by decide +kernel
theorem dX1_flipTrips_2 : decode cX1_flipTrips 2 = .ok (.iload_n 2, 1) := by decide +kernel
theorem dX1_flipTrips_3 : decode cX1_flipTrips 3 = .ok (.aload_n 1, 1) := by decide +kernel
theorem dX1_flipTrips_4 : decode cX1_flipTrips 4 = .ok (.getfield 43, 3) := by decide +kernel
theorem dX1_flipTrips_7 : decode cX1_flipTrips 7 = .ok (.getfield 146, 3) := by decide +kernel
theorem dX1_flipTrips_10 : decode cX1_flipTrips 10 = .ok (.if_icmp .ge 119, 3) := by decide +kernel
theorem dX1_flipTrips_13 : decode cX1_flipTrips 13 = .ok (.aload_n 1, 1) := by decide +kernel
theorem dX1_flipTrips_14 : decode cX1_flipTrips 14 = .ok (.getfield 43, 3) := by decide +kernel
theorem dX1_flipTrips_17 : decode cX1_flipTrips 17 = .ok (.getfield 149, 3) := by decide +kernel
theorem dX1_flipTrips_20 : decode cX1_flipTrips 20 = .ok (.iload_n 2, 1) := by decide +kernel
theorem dX1_flipTrips_21 : decode cX1_flipTrips 21 = .ok (.aaload, 1) := by decide +kernel
theorem dX1_flipTrips_22 : decode cX1_flipTrips 22 = .ok (.astore_n 3, 1) := by decide +kernel
theorem dX1_flipTrips_23 : decode cX1_flipTrips 23 = .ok (.aload_n 1, 1) := by decide +kernel
theorem dX1_flipTrips_24 : decode cX1_flipTrips 24 = .ok (.getfield 112, 3) := by decide +kernel
theorem dX1_flipTrips_27 : decode cX1_flipTrips 27 = .ok (.aload_n 3, 1) := by decide +kernel
theorem dX1_flipTrips_28 : decode cX1_flipTrips 28 = .ok (.getfield 153, 3) := by decide +kernel
theorem dX1_flipTrips_31 : decode cX1_flipTrips 31 = .ok (.iaload, 1) := by decide +kernel
theorem dX1_flipTrips_32 : decode cX1_flipTrips 32 = .ok (.istore 4, 2) := by decide +kernel
theorem dX1_flipTrips_34 : decode cX1_flipTrips 34 = .ok (.aload_n 1, 1) := by decide +kernel
theorem dX1_flipTrips_35 : decode cX1_flipTrips 35 = .ok (.getfield 156, 3) := by decide +kernel
theorem dX1_flipTrips_38 : decode cX1_flipTrips 38 = .ok (.iload_n 2, 1) := by decide +kernel
theorem dX1_flipTrips_39 : decode cX1_flipTrips 39 = .ok (.iaload, 1) := by decide +kernel
theorem dX1_flipTrips_40 : decode cX1_flipTrips 40 = .ok (.ifCond .ne 42, 3) := by decide +kernel
theorem dX1_flipTrips_43 : decode cX1_flipTrips 43 = .ok (.iload 4, 2) := by decide +kernel
theorem dX1_flipTrips_45 : decode cX1_flipTrips 45 = .ok (.aload_n 3, 1) := by decide +kernel
theorem dX1_flipTrips_46 : decode cX1_flipTrips 46 = .ok (.getfield 159, 3) := by decide +kernel
theorem dX1_flipTrips_49 : decode cX1_flipTrips 49 = .ok (.if_icmp .lt 33, 3) := by decide +kernel
theorem dX1_flipTrips_52 : decode cX1_flipTrips 52 = .ok (.aload_n 1, 1) := by decide +kernel
theorem dX1_flipTrips_53 : decode cX1_flipTrips 53 = .ok (.getfield 156, 3) := by decide +kernel
theorem dX1_flipTrips_56 : decode cX1_flipTrips 56 = .ok (.iload_n 2, 1) := by decide +kernel
theorem dX1_flipTrips_57 : decode cX1_flipTrips 57 = .ok (.iconst 1, 1) := by decide +kernel
theorem dX1_flipTrips_58 : decode cX1_flipTrips 58 = .ok (.iastore, 1) := by decide +kernel
theorem dX1_flipTrips_59 : decode cX1_flipTrips 59 = .ok (.aload_n 1, 1) := by decide +kernel
theorem dX1_flipTrips_60 : decode cX1_flipTrips 60 = .ok (.getfield 162, 3) := by decide +kernel
theorem dX1_flipTrips_63 : decode cX1_flipTrips 63 = .ok (.iload_n 2, 1) := by decide +kernel
theorem dX1_flipTrips_64 : decode cX1_flipTrips 64 = .ok (.dup2, 1) := by decide +kernel
theorem dX1_flipTrips_65 : decode cX1_flipTrips 65 = .ok (.iaload, 1) := by decide +kernel
theorem dX1_flipTrips_66 : decode cX1_flipTrips 66 = .ok (.iconst 1, 1) := by decide +kernel
theorem dX1_flipTrips_67 : decode cX1_flipTrips 67 = .ok (.iadd, 1) := by decide +kernel
theorem dX1_flipTrips_68 : decode cX1_flipTrips 68 = .ok (.iastore, 1) := by decide +kernel
theorem dX1_flipTrips_69 : decode cX1_flipTrips 69 = .ok (.aload_n 1, 1) := by decide +kernel
theorem dX1_flipTrips_70 : decode cX1_flipTrips 70 = .ok (.iconst 1, 1) := by decide +kernel
theorem dX1_flipTrips_71 : decode cX1_flipTrips 71 = .ok (.aload_n 3, 1) := by decide +kernel
theorem dX1_flipTrips_72 : decode cX1_flipTrips 72 = .ok (.getfield 153, 3) := by decide +kernel
theorem dX1_flipTrips_75 : decode cX1_flipTrips 75 = .ok (.iload_n 2, 1) := by decide +kernel
theorem dX1_flipTrips_76 : decode cX1_flipTrips 76 = .ok (.invokevirtual 165, 3) := by decide +kernel
theorem dX1_flipTrips_79 : decode cX1_flipTrips 79 = .ok (.goto 44, 3) := by decide +kernel
theorem dX1_flipTrips_82 : decode cX1_flipTrips 82 = .ok (.aload_n 1, 1) := by decide +kernel
theorem dX1_flipTrips_83 : decode cX1_flipTrips 83 = .ok (.getfield 156, 3) := by decide +kernel
theorem dX1_flipTrips_86 : decode cX1_flipTrips 86 = .ok (.iload_n 2, 1) := by decide +kernel
theorem dX1_flipTrips_87 : decode cX1_flipTrips 87 = .ok (.iaload, 1) := by decide +kernel
theorem dX1_flipTrips_88 : decode cX1_flipTrips 88 = .ok (.iconst 1, 1) := by decide +kernel
theorem dX1_flipTrips_89 : decode cX1_flipTrips 89 = .ok (.if_icmp .ne 34, 3) := by decide +kernel
theorem dX1_flipTrips_92 : decode cX1_flipTrips 92 = .ok (.iload 4, 2) := by decide +kernel
theorem dX1_flipTrips_94 : decode cX1_flipTrips 94 = .ok (.aload_n 3, 1) := by decide +kernel
theorem dX1_flipTrips_95 : decode cX1_flipTrips 95 = .ok (.getfield 159, 3) := by decide +kernel
theorem dX1_flipTrips_98 : decode cX1_flipTrips 98 = .ok (.aload_n 3, 1) := by decide +kernel
theorem dX1_flipTrips_99 : decode cX1_flipTrips 99 = .ok (.getfield 169, 3) := by decide +kernel
theorem dX1_flipTrips_102 : decode cX1_flipTrips 102 = .ok (.isub, 1) := by decide +kernel
theorem dX1_flipTrips_103 : decode cX1_flipTrips 103 = .ok (.if_icmp .ge 20, 3) := by decide +kernel
theorem dX1_flipTrips_106 : decode cX1_flipTrips 106 = .ok (.aload_n 1, 1) := by decide +kernel
theorem dX1_flipTrips_107 : decode cX1_flipTrips 107 = .ok (.getfield 156, 3) := by decide +kernel
theorem dX1_flipTrips_110 : decode cX1_flipTrips 110 = .ok (.iload_n 2, 1) := by decide +kernel
theorem dX1_flipTrips_111 : decode cX1_flipTrips 111 = .ok (.iconst 0, 1) := by decide +kernel
theorem dX1_flipTrips_112 : decode cX1_flipTrips 112 = .ok (.iastore, 1) := by decide +kernel
theorem dX1_flipTrips_113 : decode cX1_flipTrips 113 = .ok (.aload_n 1, 1) := by decide +kernel
theorem dX1_flipTrips_114 : decode cX1_flipTrips 114 = .ok (.iconst 2, 1) := by decide +kernel
theorem dX1_flipTrips_115 : decode cX1_flipTrips 115 = .ok (.aload_n 3, 1) := by decide +kernel
theorem dX1_flipTrips_116 : decode cX1_flipTrips 116 = .ok (.getfield 153, 3) := by decide +kernel
theorem dX1_flipTrips_119 : decode cX1_flipTrips 119 = .ok (.iload_n 2, 1) := by decide +kernel
theorem dX1_flipTrips_120 : decode cX1_flipTrips 120 = .ok (.invokevirtual 165, 3) := by decide +kernel
theorem dX1_flipTrips_123 : decode cX1_flipTrips 123 = .ok (.iinc 2 1, 3) := by decide +kernel
theorem dX1_flipTrips_126 : decode cX1_flipTrips 126 = .ok (.goto (-124), 3) := by decide +kernel
theorem dX1_flipTrips_129 : decode cX1_flipTrips 129 = .ok (.return_, 1) := by decide +kernel
theorem dX1_wantAll_0 : decode cX1_wantAll 0 = .ok (.iconst 0, 1) := by decide +kernel
theorem dX1_wantAll_1 : decode cX1_wantAll 1 = .ok (.istore_n 2, 1) := by decide +kernel
theorem dX1_wantAll_2 : decode cX1_wantAll 2 = .ok (.iload_n 2, 1) := by decide +kernel
theorem dX1_wantAll_3 : decode cX1_wantAll 3 = .ok (.aload_n 1, 1) := by decide +kernel
theorem dX1_wantAll_4 : decode cX1_wantAll 4 = .ok (.getfield 43, 3) := by decide +kernel
theorem dX1_wantAll_7 : decode cX1_wantAll 7 = .ok (.getfield 146, 3) := by decide +kernel
theorem dX1_wantAll_10 : decode cX1_wantAll 10 = .ok (.if_icmp .ge 68, 3) := by decide +kernel
theorem dX1_wantAll_13 : decode cX1_wantAll 13 = .ok (.aload_n 1, 1) := by decide +kernel
theorem dX1_wantAll_14 : decode cX1_wantAll 14 = .ok (.getfield 43, 3) := by decide +kernel
theorem dX1_wantAll_17 : decode cX1_wantAll 17 = .ok (.getfield 149, 3) := by decide +kernel
theorem dX1_wantAll_20 : decode cX1_wantAll 20 = .ok (.iload_n 2, 1) := by decide +kernel
theorem dX1_wantAll_21 : decode cX1_wantAll 21 = .ok (.aaload, 1) := by decide +kernel
theorem dX1_wantAll_22 : decode cX1_wantAll 22 = .ok (.getfield 172, 3) := by decide +kernel
theorem dX1_wantAll_25 : decode cX1_wantAll 25 = .ok (.ifCond .ne 12, 3) := by decide +kernel
theorem dX1_wantAll_28 : decode cX1_wantAll 28 = .ok (.aload_n 0, 1) := by decide +kernel
theorem dX1_wantAll_29 : decode cX1_wantAll 29 = .ok (.aload_n 1, 1) := by decide +kernel
theorem dX1_wantAll_30 : decode cX1_wantAll 30 = .ok (.iload_n 2, 1) := by decide +kernel
theorem dX1_wantAll_31 : decode cX1_wantAll 31 = .ok (.invokevirtual 175, 3) := by decide +kernel
theorem dX1_wantAll_34 : decode cX1_wantAll 34 = .ok (.goto 38, 3) := by decide +kernel
theorem dX1_wantAll_37 : decode cX1_wantAll 37 = .ok (.aload_n 1, 1) := by decide +kernel
theorem dX1_wantAll_38 : decode cX1_wantAll 38 = .ok (.getfield 43, 3) := by decide +kernel
theorem dX1_wantAll_41 : decode cX1_wantAll 41 = .ok (.getfield 149, 3) := by decide +kernel
theorem dX1_wantAll_44 : decode cX1_wantAll 44 = .ok (.iload_n 2, 1) := by decide +kernel
theorem dX1_wantAll_45 : decode cX1_wantAll 45 = .ok (.aaload, 1) := by decide +kernel
theorem dX1_wantAll_46 : decode cX1_wantAll 46 = .ok (.getfield 172, 3) := by decide +kernel
theorem dX1_wantAll_49 : decode cX1_wantAll 49 = .ok (.iconst 1, 1) := by decide +kernel
theorem dX1_wantAll_50 : decode cX1_wantAll 50 = .ok (.if_icmp .ne 22, 3) := by decide +kernel
theorem dX1_wantAll_53 : decode cX1_wantAll 53 = .ok (.aload_n 0, 1) := by decide +kernel
theorem dX1_wantAll_54 : decode cX1_wantAll 54 = .ok (.aload_n 1, 1) := by decide +kernel
theorem dX1_wantAll_55 : decode cX1_wantAll 55 = .ok (.aload_n 1, 1) := by decide +kernel
theorem dX1_wantAll_56 : decode cX1_wantAll 56 = .ok (.getfield 43, 3) := by decide +kernel
theorem dX1_wantAll_59 : decode cX1_wantAll 59 = .ok (.getfield 149, 3) := by decide +kernel
theorem dX1_wantAll_62 : decode cX1_wantAll 62 = .ok (.iload_n 2, 1) := by decide +kernel
theorem dX1_wantAll_63 : decode cX1_wantAll 63 = .ok (.aaload, 1) := by decide +kernel
theorem dX1_wantAll_64 : decode cX1_wantAll 64 = .ok (.aload_n 1, 1) := by decide +kernel
theorem dX1_wantAll_65 : decode cX1_wantAll 65 = .ok (.iload_n 2, 1) := by decide +kernel
theorem dX1_wantAll_66 : decode cX1_wantAll 66 = .ok (.invokevirtual 179, 3) := by decide +kernel
theorem dX1_wantAll_69 : decode cX1_wantAll 69 = .ok (.invokevirtual 183, 3) := by decide +kernel
theorem dX1_wantAll_72 : decode cX1_wantAll 72 = .ok (.iinc 2 1, 3) := by decide +kernel
theorem dX1_wantAll_75 : decode cX1_wantAll 75 = .ok (.goto (-73), 3) := by decide +kernel
theorem dX1_wantAll_78 : decode cX1_wantAll 78 = .ok (.return_, 1) := by decide +kernel
theorem dX1_wantStep_0 : decode cX1_wantStep 0 = .ok (.aload_n 1, 1) := by decide +kernel
theorem dX1_wantStep_1 : decode cX1_wantStep 1 = .ok (.getfield 43, 3) := by decide +kernel
theorem dX1_wantStep_4 : decode cX1_wantStep 4 = .ok (.astore_n 3, 1) := by decide +kernel
theorem dX1_wantStep_5 : decode cX1_wantStep 5 = .ok (.aload_n 3, 1) := by decide +kernel
theorem dX1_wantStep_6 : decode cX1_wantStep 6 = .ok (.getfield 149, 3) := by decide +kernel
theorem dX1_wantStep_9 : decode cX1_wantStep 9 = .ok (.iload_n 2, 1) := by decide +kernel
theorem dX1_wantStep_10 : decode cX1_wantStep 10 = .ok (.aaload, 1) := by decide +kernel
theorem dX1_wantStep_11 : decode cX1_wantStep 11 = .ok (.astore 4, 2) := by decide +kernel
theorem dX1_wantStep_13 : decode cX1_wantStep 13 = .ok (.aload_n 1, 1) := by decide +kernel
theorem dX1_wantStep_14 : decode cX1_wantStep 14 = .ok (.getfield 119, 3) := by decide +kernel
theorem dX1_wantStep_17 : decode cX1_wantStep 17 = .ok (.aload 4, 2) := by decide +kernel
theorem dX1_wantStep_19 : decode cX1_wantStep 19 = .ok (.getfield 153, 3) := by decide +kernel
theorem dX1_wantStep_22 : decode cX1_wantStep 22 = .ok (.iaload, 1) := by decide +kernel
theorem dX1_wantStep_23 : decode cX1_wantStep 23 = .ok (.istore 5, 2) := by decide +kernel
theorem dX1_wantStep_25 : decode cX1_wantStep 25 = .ok (.aload_n 1, 1) := by decide +kernel
theorem dX1_wantStep_26 : decode cX1_wantStep 26 = .ok (.getfield 156, 3) := by decide +kernel
theorem dX1_wantStep_29 : decode cX1_wantStep 29 = .ok (.iload_n 2, 1) := by decide +kernel
theorem dX1_wantStep_30 : decode cX1_wantStep 30 = .ok (.iaload, 1) := by decide +kernel
theorem dX1_wantStep_31 : decode cX1_wantStep 31 = .ok (.ifCond .ne 7, 3) := by decide +kernel
theorem dX1_wantStep_34 : decode cX1_wantStep 34 = .ok (.iconst (-1), 1) := by decide +kernel
theorem dX1_wantStep_35 : decode cX1_wantStep 35 = .ok (.goto 9, 3) := by decide +kernel
theorem dX1_wantStep_38 : decode cX1_wantStep 38 = .ok (.iload 5, 2) := by decide +kernel
theorem dX1_wantStep_40 : decode cX1_wantStep 40 = .ok (.iconst 0, 1) := by decide +kernel
theorem dX1_wantStep_41 : decode cX1_wantStep 41 = .ok (.invokestatic 187, 3) := by decide +kernel
theorem dX1_wantStep_44 : decode cX1_wantStep 44 = .ok (.istore 6, 2) := by decide +kernel
theorem dX1_wantStep_46 : decode cX1_wantStep 46 = .ok (.aload 4, 2) := by decide +kernel
theorem dX1_wantStep_48 : decode cX1_wantStep 48 = .ok (.getfield 192, 3) := by decide +kernel
theorem dX1_wantStep_51 : decode cX1_wantStep 51 = .ok (.istore 7, 2) := by decide +kernel
theorem dX1_wantStep_53 : decode cX1_wantStep 53 = .ok (.iload 7, 2) := by decide +kernel
theorem dX1_wantStep_55 : decode cX1_wantStep 55 = .ok (.aload 4, 2) := by decide +kernel
theorem dX1_wantStep_57 : decode cX1_wantStep 57 = .ok (.getfield 195, 3) := by decide +kernel
theorem dX1_wantStep_60 : decode cX1_wantStep 60 = .ok (.if_icmp .ge 52, 3) := by decide +kernel
theorem dX1_wantStep_63 : decode cX1_wantStep 63 = .ok (.aload_n 3, 1) := by decide +kernel
theorem dX1_wantStep_64 : decode cX1_wantStep 64 = .ok (.getfield 72, 3) := by decide +kernel
theorem dX1_wantStep_67 : decode cX1_wantStep 67 = .ok (.aload_n 3, 1) := by decide +kernel
theorem dX1_wantStep_68 : decode cX1_wantStep 68 = .ok (.getfield 198, 3) := by decide +kernel
theorem dX1_wantStep_71 : decode cX1_wantStep 71 = .ok (.iload 7, 2) := by decide +kernel
theorem dX1_wantStep_73 : decode cX1_wantStep 73 = .ok (.aaload, 1) := by decide +kernel
theorem dX1_wantStep_74 : decode cX1_wantStep 74 = .ok (.getfield 202, 3) := by decide +kernel
theorem dX1_wantStep_77 : decode cX1_wantStep 77 = .ok (.aaload, 1) := by decide +kernel
theorem dX1_wantStep_78 : decode cX1_wantStep 78 = .ok (.getfield 207, 3) := by decide +kernel
theorem dX1_wantStep_81 : decode cX1_wantStep 81 = .ok (.istore 8, 2) := by decide +kernel
theorem dX1_wantStep_83 : decode cX1_wantStep 83 = .ok (.aload_n 1, 1) := by decide +kernel
theorem dX1_wantStep_84 : decode cX1_wantStep 84 = .ok (.getfield 210, 3) := by decide +kernel
theorem dX1_wantStep_87 : decode cX1_wantStep 87 = .ok (.iload 7, 2) := by decide +kernel
theorem dX1_wantStep_89 : decode cX1_wantStep 89 = .ok (.aload_n 1, 1) := by decide +kernel
theorem dX1_wantStep_90 : decode cX1_wantStep 90 = .ok (.getfield 210, 3) := by decide +kernel
theorem dX1_wantStep_93 : decode cX1_wantStep 93 = .ok (.iload 7, 2) := by decide +kernel
theorem dX1_wantStep_95 : decode cX1_wantStep 95 = .ok (.iaload, 1) := by decide +kernel
theorem dX1_wantStep_96 : decode cX1_wantStep 96 = .ok (.iload 6, 2) := by decide +kernel
theorem dX1_wantStep_98 : decode cX1_wantStep 98 = .ok (.iadd, 1) := by decide +kernel
theorem dX1_wantStep_99 : decode cX1_wantStep 99 = .ok (.iconst 0, 1) := by decide +kernel
theorem dX1_wantStep_100 : decode cX1_wantStep 100 = .ok (.iload 8, 2) := by decide +kernel
theorem dX1_wantStep_102 : decode cX1_wantStep 102 = .ok (.invokestatic 105, 3) := by decide +kernel
theorem dX1_wantStep_105 : decode cX1_wantStep 105 = .ok (.iastore, 1) := by decide +kernel
theorem dX1_wantStep_106 : decode cX1_wantStep 106 = .ok (.iinc 7 1, 3) := by decide +kernel
theorem dX1_wantStep_109 : decode cX1_wantStep 109 = .ok (.goto (-56), 3) := by decide +kernel
theorem dX1_wantStep_112 : decode cX1_wantStep 112 = .ok (.return_, 1) := by decide +kernel
theorem dX1_wantShares_0 : decode cX1_wantShares 0 = .ok (.aload_n 1, 1) := by decide +kernel
theorem dX1_wantShares_1 : decode cX1_wantShares 1 = .ok (.getfield 43, 3) := by decide +kernel
theorem dX1_wantShares_4 : decode cX1_wantShares 4 = .ok (.astore 4, 2) := by decide +kernel
theorem dX1_wantShares_6 : decode cX1_wantShares 6 = .ok (.iconst 0, 1) := by decide +kernel
theorem dX1_wantShares_7 : decode cX1_wantShares 7 = .ok (.istore 5, 2) := by decide +kernel
theorem dX1_wantShares_9 : decode cX1_wantShares 9 = .ok (.aload_n 2, 1) := by decide +kernel
theorem dX1_wantShares_10 : decode cX1_wantShares 10 = .ok (.getfield 192, 3) := by decide +kernel
theorem dX1_wantShares_13 : decode cX1_wantShares 13 = .ok (.istore 6, 2) := by decide +kernel
theorem dX1_wantShares_15 : decode cX1_wantShares 15 = .ok (.iload 6, 2) := by decide +kernel
theorem dX1_wantShares_17 : decode cX1_wantShares 17 = .ok (.aload_n 2, 1) := by decide +kernel
theorem dX1_wantShares_18 : decode cX1_wantShares 18 = .ok (.getfield 195, 3) := by decide +kernel
theorem dX1_wantShares_21 : decode cX1_wantShares 21 = .ok (.if_icmp .ge 25, 3) := by decide +kernel
theorem dX1_wantShares_24 : decode cX1_wantShares 24 = .ok (.iload 5, 2) := by decide +kernel
theorem dX1_wantShares_26 : decode cX1_wantShares 26 = .ok (.aload 4, 2) := by decide +kernel
theorem dX1_wantShares_28 : decode cX1_wantShares 28 = .ok (.getfield 198, 3) := by decide +kernel
theorem dX1_wantShares_31 : decode cX1_wantShares 31 = .ok (.iload 6, 2) := by decide +kernel
theorem dX1_wantShares_33 : decode cX1_wantShares 33 = .ok (.aaload, 1) := by decide +kernel
theorem dX1_wantShares_34 : decode cX1_wantShares 34 = .ok (.getfield 213, 3) := by decide +kernel
theorem dX1_wantShares_37 : decode cX1_wantShares 37 = .ok (.iadd, 1) := by decide +kernel
theorem dX1_wantShares_38 : decode cX1_wantShares 38 = .ok (.istore 5, 2) := by decide +kernel
theorem dX1_wantShares_40 : decode cX1_wantShares 40 = .ok (.iinc 6 1, 3) := by decide +kernel
theorem dX1_wantShares_43 : decode cX1_wantShares 43 = .ok (.goto (-28), 3) := by decide +kernel
theorem dX1_wantShares_46 : decode cX1_wantShares 46 = .ok (.iload_n 3, 1) := by decide +kernel
theorem dX1_wantShares_47 : decode cX1_wantShares 47 = .ok (.istore 6, 2) := by decide +kernel
theorem dX1_wantShares_49 : decode cX1_wantShares 49 = .ok (.aload_n 2, 1) := by decide +kernel
theorem dX1_wantShares_50 : decode cX1_wantShares 50 = .ok (.getfield 192, 3) := by decide +kernel
theorem dX1_wantShares_53 : decode cX1_wantShares 53 = .ok (.istore 7, 2) := by decide +kernel
theorem dX1_wantShares_55 : decode cX1_wantShares 55 = .ok (.iload 7, 2) := by decide +kernel
theorem dX1_wantShares_57 : decode cX1_wantShares 57 = .ok (.aload_n 2, 1) := by decide +kernel
theorem dX1_wantShares_58 : decode cX1_wantShares 58 = .ok (.getfield 195, 3) := by decide +kernel
theorem dX1_wantShares_61 : decode cX1_wantShares 61 = .ok (.if_icmp .ge 73, 3) := by decide +kernel
theorem dX1_wantShares_64 : decode cX1_wantShares 64 = .ok (.iload_n 3, 1) := by decide +kernel
theorem dX1_wantShares_65 : decode cX1_wantShares 65 = .ok (.aload 4, 2) := by decide +kernel
theorem dX1_wantShares_67 : decode cX1_wantShares 67 = .ok (.getfield 198, 3) := by decide +kernel
theorem dX1_wantShares_70 : decode cX1_wantShares 70 = .ok (.iload 7, 2) := by decide +kernel
theorem dX1_wantShares_72 : decode cX1_wantShares 72 = .ok (.aaload, 1) := by decide +kernel
theorem dX1_wantShares_73 : decode cX1_wantShares 73 = .ok (.getfield 213, 3) := by decide +kernel
theorem dX1_wantShares_76 : decode cX1_wantShares 76 = .ok (.imul, 1) := by decide +kernel
theorem dX1_wantShares_77 : decode cX1_wantShares 77 = .ok (.iload 5, 2) := by decide +kernel
theorem dX1_wantShares_79 : decode cX1_wantShares 79 = .ok (.invokestatic 65, 3) := by decide +kernel
theorem dX1_wantShares_82 : decode cX1_wantShares 82 = .ok (.istore 8, 2) := by decide +kernel
theorem dX1_wantShares_84 : decode cX1_wantShares 84 = .ok (.aload_n 1, 1) := by decide +kernel
theorem dX1_wantShares_85 : decode cX1_wantShares 85 = .ok (.getfield 210, 3) := by decide +kernel
theorem dX1_wantShares_88 : decode cX1_wantShares 88 = .ok (.iload 7, 2) := by decide +kernel
theorem dX1_wantShares_90 : decode cX1_wantShares 90 = .ok (.iload 8, 2) := by decide +kernel
theorem dX1_wantShares_92 : decode cX1_wantShares 92 = .ok (.aload 4, 2) := by decide +kernel
theorem dX1_wantShares_94 : decode cX1_wantShares 94 = .ok (.getfield 72, 3) := by decide +kernel
theorem dX1_wantShares_97 : decode cX1_wantShares 97 = .ok (.aload 4, 2) := by decide +kernel
theorem dX1_wantShares_99 : decode cX1_wantShares 99 = .ok (.getfield 198, 3) := by decide +kernel
theorem dX1_wantShares_102 : decode cX1_wantShares 102 = .ok (.iload 7, 2) := by decide +kernel
theorem dX1_wantShares_104 : decode cX1_wantShares 104 = .ok (.aaload, 1) := by decide +kernel
theorem dX1_wantShares_105 : decode cX1_wantShares 105 = .ok (.getfield 202, 3) := by decide +kernel
theorem dX1_wantShares_108 : decode cX1_wantShares 108 = .ok (.aaload, 1) := by decide +kernel
theorem dX1_wantShares_109 : decode cX1_wantShares 109 = .ok (.getfield 207, 3) := by decide +kernel
theorem dX1_wantShares_112 : decode cX1_wantShares 112 = .ok (.invokestatic 216, 3) := by decide +kernel
theorem dX1_wantShares_115 : decode cX1_wantShares 115 = .ok (.iastore, 1) := by decide +kernel
theorem dX1_wantShares_116 : decode cX1_wantShares 116 = .ok (.iload 6, 2) := by decide +kernel
theorem dX1_wantShares_118 : decode cX1_wantShares 118 = .ok (.aload_n 1, 1) := by decide +kernel
theorem dX1_wantShares_119 : decode cX1_wantShares 119 = .ok (.getfield 210, 3) := by decide +kernel
theorem dX1_wantShares_122 : decode cX1_wantShares 122 = .ok (.iload 7, 2) := by decide +kernel
theorem dX1_wantShares_124 : decode cX1_wantShares 124 = .ok (.iaload, 1) := by decide +kernel
theorem dX1_wantShares_125 : decode cX1_wantShares 125 = .ok (.isub, 1) := by decide +kernel
theorem dX1_wantShares_126 : decode cX1_wantShares 126 = .ok (.istore 6, 2) := by decide +kernel
theorem dX1_wantShares_128 : decode cX1_wantShares 128 = .ok (.iinc 7 1, 3) := by decide +kernel
theorem dX1_wantShares_131 : decode cX1_wantShares 131 = .ok (.goto (-76), 3) := by decide +kernel
theorem dX1_wantShares_134 : decode cX1_wantShares 134 = .ok (.iconst 0, 1) := by decide +kernel
theorem dX1_wantShares_135 : decode cX1_wantShares 135 = .ok (.istore 7, 2) := by decide +kernel
theorem dX1_wantShares_137 : decode cX1_wantShares 137 = .ok (.iload 7, 2) := by decide +kernel
theorem dX1_wantShares_139 : decode cX1_wantShares 139 = .ok (.bipush 9, 2) := by decide +kernel
theorem dX1_wantShares_141 : decode cX1_wantShares 141 = .ok (.if_icmp .ge 84, 3) := by decide +kernel
theorem dX1_wantShares_144 : decode cX1_wantShares 144 = .ok (.iload 6, 2) := by decide +kernel
theorem dX1_wantShares_146 : decode cX1_wantShares 146 = .ok (.ifCond .le 79, 3) := by decide +kernel
theorem dX1_wantShares_149 : decode cX1_wantShares 149 = .ok (.aload_n 2, 1) := by decide +kernel
theorem dX1_wantShares_150 : decode cX1_wantShares 150 = .ok (.getfield 192, 3) := by decide +kernel
theorem dX1_wantShares_153 : decode cX1_wantShares 153 = .ok (.istore 8, 2) := by decide +kernel
theorem dX1_wantShares_155 : decode cX1_wantShares 155 = .ok (.iload 8, 2) := by decide +kernel
theorem dX1_wantShares_157 : decode cX1_wantShares 157 = .ok (.aload_n 2, 1) := by decide +kernel
theorem dX1_wantShares_158 : decode cX1_wantShares 158 = .ok (.getfield 195, 3) := by decide +kernel
theorem dX1_wantShares_161 : decode cX1_wantShares 161 = .ok (.if_icmp .ge 58, 3) := by decide +kernel
theorem dX1_wantShares_164 : decode cX1_wantShares 164 = .ok (.iload 6, 2) := by decide +kernel
theorem dX1_wantShares_166 : decode cX1_wantShares 166 = .ok (.ifCond .le 53, 3) := by decide +kernel
theorem dX1_wantShares_169 : decode cX1_wantShares 169 = .ok (.aload_n 1, 1) := by decide +kernel
theorem dX1_wantShares_170 : decode cX1_wantShares 170 = .ok (.getfield 210, 3) := by decide +kernel
theorem dX1_wantShares_173 : decode cX1_wantShares 173 = .ok (.iload 8, 2) := by decide +kernel
theorem dX1_wantShares_175 : decode cX1_wantShares 175 = .ok (.iaload, 1) := by decide +kernel
theorem dX1_wantShares_176 : decode cX1_wantShares 176 = .ok (.aload 4, 2) := by decide +kernel
theorem dX1_wantShares_178 : decode cX1_wantShares 178 = .ok (.getfield 72, 3) := by decide +kernel
theorem dX1_wantShares_181 : decode cX1_wantShares 181 = .ok (.aload 4, 2) := by decide +kernel
theorem dX1_wantShares_183 : decode cX1_wantShares 183 = .ok (.getfield 198, 3) := by decide +kernel
theorem dX1_wantShares_186 : decode cX1_wantShares 186 = .ok (.iload 8, 2) := by decide +kernel
theorem dX1_wantShares_188 : decode cX1_wantShares 188 = .ok (.aaload, 1) := by decide +kernel
theorem dX1_wantShares_189 : decode cX1_wantShares 189 = .ok (.getfield 202, 3) := by decide +kernel
theorem dX1_wantShares_192 : decode cX1_wantShares 192 = .ok (.aaload, 1) := by decide +kernel
theorem dX1_wantShares_193 : decode cX1_wantShares 193 = .ok (.getfield 207, 3) := by decide +kernel
theorem dX1_wantShares_196 : decode cX1_wantShares 196 = .ok (.if_icmp .ge 17, 3) := by decide +kernel
theorem dX1_wantShares_199 : decode cX1_wantShares 199 = .ok (.aload_n 1, 1) := by decide +kernel
theorem dX1_wantShares_200 : decode cX1_wantShares 200 = .ok (.getfield 210, 3) := by decide +kernel
theorem dX1_wantShares_203 : decode cX1_wantShares 203 = .ok (.iload 8, 2) := by decide +kernel
theorem dX1_wantShares_205 : decode cX1_wantShares 205 = .ok (.dup2, 1) := by decide +kernel
theorem dX1_wantShares_206 : decode cX1_wantShares 206 = .ok (.iaload, 1) := by decide +kernel
theorem dX1_wantShares_207 : decode cX1_wantShares 207 = .ok (.iconst 1, 1) := by decide +kernel
theorem dX1_wantShares_208 : decode cX1_wantShares 208 = .ok (.iadd, 1) := by decide +kernel
theorem dX1_wantShares_209 : decode cX1_wantShares 209 = .ok (.iastore, 1) := by decide +kernel
theorem dX1_wantShares_210 : decode cX1_wantShares 210 = .ok (.iinc 6 (-1), 3) := by decide +kernel
theorem dX1_wantShares_213 : decode cX1_wantShares 213 = .ok (.iinc 8 1, 3) := by decide +kernel
theorem dX1_wantShares_216 : decode cX1_wantShares 216 = .ok (.goto (-61), 3) := by decide +kernel
theorem dX1_wantShares_219 : decode cX1_wantShares 219 = .ok (.iinc 7 1, 3) := by decide +kernel
theorem dX1_wantShares_222 : decode cX1_wantShares 222 = .ok (.goto (-85), 3) := by decide +kernel
theorem dX1_wantShares_225 : decode cX1_wantShares 225 = .ok (.return_, 1) := by decide +kernel
theorem dX1_moveDevices_0 : decode cX1_moveDevices 0 = .ok (.iconst 0, 1) := by decide +kernel
theorem dX1_moveDevices_1 : decode cX1_moveDevices 1 = .ok (.istore_n 2, 1) := by decide +kernel
theorem dX1_moveDevices_2 : decode cX1_moveDevices 2 = .ok (.iload_n 2, 1) := by decide +kernel
theorem dX1_moveDevices_3 : decode cX1_moveDevices 3 = .ok (.aload_n 1, 1) := by decide +kernel
theorem dX1_moveDevices_4 : decode cX1_moveDevices 4 = .ok (.getfield 43, 3) := by decide +kernel
theorem dX1_moveDevices_7 : decode cX1_moveDevices 7 = .ok (.getfield 69, 3) := by decide +kernel
theorem dX1_moveDevices_10 : decode cX1_moveDevices 10 = .ok (.if_icmp .ge 62, 3) := by decide +kernel
theorem dX1_moveDevices_13 : decode cX1_moveDevices 13 = .ok (.aload_n 1, 1) := by decide +kernel
theorem dX1_moveDevices_14 : decode cX1_moveDevices 14 = .ok (.getfield 219, 3) := by decide +kernel
theorem dX1_moveDevices_17 : decode cX1_moveDevices 17 = .ok (.iload_n 2, 1) := by decide +kernel
theorem dX1_moveDevices_18 : decode cX1_moveDevices 18 = .ok (.iaload, 1) := by decide +kernel
theorem dX1_moveDevices_19 : decode cX1_moveDevices 19 = .ok (.iconst (-1), 1) := by decide +kernel
theorem dX1_moveDevices_20 : decode cX1_moveDevices 20 = .ok (.if_icmp .ne 11, 3) := by decide +kernel
theorem dX1_moveDevices_23 : decode cX1_moveDevices 23 = .ok (.aload_n 1, 1) := by decide +kernel
theorem dX1_moveDevices_24 : decode cX1_moveDevices 24 = .ok (.iload_n 2, 1) := by decide +kernel
theorem dX1_moveDevices_25 : decode cX1_moveDevices 25 = .ok (.invokevirtual 222, 3) := by decide +kernel
theorem dX1_moveDevices_28 : decode cX1_moveDevices 28 = .ok (.goto 9, 3) := by decide +kernel
theorem dX1_moveDevices_31 : decode cX1_moveDevices 31 = .ok (.aload_n 1, 1) := by decide +kernel
theorem dX1_moveDevices_32 : decode cX1_moveDevices 32 = .ok (.getfield 219, 3) := by decide +kernel
theorem dX1_moveDevices_35 : decode cX1_moveDevices 35 = .ok (.iload_n 2, 1) := by decide +kernel
theorem dX1_moveDevices_36 : decode cX1_moveDevices 36 = .ok (.iaload, 1) := by decide +kernel
theorem dX1_moveDevices_37 : decode cX1_moveDevices 37 = .ok (.istore_n 3, 1) := by decide +kernel
theorem dX1_moveDevices_38 : decode cX1_moveDevices 38 = .ok (.aload_n 1, 1) := by decide +kernel
theorem dX1_moveDevices_39 : decode cX1_moveDevices 39 = .ok (.getfield 81, 3) := by decide +kernel
theorem dX1_moveDevices_42 : decode cX1_moveDevices 42 = .ok (.iload_n 2, 1) := by decide +kernel
theorem dX1_moveDevices_43 : decode cX1_moveDevices 43 = .ok (.aload_n 1, 1) := by decide +kernel
theorem dX1_moveDevices_44 : decode cX1_moveDevices 44 = .ok (.getfield 43, 3) := by decide +kernel
theorem dX1_moveDevices_47 : decode cX1_moveDevices 47 = .ok (.getfield 72, 3) := by decide +kernel
theorem dX1_moveDevices_50 : decode cX1_moveDevices 50 = .ok (.iload_n 2, 1) := by decide +kernel
theorem dX1_moveDevices_51 : decode cX1_moveDevices 51 = .ok (.aaload, 1) := by decide +kernel
theorem dX1_moveDevices_52 : decode cX1_moveDevices 52 = .ok (.getfield 225, 3) := by decide +kernel
theorem dX1_moveDevices_55 : decode cX1_moveDevices 55 = .ok (.aload_n 1, 1) := by decide +kernel
theorem dX1_moveDevices_56 : decode cX1_moveDevices 56 = .ok (.getfield 81, 3) := by decide +kernel
theorem dX1_moveDevices_59 : decode cX1_moveDevices 59 = .ok (.iload_n 2, 1) := by decide +kernel
theorem dX1_moveDevices_60 : decode cX1_moveDevices 60 = .ok (.iaload, 1) := by decide +kernel
theorem dX1_moveDevices_61 : decode cX1_moveDevices 61 = .ok (.iload_n 3, 1) := by decide +kernel
theorem dX1_moveDevices_62 : decode cX1_moveDevices 62 = .ok (.invokestatic 228, 3) := by decide +kernel
theorem dX1_moveDevices_65 : decode cX1_moveDevices 65 = .ok (.iastore, 1) := by decide +kernel
theorem dX1_moveDevices_66 : decode cX1_moveDevices 66 = .ok (.iinc 2 1, 3) := by decide +kernel
theorem dX1_moveDevices_69 : decode cX1_moveDevices 69 = .ok (.goto (-67), 3) := by decide +kernel
theorem dX1_moveDevices_72 : decode cX1_moveDevices 72 = .ok (.return_, 1) := by decide +kernel
theorem dX1_moved_0 : decode cX1_moved 0 = .ok (.iload_n 0, 1) := by decide +kernel
theorem dX1_moved_1 : decode cX1_moved 1 = .ok (.lookupswitch 43 #[(0, 27), (2, 35)], 27) := by decide +kernel
theorem dX1_moved_28 : decode cX1_moved 28 = .ok (.iload_n 1, 1) := by decide +kernel
theorem dX1_moved_29 : decode cX1_moved 29 = .ok (.iload_n 2, 1) := by decide +kernel
theorem dX1_moved_30 : decode cX1_moved 30 = .ok (.iload_n 1, 1) := by decide +kernel
theorem dX1_moved_31 : decode cX1_moved 31 = .ok (.invokestatic 187, 3) := by decide +kernel
theorem dX1_moved_34 : decode cX1_moved 34 = .ok (.iadd, 1) := by decide +kernel
theorem dX1_moved_35 : decode cX1_moved 35 = .ok (.ireturn, 1) := by decide +kernel
theorem dX1_moved_36 : decode cX1_moved 36 = .ok (.iload_n 2, 1) := by decide +kernel
theorem dX1_moved_37 : decode cX1_moved 37 = .ok (.iload_n 1, 1) := by decide +kernel
theorem dX1_moved_38 : decode cX1_moved 38 = .ok (.iconst 1, 1) := by decide +kernel
theorem dX1_moved_39 : decode cX1_moved 39 = .ok (.isub, 1) := by decide +kernel
theorem dX1_moved_40 : decode cX1_moved 40 = .ok (.invokestatic 141, 3) := by decide +kernel
theorem dX1_moved_43 : decode cX1_moved 43 = .ok (.ireturn, 1) := by decide +kernel
theorem dX1_moved_44 : decode cX1_moved 44 = .ok (.iload_n 2, 1) := by decide +kernel
theorem dX1_moved_45 : decode cX1_moved 45 = .ok (.ireturn, 1) := by decide +kernel
theorem dX1_shutZones_0 : decode cX1_shutZones 0 = .ok (.iconst 0, 1) := by decide +kernel
theorem dX1_shutZones_1 : decode cX1_shutZones 1 = .ok (.istore_n 2, 1) := by decide +kernel
theorem dX1_shutZones_2 : decode cX1_shutZones 2 = .ok (.iload_n 2, 1) := by decide +kernel
theorem dX1_shutZones_3 : decode cX1_shutZones 3 = .ok (.aload_n 1, 1) := by decide +kernel
theorem dX1_shutZones_4 : decode cX1_shutZones 4 = .ok (.getfield 43, 3) := by decide +kernel
theorem dX1_shutZones_7 : decode cX1_shutZones 7 = .ok (.getfield 146, 3) := by decide +kernel
theorem dX1_shutZones_10 : decode cX1_shutZones 10 = .ok (.if_icmp .ge 82, 3) := by decide +kernel
theorem dX1_shutZones_13 : decode cX1_shutZones 13 = .ok (.aload_n 1, 1) := by decide +kernel
theorem dX1_shutZones_14 : decode cX1_shutZones 14 = .ok (.getfield 43, 3) := by decide +kernel
theorem dX1_shutZones_17 : decode cX1_shutZones 17 = .ok (.getfield 149, 3) := by decide +kernel
theorem dX1_shutZones_20 : decode cX1_shutZones 20 = .ok (.iload_n 2, 1) := by decide +kernel
theorem dX1_shutZones_21 : decode cX1_shutZones 21 = .ok (.aaload, 1) := by decide +kernel
theorem dX1_shutZones_22 : decode cX1_shutZones 22 = .ok (.astore_n 3, 1) := by decide +kernel
theorem dX1_shutZones_23 : decode cX1_shutZones 23 = .ok (.aload_n 3, 1) := by decide +kernel
theorem dX1_shutZones_24 : decode cX1_shutZones 24 = .ok (.getfield 172, 3) := by decide +kernel
theorem dX1_shutZones_27 : decode cX1_shutZones 27 = .ok (.iconst 3, 1) := by decide +kernel
theorem dX1_shutZones_28 : decode cX1_shutZones 28 = .ok (.if_icmp .ne 58, 3) := by decide +kernel
theorem dX1_shutZones_31 : decode cX1_shutZones 31 = .ok (.aload_n 1, 1) := by decide +kernel
theorem dX1_shutZones_32 : decode cX1_shutZones 32 = .ok (.aload_n 3, 1) := by decide +kernel
theorem dX1_shutZones_33 : decode cX1_shutZones 33 = .ok (.getfield 153, 3) := by decide +kernel
theorem dX1_shutZones_36 : decode cX1_shutZones 36 = .ok (.invokevirtual 55, 3) := by decide +kernel
theorem dX1_shutZones_39 : decode cX1_shutZones 39 = .ok (.ifCond .eq 6, 3) := by decide +kernel
theorem dX1_shutZones_42 : decode cX1_shutZones 42 = .ok (.goto 44, 3) := by decide +kernel
theorem dX1_shutZones_45 : decode cX1_shutZones 45 = .ok (.aload_n 1, 1) := by decide +kernel
theorem dX1_shutZones_46 : decode cX1_shutZones 46 = .ok (.getfield 156, 3) := by decide +kernel
theorem dX1_shutZones_49 : decode cX1_shutZones 49 = .ok (.iload_n 2, 1) := by decide +kernel
theorem dX1_shutZones_50 : decode cX1_shutZones 50 = .ok (.iaload, 1) := by decide +kernel
theorem dX1_shutZones_51 : decode cX1_shutZones 51 = .ok (.iconst 1, 1) := by decide +kernel
theorem dX1_shutZones_52 : decode cX1_shutZones 52 = .ok (.if_icmp .ne 16, 3) := by decide +kernel
theorem dX1_shutZones_55 : decode cX1_shutZones 55 = .ok (.aload_n 1, 1) := by decide +kernel
theorem dX1_shutZones_56 : decode cX1_shutZones 56 = .ok (.aload_n 3, 1) := by decide +kernel
theorem dX1_shutZones_57 : decode cX1_shutZones 57 = .ok (.getfield 153, 3) := by decide +kernel
theorem dX1_shutZones_60 : decode cX1_shutZones 60 = .ok (.iload_n 2, 1) := by decide +kernel
theorem dX1_shutZones_61 : decode cX1_shutZones 61 = .ok (.iconst 1, 1) := by decide +kernel
theorem dX1_shutZones_62 : decode cX1_shutZones 62 = .ok (.invokevirtual 231, 3) := by decide +kernel
theorem dX1_shutZones_65 : decode cX1_shutZones 65 = .ok (.goto 21, 3) := by decide +kernel
theorem dX1_shutZones_68 : decode cX1_shutZones 68 = .ok (.aload_n 1, 1) := by decide +kernel
theorem dX1_shutZones_69 : decode cX1_shutZones 69 = .ok (.aload_n 3, 1) := by decide +kernel
theorem dX1_shutZones_70 : decode cX1_shutZones 70 = .ok (.invokestatic 234, 3) := by decide +kernel
theorem dX1_shutZones_73 : decode cX1_shutZones 73 = .ok (.ifCond .eq 13, 3) := by decide +kernel
theorem dX1_shutZones_76 : decode cX1_shutZones 76 = .ok (.aload_n 1, 1) := by decide +kernel
theorem dX1_shutZones_77 : decode cX1_shutZones 77 = .ok (.aload_n 3, 1) := by decide +kernel
theorem dX1_shutZones_78 : decode cX1_shutZones 78 = .ok (.getfield 153, 3) := by decide +kernel
theorem dX1_shutZones_81 : decode cX1_shutZones 81 = .ok (.iload_n 2, 1) := by decide +kernel
theorem dX1_shutZones_82 : decode cX1_shutZones 82 = .ok (.iconst 2, 1) := by decide +kernel
theorem dX1_shutZones_83 : decode cX1_shutZones 83 = .ok (.invokevirtual 231, 3) := by decide +kernel
theorem dX1_shutZones_86 : decode cX1_shutZones 86 = .ok (.iinc 2 1, 3) := by decide +kernel
theorem dX1_shutZones_89 : decode cX1_shutZones 89 = .ok (.goto (-87), 3) := by decide +kernel
theorem dX1_shutZones_92 : decode cX1_shutZones 92 = .ok (.return_, 1) := by decide +kernel
theorem dX1_isForeseen_0 : decode cX1_isForeseen 0 = .ok (.aload_n 0, 1) := by decide +kernel
theorem dX1_isForeseen_1 : decode cX1_isForeseen 1 = .ok (.getfield 119, 3) := by decide +kernel
theorem dX1_isForeseen_4 : decode cX1_isForeseen 4 = .ok (.aload_n 1, 1) := by decide +kernel
theorem dX1_isForeseen_5 : decode cX1_isForeseen 5 = .ok (.getfield 153, 3) := by decide +kernel
theorem dX1_isForeseen_8 : decode cX1_isForeseen 8 = .ok (.iaload, 1) := by decide +kernel
theorem dX1_isForeseen_9 : decode cX1_isForeseen 9 = .ok (.istore_n 2, 1) := by decide +kernel
theorem dX1_isForeseen_10 : decode cX1_isForeseen 10 = .ok (.aload_n 0, 1) := by decide +kernel
theorem dX1_isForeseen_11 : decode cX1_isForeseen 11 = .ok (.getfield 238, 3) := by decide +kernel
theorem dX1_isForeseen_14 : decode cX1_isForeseen 14 = .ok (.ifCond .le 45, 3) := by decide +kernel
theorem dX1_isForeseen_17 : decode cX1_isForeseen 17 = .ok (.iload_n 2, 1) := by decide +kernel
theorem dX1_isForeseen_18 : decode cX1_isForeseen 18 = .ok (.ifCond .le 41, 3) := by decide +kernel
theorem dX1_isForeseen_21 : decode cX1_isForeseen 21 = .ok (.aload_n 0, 1) := by decide +kernel
theorem dX1_isForeseen_22 : decode cX1_isForeseen 22 = .ok (.getfield 112, 3) := by decide +kernel
theorem dX1_isForeseen_25 : decode cX1_isForeseen 25 = .ok (.aload_n 1, 1) := by decide +kernel
theorem dX1_isForeseen_26 : decode cX1_isForeseen 26 = .ok (.getfield 153, 3) := by decide +kernel
theorem dX1_isForeseen_29 : decode cX1_isForeseen 29 = .ok (.iaload, 1) := by decide +kernel
theorem dX1_isForeseen_30 : decode cX1_isForeseen 30 = .ok (.iload_n 2, 1) := by decide +kernel
theorem dX1_isForeseen_31 : decode cX1_isForeseen 31 = .ok (.aload_n 0, 1) := by decide +kernel
theorem dX1_isForeseen_32 : decode cX1_isForeseen 32 = .ok (.getfield 238, 3) := by decide +kernel
theorem dX1_isForeseen_35 : decode cX1_isForeseen 35 = .ok (.imul, 1) := by decide +kernel
theorem dX1_isForeseen_36 : decode cX1_isForeseen 36 = .ok (.iadd, 1) := by decide +kernel
theorem dX1_isForeseen_37 : decode cX1_isForeseen 37 = .ok (.aload_n 1, 1) := by decide +kernel
theorem dX1_isForeseen_38 : decode cX1_isForeseen 38 = .ok (.getfield 159, 3) := by decide +kernel
theorem dX1_isForeseen_41 : decode cX1_isForeseen 41 = .ok (.if_icmp .lt 18, 3) := by decide +kernel
theorem dX1_isForeseen_44 : decode cX1_isForeseen 44 = .ok (.aload_n 0, 1) := by decide +kernel
theorem dX1_isForeseen_45 : decode cX1_isForeseen 45 = .ok (.aload_n 1, 1) := by decide +kernel
theorem dX1_isForeseen_46 : decode cX1_isForeseen 46 = .ok (.getfield 153, 3) := by decide +kernel
theorem dX1_isForeseen_49 : decode cX1_isForeseen 49 = .ok (.invokevirtual 241, 3) := by decide +kernel
theorem dX1_isForeseen_52 : decode cX1_isForeseen 52 = .ok (.ifCond .eq 7, 3) := by decide +kernel
theorem dX1_isForeseen_55 : decode cX1_isForeseen 55 = .ok (.iconst 1, 1) := by decide +kernel
theorem dX1_isForeseen_56 : decode cX1_isForeseen 56 = .ok (.goto 4, 3) := by decide +kernel
theorem dX1_isForeseen_59 : decode cX1_isForeseen 59 = .ok (.iconst 0, 1) := by decide +kernel
theorem dX1_isForeseen_60 : decode cX1_isForeseen 60 = .ok (.ireturn, 1) := by decide +kernel
theorem dX2_init_0 : decode cX2_init 0 = .ok (.aload_n 0, 1) := by decide +kernel
theorem dX2_init_1 : decode cX2_init 1 = .ok (.invokespecial 3, 3) := by decide +kernel
theorem dX2_init_4 : decode cX2_init 4 = .ok (.aload_n 0, 1) := by decide +kernel
theorem dX2_init_5 : decode cX2_init 5 = .ok (.iconst 0, 1) := by decide +kernel
theorem dX2_init_6 : decode cX2_init 6 = .ok (.putfield 9, 3) := by decide +kernel
theorem dX2_init_9 : decode cX2_init 9 = .ok (.aload_n 0, 1) := by decide +kernel
theorem dX2_init_10 : decode cX2_init 10 = .ok (.iconst 0, 1) := by decide +kernel
theorem dX2_init_11 : decode cX2_init 11 = .ok (.putfield 15, 3) := by decide +kernel
theorem dX2_init_14 : decode cX2_init 14 = .ok (.aload_n 0, 1) := by decide +kernel
theorem dX2_init_15 : decode cX2_init 15 = .ok (.iconst 1, 1) := by decide +kernel
theorem dX2_init_16 : decode cX2_init 16 = .ok (.putfield 18, 3) := by decide +kernel
theorem dX2_init_19 : decode cX2_init 19 = .ok (.aload_n 0, 1) := by decide +kernel
theorem dX2_init_20 : decode cX2_init 20 = .ok (.iconst 1, 1) := by decide +kernel
theorem dX2_init_21 : decode cX2_init 21 = .ok (.putfield 21, 3) := by decide +kernel
theorem dX2_init_24 : decode cX2_init 24 = .ok (.return_, 1) := by decide +kernel
theorem dX3_init_0 : decode cX3_init 0 = .ok (.aload_n 0, 1) := by decide +kernel
theorem dX3_init_1 : decode cX3_init 1 = .ok (.invokespecial 3, 3) := by decide +kernel
theorem dX3_init_4 : decode cX3_init 4 = .ok (.aload_n 0, 1) := by decide +kernel
theorem dX3_init_5 : decode cX3_init 5 = .ok (.iconst 0, 1) := by decide +kernel
theorem dX3_init_6 : decode cX3_init 6 = .ok (.putfield 9, 3) := by decide +kernel
theorem dX3_init_9 : decode cX3_init 9 = .ok (.aload_n 0, 1) := by decide +kernel
theorem dX3_init_10 : decode cX3_init 10 = .ok (.iconst (-1), 1) := by decide +kernel
theorem dX3_init_11 : decode cX3_init 11 = .ok (.putfield 15, 3) := by decide +kernel
theorem dX3_init_14 : decode cX3_init 14 = .ok (.aload_n 0, 1) := by decide +kernel
theorem dX3_init_15 : decode cX3_init 15 = .ok (.iconst (-1), 1) := by decide +kernel
theorem dX3_init_16 : decode cX3_init 16 = .ok (.putfield 18, 3) := by decide +kernel
theorem dX3_init_19 : decode cX3_init 19 = .ok (.aload_n 0, 1) := by decide +kernel
theorem dX3_init_20 : decode cX3_init 20 = .ok (.iconst 0, 1) := by decide +kernel
theorem dX3_init_21 : decode cX3_init 21 = .ok (.putfield 21, 3) := by decide +kernel
theorem dX3_init_24 : decode cX3_init 24 = .ok (.aload_n 0, 1) := by decide +kernel
theorem dX3_init_25 : decode cX3_init 25 = .ok (.sipush 1050, 3) := by decide +kernel
theorem dX3_init_28 : decode cX3_init 28 = .ok (.newarray .int, 2) := by decide +kernel
theorem dX3_init_30 : decode cX3_init 30 = .ok (.putfield 24, 3) := by decide +kernel
theorem dX3_init_33 : decode cX3_init 33 = .ok (.aload_n 0, 1) := by decide +kernel
theorem dX3_init_34 : decode cX3_init 34 = .ok (.iconst 0, 1) := by decide +kernel
theorem dX3_init_35 : decode cX3_init 35 = .ok (.putfield 28, 3) := by decide +kernel
theorem dX3_init_38 : decode cX3_init 38 = .ok (.aload_n 0, 1) := by decide +kernel
theorem dX3_init_39 : decode cX3_init 39 = .ok (.new 31, 3) := by decide +kernel
theorem dX3_init_42 : decode cX3_init 42 = .ok (.dup, 1) := by decide +kernel
theorem dX3_init_43 : decode cX3_init 43 = .ok (.aload_n 1, 1) := by decide +kernel
theorem dX3_init_44 : decode cX3_init 44 = .ok (.invokespecial 33, 3) := by decide +kernel
theorem dX3_init_47 : decode cX3_init 47 = .ok (.putfield 36, 3) := by decide +kernel
theorem dX3_init_50 : decode cX3_init 50 = .ok (.aload_n 0, 1) := by decide +kernel
theorem dX3_init_51 : decode cX3_init 51 = .ok (.aload_n 2, 1) := by decide +kernel
theorem dX3_init_52 : decode cX3_init 52 = .ok (.putfield 40, 3) := by decide +kernel
theorem dX3_init_55 : decode cX3_init 55 = .ok (.return_, 1) := by decide +kernel
theorem dX3_stateAhead_0 : decode cX3_stateAhead 0 = .ok (.aload_n 0, 1) := by decide +kernel
theorem dX3_stateAhead_1 : decode cX3_stateAhead 1 = .ok (.getfield 36, 3) := by decide +kernel
theorem dX3_stateAhead_4 : decode cX3_stateAhead 4 = .ok (.aload_n 1, 1) := by decide +kernel
theorem dX3_stateAhead_5 : decode cX3_stateAhead 5 = .ok (.invokevirtual 44, 3) := by decide +kernel
theorem dX3_stateAhead_8 : decode cX3_stateAhead 8 = .ok (.iconst 0, 1) := by decide +kernel
theorem dX3_stateAhead_9 : decode cX3_stateAhead 9 = .ok (.istore_n 3, 1) := by decide +kernel
theorem dX3_stateAhead_10 : decode cX3_stateAhead 10 = .ok (.iload_n 3, 1) := by decide +kernel
theorem dX3_stateAhead_11 : decode cX3_stateAhead 11 = .ok (.iload_n 2, 1) := by decide +kernel
theorem dX3_stateAhead_12 : decode cX3_stateAhead 12 = .ok (.if_icmp .ge 20, 3) := by decide +kernel
theorem dX3_stateAhead_15 : decode cX3_stateAhead 15 = .ok (.aload_n 0, 1) := by decide +kernel
theorem dX3_stateAhead_16 : decode cX3_stateAhead 16 = .ok (.getfield 40, 3) := by decide +kernel
theorem dX3_stateAhead_19 : decode cX3_stateAhead 19 = .ok (.aload_n 0, 1) := by decide +kernel
theorem dX3_stateAhead_20 : decode cX3_stateAhead 20 = .ok (.getfield 36, 3) := by decide +kernel
theorem dX3_stateAhead_23 : decode cX3_stateAhead 23 = .ok (.invokevirtual 48, 3) := by decide +kernel
theorem dX3_stateAhead_26 : decode cX3_stateAhead 26 = .ok (.iinc 3 1, 3) := by decide +kernel
theorem dX3_stateAhead_29 : decode cX3_stateAhead 29 = .ok (.goto (-19), 3) := by decide +kernel
theorem dX3_stateAhead_32 : decode cX3_stateAhead 32 = .ok (.aload_n 0, 1) := by decide +kernel
theorem dX3_stateAhead_33 : decode cX3_stateAhead 33 = .ok (.getfield 36, 3) := by decide +kernel
theorem dX3_stateAhead_36 : decode cX3_stateAhead 36 = .ok (.areturn, 1) := by decide +kernel
theorem dX3_peakHeat_0 : decode cX3_peakHeat 0 = .ok (.aload_n 0, 1) := by decide +kernel
theorem dX3_peakHeat_1 : decode cX3_peakHeat 1 = .ok (.getfield 36, 3) := by decide +kernel
theorem dX3_peakHeat_4 : decode cX3_peakHeat 4 = .ok (.aload_n 1, 1) := by decide +kernel
theorem dX3_peakHeat_5 : decode cX3_peakHeat 5 = .ok (.invokevirtual 44, 3) := by decide +kernel
theorem dX3_peakHeat_8 : decode cX3_peakHeat 8 = .ok (.iconst 0, 1) := by decide +kernel
theorem dX3_peakHeat_9 : decode cX3_peakHeat 9 = .ok (.istore 4, 2) := by decide +kernel
theorem dX3_peakHeat_11 : decode cX3_peakHeat 11 = .ok (.iconst 0, 1) := by decide +kernel
theorem dX3_peakHeat_12 : decode cX3_peakHeat 12 = .ok (.istore 5, 2) := by decide +kernel
theorem dX3_peakHeat_14 : decode cX3_peakHeat 14 = .ok (.iload 5, 2) := by decide +kernel
theorem dX3_peakHeat_16 : decode cX3_peakHeat 16 = .ok (.iload_n 3, 1) := by decide +kernel
theorem dX3_peakHeat_17 : decode cX3_peakHeat 17 = .ok (.if_icmp .ge 36, 3) := by decide +kernel
theorem dX3_peakHeat_20 : decode cX3_peakHeat 20 = .ok (.aload_n 0, 1) := by decide +kernel
theorem dX3_peakHeat_21 : decode cX3_peakHeat 21 = .ok (.getfield 40, 3) := by decide +kernel
theorem dX3_peakHeat_24 : decode cX3_peakHeat 24 = .ok (.aload_n 0, 1) := by decide +kernel
theorem dX3_peakHeat_25 : decode cX3_peakHeat 25 = .ok (.getfield 36, 3) := by decide +kernel
theorem dX3_peakHeat_28 : decode cX3_peakHeat 28 = .ok (.invokevirtual 48, 3) := by decide +kernel
theorem dX3_peakHeat_31 : decode cX3_peakHeat 31 = .ok (.iload 4, 2) := by decide +kernel
theorem dX3_peakHeat_33 : decode cX3_peakHeat 33 = .ok (.aload_n 0, 1) := by decide +kernel
theorem dX3_peakHeat_34 : decode cX3_peakHeat 34 = .ok (.getfield 36, 3) := by decide +kernel
theorem dX3_peakHeat_37 : decode cX3_peakHeat 37 = .ok (.getfield 53, 3) := by decide +kernel
theorem dX3_peakHeat_40 : decode cX3_peakHeat 40 = .ok (.iload_n 2, 1) := by decide +kernel
theorem dX3_peakHeat_41 : decode cX3_peakHeat 41 = .ok (.iaload, 1) := by decide +kernel
theorem dX3_peakHeat_42 : decode cX3_peakHeat 42 = .ok (.invokestatic 56, 3) := by decide +kernel
theorem dX3_peakHeat_45 : decode cX3_peakHeat 45 = .ok (.istore 4, 2) := by decide +kernel
theorem dX3_peakHeat_47 : decode cX3_peakHeat 47 = .ok (.iinc 5 1, 3) := by decide +kernel
theorem dX3_peakHeat_50 : decode cX3_peakHeat 50 = .ok (.goto (-36), 3) := by decide +kernel
theorem dX3_peakHeat_53 : decode cX3_peakHeat 53 = .ok (.iload 4, 2) := by decide +kernel
theorem dX3_peakHeat_55 : decode cX3_peakHeat 55 = .ok (.ireturn, 1) := by decide +kernel
theorem dX3_countFlips_0 : decode cX3_countFlips 0 = .ok (.aload_n 0, 1) := by decide +kernel
theorem dX3_countFlips_1 : decode cX3_countFlips 1 = .ok (.getfield 36, 3) := by decide +kernel
theorem dX3_countFlips_4 : decode cX3_countFlips 4 = .ok (.aload_n 1, 1) := by decide +kernel
theorem dX3_countFlips_5 : decode cX3_countFlips 5 = .ok (.invokevirtual 44, 3) := by decide +kernel
theorem dX3_countFlips_8 : decode cX3_countFlips 8 = .ok (.iconst 0, 1) := by decide +kernel
theorem dX3_countFlips_9 : decode cX3_countFlips 9 = .ok (.istore 4, 2) := by decide +kernel
theorem dX3_countFlips_11 : decode cX3_countFlips 11 = .ok (.iconst 0, 1) := by decide +kernel
theorem dX3_countFlips_12 : decode cX3_countFlips 12 = .ok (.istore 5, 2) := by decide +kernel
theorem dX3_countFlips_14 : decode cX3_countFlips 14 = .ok (.iload 5, 2) := by decide +kernel
theorem dX3_countFlips_16 : decode cX3_countFlips 16 = .ok (.iload_n 3, 1) := by decide +kernel
theorem dX3_countFlips_17 : decode cX3_countFlips 17 = .ok (.if_icmp .ge 55, 3) := by decide +kernel
theorem dX3_countFlips_20 : decode cX3_countFlips 20 = .ok (.aload_n 0, 1) := by decide +kernel
theorem dX3_countFlips_21 : decode cX3_countFlips 21 = .ok (.getfield 36, 3) := by decide +kernel
theorem dX3_countFlips_24 : decode cX3_countFlips 24 = .ok (.getfield 62, 3) := by decide +kernel
theorem dX3_countFlips_27 : decode cX3_countFlips 27 = .ok (.iload_n 2, 1) := by decide +kernel
theorem dX3_countFlips_28 : decode cX3_countFlips 28 = .ok (.iaload, 1) := by decide +kernel
theorem dX3_countFlips_29 : decode cX3_countFlips 29 = .ok (.istore 6, 2) := by decide +kernel
theorem dX3_countFlips_31 : decode cX3_countFlips 31 = .ok (.aload_n 0, 1) := by decide +kernel
theorem dX3_countFlips_32 : decode cX3_countFlips 32 = .ok (.getfield 40, 3) := by decide +kernel
theorem dX3_countFlips_35 : decode cX3_countFlips 35 = .ok (.aload_n 0, 1) := by decide +kernel
theorem dX3_countFlips_36 : decode cX3_countFlips 36 = .ok (.getfield 36, 3) := by decide +kernel
theorem dX3_countFlips_39 : decode cX3_countFlips 39 = .ok (.invokevirtual 48, 3) := by decide +kernel
theorem dX3_countFlips_42 : decode cX3_countFlips 42 = .ok (.iload 4, 2) := by decide +kernel
theorem dX3_countFlips_44 : decode cX3_countFlips 44 = .ok (.aload_n 0, 1) := by decide +kernel
theorem dX3_countFlips_45 : decode cX3_countFlips 45 = .ok (.getfield 36, 3) := by decide +kernel
theorem dX3_countFlips_48 : decode cX3_countFlips 48 = .ok (.getfield 62, 3) := by decide +kernel
theorem dX3_countFlips_51 : decode cX3_countFlips 51 = .ok (.iload_n 2, 1) := by decide +kernel
theorem dX3_countFlips_52 : decode cX3_countFlips 52 = .ok (.iaload, 1) := by decide +kernel
theorem dX3_countFlips_53 : decode cX3_countFlips 53 = .ok (.iload 6, 2) := by decide +kernel
theorem dX3_countFlips_55 : decode cX3_countFlips 55 = .ok (.if_icmp .ne 7, 3) := by decide +kernel
theorem dX3_countFlips_58 : decode cX3_countFlips 58 = .ok (.iconst 0, 1) := by decide +kernel
theorem dX3_countFlips_59 : decode cX3_countFlips 59 = .ok (.goto 4, 3) := by decide +kernel
theorem dX3_countFlips_62 : decode cX3_countFlips 62 = .ok (.iconst 1, 1) := by decide +kernel
theorem dX3_countFlips_63 : decode cX3_countFlips 63 = .ok (.iadd, 1) := by decide +kernel
theorem dX3_countFlips_64 : decode cX3_countFlips 64 = .ok (.istore 4, 2) := by decide +kernel
theorem dX3_countFlips_66 : decode cX3_countFlips 66 = .ok (.iinc 5 1, 3) := by decide +kernel
theorem dX3_countFlips_69 : decode cX3_countFlips 69 = .ok (.goto (-55), 3) := by decide +kernel
theorem dX3_countFlips_72 : decode cX3_countFlips 72 = .ok (.iload 4, 2) := by decide +kernel
theorem dX3_countFlips_74 : decode cX3_countFlips 74 = .ok (.ireturn, 1) := by decide +kernel
theorem dX3_firstMinutes_0 : decode cX3_firstMinutes 0 = .ok (.aload_n 0, 1) := by decide +kernel
theorem dX3_firstMinutes_1 : decode cX3_firstMinutes 1 = .ok (.getfield 36, 3) := by decide +kernel
theorem dX3_firstMinutes_4 : decode cX3_firstMinutes 4 = .ok (.aload_n 1, 1) := by decide +kernel
theorem dX3_firstMinutes_5 : decode cX3_firstMinutes 5 = .ok (.invokevirtual 44, 3) := by decide +kernel
theorem dX3_firstMinutes_8 : decode cX3_firstMinutes 8 = .ok (.aload_n 0, 1) := by decide +kernel
theorem dX3_firstMinutes_9 : decode cX3_firstMinutes 9 = .ok (.invokevirtual 65, 3) := by decide +kernel
theorem dX3_firstMinutes_12 : decode cX3_firstMinutes 12 = .ok (.ireturn, 1) := by decide +kernel
theorem dX3_firstZone_0 : decode cX3_firstZone 0 = .ok (.aload_n 0, 1) := by decide +kernel
theorem dX3_firstZone_1 : decode cX3_firstZone 1 = .ok (.getfield 36, 3) := by decide +kernel
theorem dX3_firstZone_4 : decode cX3_firstZone 4 = .ok (.aload_n 1, 1) := by decide +kernel
theorem dX3_firstZone_5 : decode cX3_firstZone 5 = .ok (.invokevirtual 44, 3) := by decide +kernel
theorem dX3_firstZone_8 : decode cX3_firstZone 8 = .ok (.aload_n 0, 1) := by decide +kernel
theorem dX3_firstZone_9 : decode cX3_firstZone 9 = .ok (.invokevirtual 65, 3) := by decide +kernel
theorem dX3_firstZone_12 : decode cX3_firstZone 12 = .ok (.pop, 1) := by decide +kernel
theorem dX3_firstZone_13 : decode cX3_firstZone 13 = .ok (.iconst 0, 1) := by decide +kernel
theorem dX3_firstZone_14 : decode cX3_firstZone 14 = .ok (.istore_n 2, 1) := by decide +kernel
theorem dX3_firstZone_15 : decode cX3_firstZone 15 = .ok (.iload_n 2, 1) := by decide +kernel
theorem dX3_firstZone_16 : decode cX3_firstZone 16 = .ok (.aload_n 1, 1) := by decide +kernel
theorem dX3_firstZone_17 : decode cX3_firstZone 17 = .ok (.getfield 69, 3) := by decide +kernel
theorem dX3_firstZone_20 : decode cX3_firstZone 20 = .ok (.getfield 73, 3) := by decide +kernel
theorem dX3_firstZone_23 : decode cX3_firstZone 23 = .ok (.if_icmp .ge 30, 3) := by decide +kernel
theorem dX3_firstZone_26 : decode cX3_firstZone 26 = .ok (.aload_n 0, 1) := by decide +kernel
theorem dX3_firstZone_27 : decode cX3_firstZone 27 = .ok (.getfield 36, 3) := by decide +kernel
theorem dX3_firstZone_30 : decode cX3_firstZone 30 = .ok (.iload_n 2, 1) := by decide +kernel
theorem dX3_firstZone_31 : decode cX3_firstZone 31 = .ok (.invokevirtual 78, 3) := by decide +kernel
theorem dX3_firstZone_34 : decode cX3_firstZone 34 = .ok (.ifCond .eq 13, 3) := by decide +kernel
theorem dX3_firstZone_37 : decode cX3_firstZone 37 = .ok (.aload_n 1, 1) := by decide +kernel
theorem dX3_firstZone_38 : decode cX3_firstZone 38 = .ok (.iload_n 2, 1) := by decide +kernel
theorem dX3_firstZone_39 : decode cX3_firstZone 39 = .ok (.invokevirtual 78, 3) := by decide +kernel
theorem dX3_firstZone_42 : decode cX3_firstZone 42 = .ok (.ifCond .ne 5, 3) := by decide +kernel
theorem dX3_firstZone_45 : decode cX3_firstZone 45 = .ok (.iload_n 2, 1) := by decide +kernel
theorem dX3_firstZone_46 : decode cX3_firstZone 46 = .ok (.ireturn, 1) := by decide +kernel
theorem dX3_firstZone_47 : decode cX3_firstZone 47 = .ok (.iinc 2 1, 3) := by decide +kernel
theorem dX3_firstZone_50 : decode cX3_firstZone 50 = .ok (.goto (-35), 3) := by decide +kernel
theorem dX3_firstZone_53 : decode cX3_firstZone 53 = .ok (.iconst (-1), 1) := by decide +kernel
theorem dX3_firstZone_54 : decode cX3_firstZone 54 = .ok (.ireturn, 1) := by decide +kernel
theorem dX3_neededDevice_0 : decode cX3_neededDevice 0 = .ok (.iconst (-1), 1) := by decide +kernel
theorem dX3_neededDevice_1 : decode cX3_neededDevice 1 = .ok (.istore_n 2, 1) := by decide +kernel
theorem dX3_neededDevice_2 : decode cX3_neededDevice 2 = .ok (.sipush 201, 3) := by decide +kernel
theorem dX3_neededDevice_5 : decode cX3_neededDevice 5 = .ok (.istore_n 3, 1) := by decide +kernel
theorem dX3_neededDevice_6 : decode cX3_neededDevice 6 = .ok (.iconst 0, 1) := by decide +kernel
theorem dX3_neededDevice_7 : decode cX3_neededDevice 7 = .ok (.istore 4, 2) := by decide +kernel
theorem dX3_neededDevice_9 : decode cX3_neededDevice 9 = .ok (.iload 4, 2) := by decide +kernel
theorem dX3_neededDevice_11 : decode cX3_neededDevice 11 = .ok (.aload_n 1, 1) := by decide +kernel
theorem dX3_neededDevice_12 : decode cX3_neededDevice 12 = .ok (.getfield 69, 3) := by decide +kernel
theorem dX3_neededDevice_15 : decode cX3_neededDevice 15 = .ok (.getfield 82, 3) := by decide +kernel
theorem dX3_neededDevice_18 : decode cX3_neededDevice 18 = .ok (.if_icmp .ge 52, 3) := by decide +kernel
theorem dX3_neededDevice_21 : decode cX3_neededDevice 21 = .ok (.aload_n 0, 1) := by decide +kernel
theorem dX3_neededDevice_22 : decode cX3_neededDevice 22 = .ok (.getfield 36, 3) := by decide +kernel
theorem dX3_neededDevice_25 : decode cX3_neededDevice 25 = .ok (.aload_n 1, 1) := by decide +kernel
theorem dX3_neededDevice_26 : decode cX3_neededDevice 26 = .ok (.invokevirtual 44, 3) := by decide +kernel
theorem dX3_neededDevice_29 : decode cX3_neededDevice 29 = .ok (.aload_n 0, 1) := by decide +kernel
theorem dX3_neededDevice_30 : decode cX3_neededDevice 30 = .ok (.getfield 36, 3) := by decide +kernel
theorem dX3_neededDevice_33 : decode cX3_neededDevice 33 = .ok (.getfield 85, 3) := by decide +kernel
theorem dX3_neededDevice_36 : decode cX3_neededDevice 36 = .ok (.iload 4, 2) := by decide +kernel
theorem dX3_neededDevice_38 : decode cX3_neededDevice 38 = .ok (.iconst 0, 1) := by decide +kernel
theorem dX3_neededDevice_39 : decode cX3_neededDevice 39 = .ok (.iastore, 1) := by decide +kernel
theorem dX3_neededDevice_40 : decode cX3_neededDevice 40 = .ok (.aload_n 0, 1) := by decide +kernel
theorem dX3_neededDevice_41 : decode cX3_neededDevice 41 = .ok (.invokevirtual 65, 3) := by decide +kernel
theorem dX3_neededDevice_44 : decode cX3_neededDevice 44 = .ok (.istore 5, 2) := by decide +kernel
theorem dX3_neededDevice_46 : decode cX3_neededDevice 46 = .ok (.iload 5, 2) := by decide +kernel
theorem dX3_neededDevice_48 : decode cX3_neededDevice 48 = .ok (.iconst (-1), 1) := by decide +kernel
theorem dX3_neededDevice_49 : decode cX3_neededDevice 49 = .ok (.if_icmp .eq 15, 3) := by decide +kernel
theorem dX3_neededDevice_52 : decode cX3_neededDevice 52 = .ok (.iload 5, 2) := by decide +kernel
theorem dX3_neededDevice_54 : decode cX3_neededDevice 54 = .ok (.iload_n 3, 1) := by decide +kernel
theorem dX3_neededDevice_55 : decode cX3_neededDevice 55 = .ok (.if_icmp .ge 9, 3) := by decide +kernel
theorem dX3_neededDevice_58 : decode cX3_neededDevice 58 = .ok (.iload 4, 2) := by decide +kernel
theorem dX3_neededDevice_60 : decode cX3_neededDevice 60 = .ok (.istore_n 2, 1) := by decide +kernel
theorem dX3_neededDevice_61 : decode cX3_neededDevice 61 = .ok (.iload 5, 2) := by decide +kernel
theorem dX3_neededDevice_63 : decode cX3_neededDevice 63 = .ok (.istore_n 3, 1) := by decide +kernel
theorem dX3_neededDevice_64 : decode cX3_neededDevice 64 = .ok (.iinc 4 1, 3) := by decide +kernel
theorem dX3_neededDevice_67 : decode cX3_neededDevice 67 = .ok (.goto (-58), 3) := by decide +kernel
theorem dX3_neededDevice_70 : decode cX3_neededDevice 70 = .ok (.iload_n 2, 1) := by decide +kernel
theorem dX3_neededDevice_71 : decode cX3_neededDevice 71 = .ok (.ireturn, 1) := by decide +kernel
theorem dX3_untilShutMore_0 : decode cX3_untilShutMore 0 = .ok (.aload_n 0, 1) := by decide +kernel
theorem dX3_untilShutMore_1 : decode cX3_untilShutMore 1 = .ok (.getfield 36, 3) := by decide +kernel
theorem dX3_untilShutMore_4 : decode cX3_untilShutMore 4 = .ok (.invokevirtual 88, 3) := by decide +kernel
theorem dX3_untilShutMore_7 : decode cX3_untilShutMore 7 = .ok (.istore_n 1, 1) := by decide +kernel
theorem dX3_untilShutMore_8 : decode cX3_untilShutMore 8 = .ok (.iconst 1, 1) := by decide +kernel
theorem dX3_untilShutMore_9 : decode cX3_untilShutMore 9 = .ok (.istore_n 2, 1) := by decide +kernel
theorem dX3_untilShutMore_10 : decode cX3_untilShutMore 10 = .ok (.iload_n 2, 1) := by decide +kernel
theorem dX3_untilShutMore_11 : decode cX3_untilShutMore 11 = .ok (.sipush 200, 3) := by decide +kernel
theorem dX3_untilShutMore_14 : decode cX3_untilShutMore 14 = .ok (.if_icmp .gt 33, 3) := by decide +kernel
theorem dX3_untilShutMore_17 : decode cX3_untilShutMore 17 = .ok (.aload_n 0, 1) := by decide +kernel
theorem dX3_untilShutMore_18 : decode cX3_untilShutMore 18 = .ok (.getfield 40, 3) := by decide +kernel
theorem dX3_untilShutMore_21 : decode cX3_untilShutMore 21 = .ok (.aload_n 0, 1) := by decide +kernel
theorem dX3_untilShutMore_22 : decode cX3_untilShutMore 22 = .ok (.getfield 36, 3) := by decide +kernel
theorem dX3_untilShutMore_25 : decode cX3_untilShutMore 25 = .ok (.invokevirtual 48, 3) := by decide +kernel
theorem dX3_untilShutMore_28 : decode cX3_untilShutMore 28 = .ok (.aload_n 0, 1) := by decide +kernel
theorem dX3_untilShutMore_29 : decode cX3_untilShutMore 29 = .ok (.getfield 36, 3) := by decide +kernel
theorem dX3_untilShutMore_32 : decode cX3_untilShutMore 32 = .ok (.invokevirtual 88, 3) := by decide +kernel
theorem dX3_untilShutMore_35 : decode cX3_untilShutMore 35 = .ok (.iload_n 1, 1) := by decide +kernel
theorem dX3_untilShutMore_36 : decode cX3_untilShutMore 36 = .ok (.if_icmp .eq 5, 3) := by decide +kernel
theorem dX3_untilShutMore_39 : decode cX3_untilShutMore 39 = .ok (.iload_n 2, 1) := by decide +kernel
theorem dX3_untilShutMore_40 : decode cX3_untilShutMore 40 = .ok (.ireturn, 1) := by decide +kernel
theorem dX3_untilShutMore_41 : decode cX3_untilShutMore 41 = .ok (.iinc 2 1, 3) := by decide +kernel
theorem dX3_untilShutMore_44 : decode cX3_untilShutMore 44 = .ok (.goto (-34), 3) := by decide +kernel
theorem dX3_untilShutMore_47 : decode cX3_untilShutMore 47 = .ok (.iconst (-1), 1) := by decide +kernel
theorem dX3_untilShutMore_48 : decode cX3_untilShutMore 48 = .ok (.ireturn, 1) := by decide +kernel
theorem dX3_againMinutes_0 : decode cX3_againMinutes 0 = .ok (.aload_n 0, 1) := by decide +kernel
theorem dX3_againMinutes_1 : decode cX3_againMinutes 1 = .ok (.getfield 36, 3) := by decide +kernel
theorem dX3_againMinutes_4 : decode cX3_againMinutes 4 = .ok (.aload_n 1, 1) := by decide +kernel
theorem dX3_againMinutes_5 : decode cX3_againMinutes 5 = .ok (.invokevirtual 44, 3) := by decide +kernel
theorem dX3_againMinutes_8 : decode cX3_againMinutes 8 = .ok (.iconst 1, 1) := by decide +kernel
theorem dX3_againMinutes_9 : decode cX3_againMinutes 9 = .ok (.istore_n 2, 1) := by decide +kernel
theorem dX3_againMinutes_10 : decode cX3_againMinutes 10 = .ok (.iload_n 2, 1) := by decide +kernel
theorem dX3_againMinutes_11 : decode cX3_againMinutes 11 = .ok (.sipush 200, 3) := by decide +kernel
theorem dX3_againMinutes_14 : decode cX3_againMinutes 14 = .ok (.if_icmp .gt 33, 3) := by decide +kernel
theorem dX3_againMinutes_17 : decode cX3_againMinutes 17 = .ok (.aload_n 0, 1) := by decide +kernel
theorem dX3_againMinutes_18 : decode cX3_againMinutes 18 = .ok (.getfield 40, 3) := by decide +kernel
theorem dX3_againMinutes_21 : decode cX3_againMinutes 21 = .ok (.aload_n 0, 1) := by decide +kernel
theorem dX3_againMinutes_22 : decode cX3_againMinutes 22 = .ok (.getfield 36, 3) := by decide +kernel
theorem dX3_againMinutes_25 : decode cX3_againMinutes 25 = .ok (.invokevirtual 48, 3) := by decide +kernel
theorem dX3_againMinutes_28 : decode cX3_againMinutes 28 = .ok (.aload_n 0, 1) := by decide +kernel
theorem dX3_againMinutes_29 : decode cX3_againMinutes 29 = .ok (.getfield 36, 3) := by decide +kernel
theorem dX3_againMinutes_32 : decode cX3_againMinutes 32 = .ok (.aload_n 1, 1) := by decide +kernel
theorem dX3_againMinutes_33 : decode cX3_againMinutes 33 = .ok (.invokevirtual 91, 3) := by decide +kernel
theorem dX3_againMinutes_36 : decode cX3_againMinutes 36 = .ok (.ifCond .eq 5, 3) := by decide +kernel
theorem dX3_againMinutes_39 : decode cX3_againMinutes 39 = .ok (.iload_n 2, 1) := by decide +kernel
theorem dX3_againMinutes_40 : decode cX3_againMinutes 40 = .ok (.ireturn, 1) := by decide +kernel
theorem dX3_againMinutes_41 : decode cX3_againMinutes 41 = .ok (.iinc 2 1, 3) := by decide +kernel
theorem dX3_againMinutes_44 : decode cX3_againMinutes 44 = .ok (.goto (-34), 3) := by decide +kernel
theorem dX3_againMinutes_47 : decode cX3_againMinutes 47 = .ok (.iconst (-1), 1) := by decide +kernel
theorem dX3_againMinutes_48 : decode cX3_againMinutes 48 = .ok (.ireturn, 1) := by decide +kernel
theorem dX3_greatestLoad_0 : decode cX3_greatestLoad 0 = .ok (.bipush 99, 2) := by decide +kernel
theorem dX3_greatestLoad_2 : decode cX3_greatestLoad 2 = .ok (.istore 4, 2) := by decide +kernel
theorem dX3_greatestLoad_4 : decode cX3_greatestLoad 4 = .ok (.iload 4, 2) := by decide +kernel
theorem dX3_greatestLoad_6 : decode cX3_greatestLoad 6 = .ok (.ifCond .lt 48, 3) := by decide +kernel
theorem dX3_greatestLoad_9 : decode cX3_greatestLoad 9 = .ok (.aload_n 1, 1) := by decide +kernel
theorem dX3_greatestLoad_10 : decode cX3_greatestLoad 10 = .ok (.iload_n 2, 1) := by decide +kernel
theorem dX3_greatestLoad_11 : decode cX3_greatestLoad 11 = .ok (.invokevirtual 78, 3) := by decide +kernel
theorem dX3_greatestLoad_14 : decode cX3_greatestLoad 14 = .ok (.ifCond .ne 40, 3) := by decide +kernel
theorem dX3_greatestLoad_17 : decode cX3_greatestLoad 17 = .ok (.aload_n 0, 1) := by decide +kernel
theorem dX3_greatestLoad_18 : decode cX3_greatestLoad 18 = .ok (.getfield 36, 3) := by decide +kernel
theorem dX3_greatestLoad_21 : decode cX3_greatestLoad 21 = .ok (.aload_n 1, 1) := by decide +kernel
theorem dX3_greatestLoad_22 : decode cX3_greatestLoad 22 = .ok (.invokevirtual 44, 3) := by decide +kernel
theorem dX3_greatestLoad_25 : decode cX3_greatestLoad 25 = .ok (.aload_n 0, 1) := by decide +kernel
theorem dX3_greatestLoad_26 : decode cX3_greatestLoad 26 = .ok (.getfield 36, 3) := by decide +kernel
theorem dX3_greatestLoad_29 : decode cX3_greatestLoad 29 = .ok (.getfield 95, 3) := by decide +kernel
theorem dX3_greatestLoad_32 : decode cX3_greatestLoad 32 = .ok (.iload_n 2, 1) := by decide +kernel
theorem dX3_greatestLoad_33 : decode cX3_greatestLoad 33 = .ok (.iload 4, 2) := by decide +kernel
theorem dX3_greatestLoad_35 : decode cX3_greatestLoad 35 = .ok (.iastore, 1) := by decide +kernel
theorem dX3_greatestLoad_36 : decode cX3_greatestLoad 36 = .ok (.aload_n 0, 1) := by decide +kernel
theorem dX3_greatestLoad_37 : decode cX3_greatestLoad 37 = .ok (.iload_n 2, 1) := by decide +kernel
theorem dX3_greatestLoad_38 : decode cX3_greatestLoad 38 = .ok (.iload_n 3, 1) := by decide +kernel
theorem dX3_greatestLoad_39 : decode cX3_greatestLoad 39 = .ok (.invokevirtual 98, 3) := by decide +kernel
theorem dX3_greatestLoad_42 : decode cX3_greatestLoad 42 = .ok (.ifCond .eq 6, 3) := by decide +kernel
theorem dX3_greatestLoad_45 : decode cX3_greatestLoad 45 = .ok (.iload 4, 2) := by decide +kernel
theorem dX3_greatestLoad_47 : decode cX3_greatestLoad 47 = .ok (.ireturn, 1) := by decide +kernel
theorem dX3_greatestLoad_48 : decode cX3_greatestLoad 48 = .ok (.iinc 4 (-1), 3) := by decide +kernel
theorem dX3_greatestLoad_51 : decode cX3_greatestLoad 51 = .ok (.goto (-47), 3) := by decide +kernel
theorem dX3_greatestLoad_54 : decode cX3_greatestLoad 54 = .ok (.iconst (-1), 1) := by decide +kernel
theorem dX3_greatestLoad_55 : decode cX3_greatestLoad 55 = .ok (.ireturn, 1) := by decide +kernel
theorem dX3_staysOpen_0 : decode cX3_staysOpen 0 = .ok (.iconst 0, 1) := by decide +kernel
theorem dX3_staysOpen_1 : decode cX3_staysOpen 1 = .ok (.istore_n 3, 1) := by decide +kernel
theorem dX3_staysOpen_2 : decode cX3_staysOpen 2 = .ok (.iload_n 3, 1) := by decide +kernel
theorem dX3_staysOpen_3 : decode cX3_staysOpen 3 = .ok (.iload_n 2, 1) := by decide +kernel
theorem dX3_staysOpen_4 : decode cX3_staysOpen 4 = .ok (.if_icmp .ge 31, 3) := by decide +kernel
theorem dX3_staysOpen_7 : decode cX3_staysOpen 7 = .ok (.aload_n 0, 1) := by decide +kernel
theorem dX3_staysOpen_8 : decode cX3_staysOpen 8 = .ok (.getfield 36, 3) := by decide +kernel
theorem dX3_staysOpen_11 : decode cX3_staysOpen 11 = .ok (.iload_n 1, 1) := by decide +kernel
theorem dX3_staysOpen_12 : decode cX3_staysOpen 12 = .ok (.invokevirtual 78, 3) := by decide +kernel
theorem dX3_staysOpen_15 : decode cX3_staysOpen 15 = .ok (.ifCond .ne 20, 3) := by decide +kernel
theorem dX3_staysOpen_18 : decode cX3_staysOpen 18 = .ok (.aload_n 0, 1) := by decide +kernel
theorem dX3_staysOpen_19 : decode cX3_staysOpen 19 = .ok (.getfield 40, 3) := by decide +kernel
theorem dX3_staysOpen_22 : decode cX3_staysOpen 22 = .ok (.aload_n 0, 1) := by decide +kernel
theorem dX3_staysOpen_23 : decode cX3_staysOpen 23 = .ok (.getfield 36, 3) := by decide +kernel
theorem dX3_staysOpen_26 : decode cX3_staysOpen 26 = .ok (.invokevirtual 48, 3) := by decide +kernel
theorem dX3_staysOpen_29 : decode cX3_staysOpen 29 = .ok (.iinc 3 1, 3) := by decide +kernel
theorem dX3_staysOpen_32 : decode cX3_staysOpen 32 = .ok (.goto (-30), 3) := by decide +kernel
theorem dX3_staysOpen_35 : decode cX3_staysOpen 35 = .ok (.aload_n 0, 1) := by decide +kernel
theorem dX3_staysOpen_36 : decode cX3_staysOpen 36 = .ok (.getfield 36, 3) := by decide +kernel
theorem dX3_staysOpen_39 : decode cX3_staysOpen 39 = .ok (.iload_n 1, 1) := by decide +kernel
theorem dX3_staysOpen_40 : decode cX3_staysOpen 40 = .ok (.invokevirtual 78, 3) := by decide +kernel
theorem dX3_staysOpen_43 : decode cX3_staysOpen 43 = .ok (.ifCond .ne 7, 3) := by decide +kernel
theorem dX3_staysOpen_46 : decode cX3_staysOpen 46 = .ok (.iconst 1, 1) := by decide +kernel
theorem dX3_staysOpen_47 : decode cX3_staysOpen 47 = .ok (.goto 4, 3) := by decide +kernel
theorem dX3_staysOpen_50 : decode cX3_staysOpen 50 = .ok (.iconst 0, 1) := by decide +kernel
theorem dX3_staysOpen_51 : decode cX3_staysOpen 51 = .ok (.ireturn, 1) := by decide +kernel
theorem dX3_tryLeaks_0 : decode cX3_tryLeaks 0 = .ok (.iload_n 3, 1) := by decide +kernel
theorem dX3_tryLeaks_1 : decode cX3_tryLeaks 1 = .ok (.aload_n 1, 1) := by decide +kernel
theorem dX3_tryLeaks_2 : decode cX3_tryLeaks 2 = .ok (.invokevirtual 102, 3) := by decide +kernel
theorem dX3_tryLeaks_5 : decode cX3_tryLeaks 5 = .ok (.invokestatic 56, 3) := by decide +kernel
theorem dX3_tryLeaks_8 : decode cX3_tryLeaks 8 = .ok (.istore 4, 2) := by decide +kernel
theorem dX3_tryLeaks_10 : decode cX3_tryLeaks 10 = .ok (.aload_n 0, 1) := by decide +kernel
theorem dX3_tryLeaks_11 : decode cX3_tryLeaks 11 = .ok (.iconst 0, 1) := by decide +kernel
theorem dX3_tryLeaks_12 : decode cX3_tryLeaks 12 = .ok (.putfield 9, 3) := by decide +kernel
theorem dX3_tryLeaks_15 : decode cX3_tryLeaks 15 = .ok (.aload_n 0, 1) := by decide +kernel
theorem dX3_tryLeaks_16 : decode cX3_tryLeaks 16 = .ok (.iconst (-1), 1) := by decide +kernel
theorem dX3_tryLeaks_17 : decode cX3_tryLeaks 17 = .ok (.putfield 15, 3) := by decide +kernel
theorem dX3_tryLeaks_20 : decode cX3_tryLeaks 20 = .ok (.iconst 1, 1) := by decide +kernel
theorem dX3_tryLeaks_21 : decode cX3_tryLeaks 21 = .ok (.istore 5, 2) := by decide +kernel
theorem dX3_tryLeaks_23 : decode cX3_tryLeaks 23 = .ok (.iload 5, 2) := by decide +kernel
theorem dX3_tryLeaks_25 : decode cX3_tryLeaks 25 = .ok (.bipush 50, 2) := by decide +kernel
theorem dX3_tryLeaks_27 : decode cX3_tryLeaks 27 = .ok (.if_icmp .gt 72, 3) := by decide +kernel
theorem dX3_tryLeaks_30 : decode cX3_tryLeaks 30 = .ok (.aload_n 0, 1) := by decide +kernel
theorem dX3_tryLeaks_31 : decode cX3_tryLeaks 31 = .ok (.getfield 36, 3) := by decide +kernel
theorem dX3_tryLeaks_34 : decode cX3_tryLeaks 34 = .ok (.aload_n 1, 1) := by decide +kernel
theorem dX3_tryLeaks_35 : decode cX3_tryLeaks 35 = .ok (.getfield 107, 3) := by decide +kernel
theorem dX3_tryLeaks_38 : decode cX3_tryLeaks 38 = .ok (.invokevirtual 44, 3) := by decide +kernel
theorem dX3_tryLeaks_41 : decode cX3_tryLeaks 41 = .ok (.aload_n 0, 1) := by decide +kernel
theorem dX3_tryLeaks_42 : decode cX3_tryLeaks 42 = .ok (.getfield 36, 3) := by decide +kernel
theorem dX3_tryLeaks_45 : decode cX3_tryLeaks 45 = .ok (.getfield 110, 3) := by decide +kernel
theorem dX3_tryLeaks_48 : decode cX3_tryLeaks 48 = .ok (.iload_n 2, 1) := by decide +kernel
theorem dX3_tryLeaks_49 : decode cX3_tryLeaks 49 = .ok (.iload 5, 2) := by decide +kernel
theorem dX3_tryLeaks_51 : decode cX3_tryLeaks 51 = .ok (.iastore, 1) := by decide +kernel
theorem dX3_tryLeaks_52 : decode cX3_tryLeaks 52 = .ok (.aload_n 0, 1) := by decide +kernel
theorem dX3_tryLeaks_53 : decode cX3_tryLeaks 53 = .ok (.aload_n 1, 1) := by decide +kernel
theorem dX3_tryLeaks_54 : decode cX3_tryLeaks 54 = .ok (.iload_n 2, 1) := by decide +kernel
theorem dX3_tryLeaks_55 : decode cX3_tryLeaks 55 = .ok (.iload 4, 2) := by decide +kernel
theorem dX3_tryLeaks_57 : decode cX3_tryLeaks 57 = .ok (.invokevirtual 113, 3) := by decide +kernel
theorem dX3_tryLeaks_60 : decode cX3_tryLeaks 60 = .ok (.ifCond .eq 33, 3) := by decide +kernel
theorem dX3_tryLeaks_63 : decode cX3_tryLeaks 63 = .ok (.aload_n 0, 1) := by decide +kernel
theorem dX3_tryLeaks_64 : decode cX3_tryLeaks 64 = .ok (.aload_n 0, 1) := by decide +kernel
theorem dX3_tryLeaks_65 : decode cX3_tryLeaks 65 = .ok (.getfield 9, 3) := by decide +kernel
theorem dX3_tryLeaks_68 : decode cX3_tryLeaks 68 = .ok (.ifCond .ne 8, 3) := by decide +kernel
theorem dX3_tryLeaks_71 : decode cX3_tryLeaks 71 = .ok (.iload 5, 2) := by decide +kernel
theorem dX3_tryLeaks_73 : decode cX3_tryLeaks 73 = .ok (.goto 7, 3) := by decide +kernel
theorem dX3_tryLeaks_76 : decode cX3_tryLeaks 76 = .ok (.aload_n 0, 1) := by decide +kernel
theorem dX3_tryLeaks_77 : decode cX3_tryLeaks 77 = .ok (.getfield 15, 3) := by decide +kernel
theorem dX3_tryLeaks_80 : decode cX3_tryLeaks 80 = .ok (.putfield 15, 3) := by decide +kernel
theorem dX3_tryLeaks_83 : decode cX3_tryLeaks 83 = .ok (.aload_n 0, 1) := by decide +kernel
theorem dX3_tryLeaks_84 : decode cX3_tryLeaks 84 = .ok (.dup, 1) := by decide +kernel
theorem dX3_tryLeaks_85 : decode cX3_tryLeaks 85 = .ok (.getfield 9, 3) := by decide +kernel
theorem dX3_tryLeaks_88 : decode cX3_tryLeaks 88 = .ok (.iconst 1, 1) := by decide +kernel
theorem dX3_tryLeaks_89 : decode cX3_tryLeaks 89 = .ok (.iadd, 1) := by decide +kernel
theorem dX3_tryLeaks_90 : decode cX3_tryLeaks 90 = .ok (.putfield 9, 3) := by decide +kernel
theorem dX3_tryLeaks_93 : decode cX3_tryLeaks 93 = .ok (.iinc 5 1, 3) := by decide +kernel
theorem dX3_tryLeaks_96 : decode cX3_tryLeaks 96 = .ok (.goto (-73), 3) := by decide +kernel
theorem dX3_tryLeaks_99 : decode cX3_tryLeaks 99 = .ok (.return_, 1) := by decide +kernel
theorem dX3_agreesWithNotes_0 : decode cX3_agreesWithNotes 0 = .ok (.iconst 0, 1) := by decide +kernel
theorem dX3_agreesWithNotes_1 : decode cX3_agreesWithNotes 1 = .ok (.istore 4, 2) := by decide +kernel
theorem dX3_agreesWithNotes_3 : decode cX3_agreesWithNotes 3 = .ok (.iload 4, 2) := by decide +kernel
theorem dX3_agreesWithNotes_5 : decode cX3_agreesWithNotes 5 = .ok (.iload_n 3, 1) := by decide +kernel
theorem dX3_agreesWithNotes_6 : decode cX3_agreesWithNotes 6 = .ok (.if_icmp .gt 71, 3) := by decide +kernel
theorem dX3_agreesWithNotes_9 : decode cX3_agreesWithNotes 9 = .ok (.iload 4, 2) := by decide +kernel
theorem dX3_agreesWithNotes_11 : decode cX3_agreesWithNotes 11 = .ok (.ifCond .le 14, 3) := by decide +kernel
theorem dX3_agreesWithNotes_14 : decode cX3_agreesWithNotes 14 = .ok (.aload_n 0, 1) := by decide +kernel
theorem dX3_agreesWithNotes_15 : decode cX3_agreesWithNotes 15 = .ok (.getfield 40, 3) := by decide +kernel
theorem dX3_agreesWithNotes_18 : decode cX3_agreesWithNotes 18 = .ok (.aload_n 0, 1) := by decide +kernel
theorem dX3_agreesWithNotes_19 : decode cX3_agreesWithNotes 19 = .ok (.getfield 36, 3) := by decide +kernel
theorem dX3_agreesWithNotes_22 : decode cX3_agreesWithNotes 22 = .ok (.invokevirtual 48, 3) := by decide +kernel
theorem dX3_agreesWithNotes_25 : decode cX3_agreesWithNotes 25 = .ok (.aload_n 1, 1) := by decide +kernel
theorem dX3_agreesWithNotes_26 : decode cX3_agreesWithNotes 26 = .ok (.aload_n 0, 1) := by decide +kernel
theorem dX3_agreesWithNotes_27 : decode cX3_agreesWithNotes 27 = .ok (.getfield 36, 3) := by decide +kernel
theorem dX3_agreesWithNotes_30 : decode cX3_agreesWithNotes 30 = .ok (.iload 4, 2) := by decide +kernel
theorem dX3_agreesWithNotes_32 : decode cX3_agreesWithNotes 32 = .ok (.invokevirtual 117, 3) := by decide +kernel
theorem dX3_agreesWithNotes_35 : decode cX3_agreesWithNotes 35 = .ok (.ifCond .ne 5, 3) := by decide +kernel
theorem dX3_agreesWithNotes_38 : decode cX3_agreesWithNotes 38 = .ok (.iconst 0, 1) := by decide +kernel
theorem dX3_agreesWithNotes_39 : decode cX3_agreesWithNotes 39 = .ok (.ireturn, 1) := by decide +kernel
theorem dX3_agreesWithNotes_40 : decode cX3_agreesWithNotes 40 = .ok (.iload 4, 2) := by decide +kernel
theorem dX3_agreesWithNotes_42 : decode cX3_agreesWithNotes 42 = .ok (.bipush 20, 2) := by decide +kernel
theorem dX3_agreesWithNotes_44 : decode cX3_agreesWithNotes 44 = .ok (.if_icmp .gt 27, 3) := by decide +kernel
theorem dX3_agreesWithNotes_47 : decode cX3_agreesWithNotes 47 = .ok (.aload_n 0, 1) := by decide +kernel
theorem dX3_agreesWithNotes_48 : decode cX3_agreesWithNotes 48 = .ok (.getfield 24, 3) := by decide +kernel
theorem dX3_agreesWithNotes_51 : decode cX3_agreesWithNotes 51 = .ok (.aload_n 0, 1) := by decide +kernel
theorem dX3_agreesWithNotes_52 : decode cX3_agreesWithNotes 52 = .ok (.getfield 9, 3) := by decide +kernel
theorem dX3_agreesWithNotes_55 : decode cX3_agreesWithNotes 55 = .ok (.bipush 21, 2) := by decide +kernel
theorem dX3_agreesWithNotes_57 : decode cX3_agreesWithNotes 57 = .ok (.imul, 1) := by decide +kernel
theorem dX3_agreesWithNotes_58 : decode cX3_agreesWithNotes 58 = .ok (.iload 4, 2) := by decide +kernel
theorem dX3_agreesWithNotes_60 : decode cX3_agreesWithNotes 60 = .ok (.iadd, 1) := by decide +kernel
theorem dX3_agreesWithNotes_61 : decode cX3_agreesWithNotes 61 = .ok (.aload_n 0, 1) := by decide +kernel
theorem dX3_agreesWithNotes_62 : decode cX3_agreesWithNotes 62 = .ok (.getfield 36, 3) := by decide +kernel
theorem dX3_agreesWithNotes_65 : decode cX3_agreesWithNotes 65 = .ok (.getfield 53, 3) := by decide +kernel
theorem dX3_agreesWithNotes_68 : decode cX3_agreesWithNotes 68 = .ok (.iload_n 2, 1) := by decide +kernel
theorem dX3_agreesWithNotes_69 : decode cX3_agreesWithNotes 69 = .ok (.iaload, 1) := by decide +kernel
theorem dX3_agreesWithNotes_70 : decode cX3_agreesWithNotes 70 = .ok (.iastore, 1) := by decide +kernel
theorem dX3_agreesWithNotes_71 : decode cX3_agreesWithNotes 71 = .ok (.iinc 4 1, 3) := by decide +kernel
theorem dX3_agreesWithNotes_74 : decode cX3_agreesWithNotes 74 = .ok (.goto (-71), 3) := by decide +kernel
theorem dX3_agreesWithNotes_77 : decode cX3_agreesWithNotes 77 = .ok (.iconst 1, 1) := by decide +kernel
theorem dX3_agreesWithNotes_78 : decode cX3_agreesWithNotes 78 = .ok (.ireturn, 1) := by decide +kernel
theorem dX3_findLook_0 : decode cX3_findLook 0 = .ok (.aload_n 0, 1) := by decide +kernel
theorem dX3_findLook_1 : decode cX3_findLook 1 = .ok (.iconst (-1), 1) := by decide +kernel
theorem dX3_findLook_2 : decode cX3_findLook 2 = .ok (.putfield 18, 3) := by decide +kernel
theorem dX3_findLook_5 : decode cX3_findLook 5 = .ok (.aload_n 0, 1) := by decide +kernel
theorem dX3_findLook_6 : decode cX3_findLook 6 = .ok (.iconst 0, 1) := by decide +kernel
theorem dX3_findLook_7 : decode cX3_findLook 7 = .ok (.putfield 21, 3) := by decide +kernel
theorem dX3_findLook_10 : decode cX3_findLook 10 = .ok (.iconst 0, 1) := by decide +kernel
theorem dX3_findLook_11 : decode cX3_findLook 11 = .ok (.istore_n 1, 1) := by decide +kernel
theorem dX3_findLook_12 : decode cX3_findLook 12 = .ok (.iload_n 1, 1) := by decide +kernel
theorem dX3_findLook_13 : decode cX3_findLook 13 = .ok (.bipush 20, 2) := by decide +kernel
theorem dX3_findLook_15 : decode cX3_findLook 15 = .ok (.if_icmp .gt 33, 3) := by decide +kernel
theorem dX3_findLook_18 : decode cX3_findLook 18 = .ok (.aload_n 0, 1) := by decide +kernel
theorem dX3_findLook_19 : decode cX3_findLook 19 = .ok (.iload_n 1, 1) := by decide +kernel
theorem dX3_findLook_20 : decode cX3_findLook 20 = .ok (.invokevirtual 121, 3) := by decide +kernel
theorem dX3_findLook_23 : decode cX3_findLook 23 = .ok (.istore_n 2, 1) := by decide +kernel
theorem dX3_findLook_24 : decode cX3_findLook 24 = .ok (.iload_n 2, 1) := by decide +kernel
theorem dX3_findLook_25 : decode cX3_findLook 25 = .ok (.aload_n 0, 1) := by decide +kernel
theorem dX3_findLook_26 : decode cX3_findLook 26 = .ok (.getfield 21, 3) := by decide +kernel
theorem dX3_findLook_29 : decode cX3_findLook 29 = .ok (.if_icmp .le 13, 3) := by decide +kernel
theorem dX3_findLook_32 : decode cX3_findLook 32 = .ok (.aload_n 0, 1) := by decide +kernel
theorem dX3_findLook_33 : decode cX3_findLook 33 = .ok (.iload_n 1, 1) := by decide +kernel
theorem dX3_findLook_34 : decode cX3_findLook 34 = .ok (.putfield 18, 3) := by decide +kernel
theorem dX3_findLook_37 : decode cX3_findLook 37 = .ok (.aload_n 0, 1) := by decide +kernel
theorem dX3_findLook_38 : decode cX3_findLook 38 = .ok (.iload_n 2, 1) := by decide +kernel
theorem dX3_findLook_39 : decode cX3_findLook 39 = .ok (.putfield 21, 3) := by decide +kernel
theorem dX3_findLook_42 : decode cX3_findLook 42 = .ok (.iinc 1 1, 3) := by decide +kernel
theorem dX3_findLook_45 : decode cX3_findLook 45 = .ok (.goto (-33), 3) := by decide +kernel
theorem dX3_findLook_48 : decode cX3_findLook 48 = .ok (.return_, 1) := by decide +kernel
theorem dX3_countUnlike_0 : decode cX3_countUnlike 0 = .ok (.iconst 0, 1) := by decide +kernel
theorem dX3_countUnlike_1 : decode cX3_countUnlike 1 = .ok (.istore_n 2, 1) := by decide +kernel
theorem dX3_countUnlike_2 : decode cX3_countUnlike 2 = .ok (.iconst 0, 1) := by decide +kernel
theorem dX3_countUnlike_3 : decode cX3_countUnlike 3 = .ok (.istore_n 3, 1) := by decide +kernel
theorem dX3_countUnlike_4 : decode cX3_countUnlike 4 = .ok (.iload_n 3, 1) := by decide +kernel
theorem dX3_countUnlike_5 : decode cX3_countUnlike 5 = .ok (.aload_n 0, 1) := by decide +kernel
theorem dX3_countUnlike_6 : decode cX3_countUnlike 6 = .ok (.getfield 9, 3) := by decide +kernel
theorem dX3_countUnlike_9 : decode cX3_countUnlike 9 = .ok (.if_icmp .ge 26, 3) := by decide +kernel
theorem dX3_countUnlike_12 : decode cX3_countUnlike 12 = .ok (.iload_n 2, 1) := by decide +kernel
theorem dX3_countUnlike_13 : decode cX3_countUnlike 13 = .ok (.aload_n 0, 1) := by decide +kernel
theorem dX3_countUnlike_14 : decode cX3_countUnlike 14 = .ok (.iload_n 3, 1) := by decide +kernel
theorem dX3_countUnlike_15 : decode cX3_countUnlike 15 = .ok (.iload_n 1, 1) := by decide +kernel
theorem dX3_countUnlike_16 : decode cX3_countUnlike 16 = .ok (.invokevirtual 125, 3) := by decide +kernel
theorem dX3_countUnlike_19 : decode cX3_countUnlike 19 = .ok (.ifCond .eq 7, 3) := by decide +kernel
theorem dX3_countUnlike_22 : decode cX3_countUnlike 22 = .ok (.iconst 1, 1) := by decide +kernel
theorem dX3_countUnlike_23 : decode cX3_countUnlike 23 = .ok (.goto 4, 3) := by decide +kernel
theorem dX3_countUnlike_26 : decode cX3_countUnlike 26 = .ok (.iconst 0, 1) := by decide +kernel
theorem dX3_countUnlike_27 : decode cX3_countUnlike 27 = .ok (.iadd, 1) := by decide +kernel
theorem dX3_countUnlike_28 : decode cX3_countUnlike 28 = .ok (.istore_n 2, 1) := by decide +kernel
theorem dX3_countUnlike_29 : decode cX3_countUnlike 29 = .ok (.iinc 3 1, 3) := by decide +kernel
theorem dX3_countUnlike_32 : decode cX3_countUnlike 32 = .ok (.goto (-28), 3) := by decide +kernel
theorem dX3_countUnlike_35 : decode cX3_countUnlike 35 = .ok (.iload_n 2, 1) := by decide +kernel
theorem dX3_countUnlike_36 : decode cX3_countUnlike 36 = .ok (.ireturn, 1) := by decide +kernel
theorem dX3_isNewHeat_0 : decode cX3_isNewHeat 0 = .ok (.iconst 0, 1) := by decide +kernel
theorem dX3_isNewHeat_1 : decode cX3_isNewHeat 1 = .ok (.istore_n 3, 1) := by decide +kernel
theorem dX3_isNewHeat_2 : decode cX3_isNewHeat 2 = .ok (.iload_n 3, 1) := by decide +kernel
theorem dX3_isNewHeat_3 : decode cX3_isNewHeat 3 = .ok (.iload_n 1, 1) := by decide +kernel
theorem dX3_isNewHeat_4 : decode cX3_isNewHeat 4 = .ok (.if_icmp .ge 36, 3) := by decide +kernel
theorem dX3_isNewHeat_7 : decode cX3_isNewHeat 7 = .ok (.aload_n 0, 1) := by decide +kernel
theorem dX3_isNewHeat_8 : decode cX3_isNewHeat 8 = .ok (.getfield 24, 3) := by decide +kernel
theorem dX3_isNewHeat_11 : decode cX3_isNewHeat 11 = .ok (.iload_n 3, 1) := by decide +kernel
theorem dX3_isNewHeat_12 : decode cX3_isNewHeat 12 = .ok (.bipush 21, 2) := by decide +kernel
theorem dX3_isNewHeat_14 : decode cX3_isNewHeat 14 = .ok (.imul, 1) := by decide +kernel
theorem dX3_isNewHeat_15 : decode cX3_isNewHeat 15 = .ok (.iload_n 2, 1) := by decide +kernel
theorem dX3_isNewHeat_16 : decode cX3_isNewHeat 16 = .ok (.iadd, 1) := by decide +kernel
theorem dX3_isNewHeat_17 : decode cX3_isNewHeat 17 = .ok (.iaload, 1) := by decide +kernel
theorem dX3_isNewHeat_18 : decode cX3_isNewHeat 18 = .ok (.aload_n 0, 1) := by decide +kernel
theorem dX3_isNewHeat_19 : decode cX3_isNewHeat 19 = .ok (.getfield 24, 3) := by decide +kernel
theorem dX3_isNewHeat_22 : decode cX3_isNewHeat 22 = .ok (.iload_n 1, 1) := by decide +kernel
theorem dX3_isNewHeat_23 : decode cX3_isNewHeat 23 = .ok (.bipush 21, 2) := by decide +kernel
theorem dX3_isNewHeat_25 : decode cX3_isNewHeat 25 = .ok (.imul, 1) := by decide +kernel
theorem dX3_isNewHeat_26 : decode cX3_isNewHeat 26 = .ok (.iload_n 2, 1) := by decide +kernel
theorem dX3_isNewHeat_27 : decode cX3_isNewHeat 27 = .ok (.iadd, 1) := by decide +kernel
theorem dX3_isNewHeat_28 : decode cX3_isNewHeat 28 = .ok (.iaload, 1) := by decide +kernel
theorem dX3_isNewHeat_29 : decode cX3_isNewHeat 29 = .ok (.if_icmp .ne 5, 3) := by decide +kernel
theorem dX3_isNewHeat_32 : decode cX3_isNewHeat 32 = .ok (.iconst 0, 1) := by decide +kernel
theorem dX3_isNewHeat_33 : decode cX3_isNewHeat 33 = .ok (.ireturn, 1) := by decide +kernel
theorem dX3_isNewHeat_34 : decode cX3_isNewHeat 34 = .ok (.iinc 3 1, 3) := by decide +kernel
theorem dX3_isNewHeat_37 : decode cX3_isNewHeat 37 = .ok (.goto (-35), 3) := by decide +kernel
theorem dX3_isNewHeat_40 : decode cX3_isNewHeat 40 = .ok (.iconst 1, 1) := by decide +kernel
theorem dX3_isNewHeat_41 : decode cX3_isNewHeat 41 = .ok (.ireturn, 1) := by decide +kernel
theorem dX3_liveYears_0 : decode cX3_liveYears 0 = .ok (.aload_n 0, 1) := by decide +kernel
theorem dX3_liveYears_1 : decode cX3_liveYears 1 = .ok (.getfield 36, 3) := by decide +kernel
theorem dX3_liveYears_4 : decode cX3_liveYears 4 = .ok (.aload_n 1, 1) := by decide +kernel
theorem dX3_liveYears_5 : decode cX3_liveYears 5 = .ok (.invokevirtual 44, 3) := by decide +kernel
theorem dX3_liveYears_8 : decode cX3_liveYears 8 = .ok (.aload_n 0, 1) := by decide +kernel
theorem dX3_liveYears_9 : decode cX3_liveYears 9 = .ok (.iload_n 2, 1) := by decide +kernel
theorem dX3_liveYears_10 : decode cX3_liveYears 10 = .ok (.putfield 28, 3) := by decide +kernel
theorem dX3_liveYears_13 : decode cX3_liveYears 13 = .ok (.iconst 0, 1) := by decide +kernel
theorem dX3_liveYears_14 : decode cX3_liveYears 14 = .ok (.istore 4, 2) := by decide +kernel
theorem dX3_liveYears_16 : decode cX3_liveYears 16 = .ok (.iconst 0, 1) := by decide +kernel
theorem dX3_liveYears_17 : decode cX3_liveYears 17 = .ok (.istore 5, 2) := by decide +kernel
theorem dX3_liveYears_19 : decode cX3_liveYears 19 = .ok (.iload 5, 2) := by decide +kernel
theorem dX3_liveYears_21 : decode cX3_liveYears 21 = .ok (.iload_n 3, 1) := by decide +kernel
theorem dX3_liveYears_22 : decode cX3_liveYears 22 = .ok (.if_icmp .ge 105, 3) := by decide +kernel
theorem dX3_liveYears_25 : decode cX3_liveYears 25 = .ok (.aload_n 0, 1) := by decide +kernel
theorem dX3_liveYears_26 : decode cX3_liveYears 26 = .ok (.iconst 4, 1) := by decide +kernel
theorem dX3_liveYears_27 : decode cX3_liveYears 27 = .ok (.invokevirtual 128, 3) := by decide +kernel
theorem dX3_liveYears_30 : decode cX3_liveYears 30 = .ok (.ifCond .ne 42, 3) := by decide +kernel
theorem dX3_liveYears_33 : decode cX3_liveYears 33 = .ok (.aload_n 1, 1) := by decide +kernel
theorem dX3_liveYears_34 : decode cX3_liveYears 34 = .ok (.getfield 69, 3) := by decide +kernel
theorem dX3_liveYears_37 : decode cX3_liveYears 37 = .ok (.getfield 73, 3) := by decide +kernel
theorem dX3_liveYears_40 : decode cX3_liveYears 40 = .ok (.ifCond .le 32, 3) := by decide +kernel
theorem dX3_liveYears_43 : decode cX3_liveYears 43 = .ok (.aload_n 0, 1) := by decide +kernel
theorem dX3_liveYears_44 : decode cX3_liveYears 44 = .ok (.aload_n 1, 1) := by decide +kernel
theorem dX3_liveYears_45 : decode cX3_liveYears 45 = .ok (.getfield 69, 3) := by decide +kernel
theorem dX3_liveYears_48 : decode cX3_liveYears 48 = .ok (.getfield 73, 3) := by decide +kernel
theorem dX3_liveYears_51 : decode cX3_liveYears 51 = .ok (.invokevirtual 128, 3) := by decide +kernel
theorem dX3_liveYears_54 : decode cX3_liveYears 54 = .ok (.istore 6, 2) := by decide +kernel
theorem dX3_liveYears_56 : decode cX3_liveYears 56 = .ok (.aload_n 0, 1) := by decide +kernel
theorem dX3_liveYears_57 : decode cX3_liveYears 57 = .ok (.getfield 36, 3) := by decide +kernel
theorem dX3_liveYears_60 : decode cX3_liveYears 60 = .ok (.getfield 95, 3) := by decide +kernel
theorem dX3_liveYears_63 : decode cX3_liveYears 63 = .ok (.iload 6, 2) := by decide +kernel
theorem dX3_liveYears_65 : decode cX3_liveYears 65 = .ok (.aload_n 0, 1) := by decide +kernel
theorem dX3_liveYears_66 : decode cX3_liveYears 66 = .ok (.bipush 100, 2) := by decide +kernel
theorem dX3_liveYears_68 : decode cX3_liveYears 68 = .ok (.invokevirtual 128, 3) := by decide +kernel
theorem dX3_liveYears_71 : decode cX3_liveYears 71 = .ok (.iastore, 1) := by decide +kernel
theorem dX3_liveYears_72 : decode cX3_liveYears 72 = .ok (.aload_n 0, 1) := by decide +kernel
theorem dX3_liveYears_73 : decode cX3_liveYears 73 = .ok (.getfield 40, 3) := by decide +kernel
theorem dX3_liveYears_76 : decode cX3_liveYears 76 = .ok (.aload_n 0, 1) := by decide +kernel
theorem dX3_liveYears_77 : decode cX3_liveYears 77 = .ok (.getfield 36, 3) := by decide +kernel
theorem dX3_liveYears_80 : decode cX3_liveYears 80 = .ok (.invokevirtual 48, 3) := by decide +kernel
theorem dX3_liveYears_83 : decode cX3_liveYears 83 = .ok (.iconst 0, 1) := by decide +kernel
theorem dX3_liveYears_84 : decode cX3_liveYears 84 = .ok (.istore 6, 2) := by decide +kernel
theorem dX3_liveYears_86 : decode cX3_liveYears 86 = .ok (.iload 6, 2) := by decide +kernel
theorem dX3_liveYears_88 : decode cX3_liveYears 88 = .ok (.aload_n 1, 1) := by decide +kernel
theorem dX3_liveYears_89 : decode cX3_liveYears 89 = .ok (.getfield 69, 3) := by decide +kernel
theorem dX3_liveYears_92 : decode cX3_liveYears 92 = .ok (.getfield 73, 3) := by decide +kernel
theorem dX3_liveYears_95 : decode cX3_liveYears 95 = .ok (.if_icmp .ge 26, 3) := by decide +kernel
theorem dX3_liveYears_98 : decode cX3_liveYears 98 = .ok (.iload 4, 2) := by decide +kernel
theorem dX3_liveYears_100 : decode cX3_liveYears 100 = .ok (.aload_n 0, 1) := by decide +kernel
theorem dX3_liveYears_101 : decode cX3_liveYears 101 = .ok (.getfield 36, 3) := by decide +kernel
theorem dX3_liveYears_104 : decode cX3_liveYears 104 = .ok (.getfield 53, 3) := by decide +kernel
theorem dX3_liveYears_107 : decode cX3_liveYears 107 = .ok (.iload 6, 2) := by decide +kernel
theorem dX3_liveYears_109 : decode cX3_liveYears 109 = .ok (.iaload, 1) := by decide +kernel
theorem dX3_liveYears_110 : decode cX3_liveYears 110 = .ok (.invokestatic 56, 3) := by decide +kernel
theorem dX3_liveYears_113 : decode cX3_liveYears 113 = .ok (.istore 4, 2) := by decide +kernel
theorem dX3_liveYears_115 : decode cX3_liveYears 115 = .ok (.iinc 6 1, 3) := by decide +kernel
theorem dX3_liveYears_118 : decode cX3_liveYears 118 = .ok (.goto (-32), 3) := by decide +kernel
theorem dX3_liveYears_121 : decode cX3_liveYears 121 = .ok (.iinc 5 1, 3) := by decide +kernel
theorem dX3_liveYears_124 : decode cX3_liveYears 124 = .ok (.goto (-105), 3) := by decide +kernel
theorem dX3_liveYears_127 : decode cX3_liveYears 127 = .ok (.iload 4, 2) := by decide +kernel
theorem dX3_liveYears_129 : decode cX3_liveYears 129 = .ok (.ireturn, 1) := by decide +kernel
theorem dX3_draw_0 : decode cX3_draw 0 = .ok (.aload_n 0, 1) := by decide +kernel
theorem dX3_draw_1 : decode cX3_draw 1 = .ok (.aload_n 0, 1) := by decide +kernel
theorem dX3_draw_2 : decode cX3_draw 2 = .ok (.getfield 28, 3) := by decide +kernel
theorem dX3_draw_5 : decode cX3_draw 5 = .ok (.ldc 131, 2) := by decide +kernel
theorem dX3_draw_7 : decode cX3_draw 7 = .ok (.imul, 1) := by decide +kernel
theorem dX3_draw_8 : decode cX3_draw 8 = .ok (.sipush 12345, 3) := by decide +kernel
theorem dX3_draw_11 : decode cX3_draw 11 = .ok (.iadd, 1) := by decide +kernel
theorem dX3_draw_12 : decode cX3_draw 12 = .ok (.putfield 28, 3) := by decide +kernel
theorem dX3_draw_15 : decode cX3_draw 15 = .ok (.iload_n 1, 1) := by decide +kernel
theorem dX3_draw_16 : decode cX3_draw 16 = .ok (.ifCond .le 19, 3) := by decide +kernel
theorem dX3_draw_19 : decode cX3_draw 19 = .ok (.aload_n 0, 1) := by decide +kernel
theorem dX3_draw_20 : decode cX3_draw 20 = .ok (.getfield 28, 3) := by decide +kernel
theorem dX3_draw_23 : decode cX3_draw 23 = .ok (.bipush 16, 2) := by decide +kernel
theorem dX3_draw_25 : decode cX3_draw 25 = .ok (.iushr, 1) := by decide +kernel
theorem dX3_draw_26 : decode cX3_draw 26 = .ok (.sipush 32767, 3) := by decide +kernel
theorem dX3_draw_29 : decode cX3_draw 29 = .ok (.iand, 1) := by decide +kernel
theorem dX3_draw_30 : decode cX3_draw 30 = .ok (.iload_n 1, 1) := by decide +kernel
theorem dX3_draw_31 : decode cX3_draw 31 = .ok (.irem, 1) := by decide +kernel
theorem dX3_draw_32 : decode cX3_draw 32 = .ok (.goto 4, 3) := by decide +kernel
theorem dX3_draw_35 : decode cX3_draw 35 = .ok (.iconst 0, 1) := by decide +kernel
theorem dX3_draw_36 : decode cX3_draw 36 = .ok (.ireturn, 1) := by decide +kernel
theorem dX4_init_0 : decode cX4_init 0 = .ok (.aload_n 0, 1) := by decide +kernel
theorem dX4_init_1 : decode cX4_init 1 = .ok (.invokespecial 3, 3) := by decide +kernel
theorem dX4_init_4 : decode cX4_init 4 = .ok (.aload_n 0, 1) := by decide +kernel
theorem dX4_init_5 : decode cX4_init 5 = .ok (.bipush 40, 2) := by decide +kernel
theorem dX4_init_7 : decode cX4_init 7 = .ok (.anewarray 9, 3) := by decide +kernel
theorem dX4_init_10 : decode cX4_init 10 = .ok (.putfield 11, 3) := by decide +kernel
theorem dX4_init_13 : decode cX4_init 13 = .ok (.aload_n 0, 1) := by decide +kernel
theorem dX4_init_14 : decode cX4_init 14 = .ok (.iconst 0, 1) := by decide +kernel
theorem dX4_init_15 : decode cX4_init 15 = .ok (.putfield 17, 3) := by decide +kernel
theorem dX4_init_18 : decode cX4_init 18 = .ok (.aload_n 0, 1) := by decide +kernel
theorem dX4_init_19 : decode cX4_init 19 = .ok (.iconst 0, 1) := by decide +kernel
theorem dX4_init_20 : decode cX4_init 20 = .ok (.putfield 21, 3) := by decide +kernel
theorem dX4_init_23 : decode cX4_init 23 = .ok (.aload_n 0, 1) := by decide +kernel
theorem dX4_init_24 : decode cX4_init 24 = .ok (.bipush 8, 2) := by decide +kernel
theorem dX4_init_26 : decode cX4_init 26 = .ok (.newarray .int, 2) := by decide +kernel
theorem dX4_init_28 : decode cX4_init 28 = .ok (.putfield 24, 3) := by decide +kernel
theorem dX4_init_31 : decode cX4_init 31 = .ok (.aload_n 0, 1) := by decide +kernel
theorem dX4_init_32 : decode cX4_init 32 = .ok (.bipush 8, 2) := by decide +kernel
theorem dX4_init_34 : decode cX4_init 34 = .ok (.newarray .int, 2) := by decide +kernel
theorem dX4_init_36 : decode cX4_init 36 = .ok (.putfield 28, 3) := by decide +kernel
theorem dX4_init_39 : decode cX4_init 39 = .ok (.aload_n 0, 1) := by decide +kernel
theorem dX4_init_40 : decode cX4_init 40 = .ok (.bipush 8, 2) := by decide +kernel
theorem dX4_init_42 : decode cX4_init 42 = .ok (.newarray .int, 2) := by decide +kernel
theorem dX4_init_44 : decode cX4_init 44 = .ok (.putfield 31, 3) := by decide +kernel
theorem dX4_init_47 : decode cX4_init 47 = .ok (.aload_n 0, 1) := by decide +kernel
theorem dX4_init_48 : decode cX4_init 48 = .ok (.iconst 0, 1) := by decide +kernel
theorem dX4_init_49 : decode cX4_init 49 = .ok (.putfield 34, 3) := by decide +kernel
theorem dX4_init_52 : decode cX4_init 52 = .ok (.aload_n 0, 1) := by decide +kernel
theorem dX4_init_53 : decode cX4_init 53 = .ok (.iconst 3, 1) := by decide +kernel
theorem dX4_init_54 : decode cX4_init 54 = .ok (.newarray .int, 2) := by decide +kernel
theorem dX4_init_56 : decode cX4_init 56 = .ok (.putfield 37, 3) := by decide +kernel
theorem dX4_init_59 : decode cX4_init 59 = .ok (.aload_n 0, 1) := by decide +kernel
theorem dX4_init_60 : decode cX4_init 60 = .ok (.new 9, 3) := by decide +kernel
theorem dX4_init_63 : decode cX4_init 63 = .ok (.dup, 1) := by decide +kernel
theorem dX4_init_64 : decode cX4_init 64 = .ok (.aload_n 1, 1) := by decide +kernel
theorem dX4_init_65 : decode cX4_init 65 = .ok (.invokespecial 40, 3) := by decide +kernel
theorem dX4_init_68 : decode cX4_init 68 = .ok (.putfield 43, 3) := by decide +kernel
theorem dX4_init_71 : decode cX4_init 71 = .ok (.return_, 1) := by decide +kernel
theorem dX4_begin_0 : decode cX4_begin 0 = .ok (.aload_n 0, 1) := by decide +kernel
theorem dX4_begin_1 : decode cX4_begin 1 = .ok (.getfield 43, 3) := by decide +kernel
theorem dX4_begin_4 : decode cX4_begin 4 = .ok (.aload_n 1, 1) := by decide +kernel
theorem dX4_begin_5 : decode cX4_begin 5 = .ok (.invokevirtual 47, 3) := by decide +kernel
theorem dX4_begin_8 : decode cX4_begin 8 = .ok (.aload_n 0, 1) := by decide +kernel
theorem dX4_begin_9 : decode cX4_begin 9 = .ok (.iconst 0, 1) := by decide +kernel
theorem dX4_begin_10 : decode cX4_begin 10 = .ok (.putfield 17, 3) := by decide +kernel
theorem dX4_begin_13 : decode cX4_begin 13 = .ok (.aload_n 0, 1) := by decide +kernel
theorem dX4_begin_14 : decode cX4_begin 14 = .ok (.iconst 0, 1) := by decide +kernel
theorem dX4_begin_15 : decode cX4_begin 15 = .ok (.putfield 21, 3) := by decide +kernel
theorem dX4_begin_18 : decode cX4_begin 18 = .ok (.aload_n 0, 1) := by decide +kernel
theorem dX4_begin_19 : decode cX4_begin 19 = .ok (.iconst 0, 1) := by decide +kernel
theorem dX4_begin_20 : decode cX4_begin 20 = .ok (.putfield 34, 3) := by decide +kernel
theorem dX4_begin_23 : decode cX4_begin 23 = .ok (.return_, 1) := by decide +kernel
theorem dX4_keepAct_0 : decode cX4_keepAct 0 = .ok (.aload_n 0, 1) := by decide +kernel
theorem dX4_keepAct_1 : decode cX4_keepAct 1 = .ok (.aload_n 0, 1) := by decide +kernel
theorem dX4_keepAct_2 : decode cX4_keepAct 2 = .ok (.getfield 17, 3) := by decide +kernel
theorem dX4_keepAct_5 : decode cX4_keepAct 5 = .ok (.invokevirtual 50, 3) := by decide +kernel
theorem dX4_keepAct_8 : decode cX4_keepAct 8 = .ok (.aload_n 0, 1) := by decide +kernel
theorem dX4_keepAct_9 : decode cX4_keepAct 9 = .ok (.getfield 43, 3) := by decide +kernel
theorem dX4_keepAct_12 : decode cX4_keepAct 12 = .ok (.invokevirtual 54, 3) := by decide +kernel
theorem dX4_keepAct_15 : decode cX4_keepAct 15 = .ok (.aload_n 0, 1) := by decide +kernel
theorem dX4_keepAct_16 : decode cX4_keepAct 16 = .ok (.aload_n 0, 1) := by decide +kernel
theorem dX4_keepAct_17 : decode cX4_keepAct 17 = .ok (.getfield 17, 3) := by decide +kernel
theorem dX4_keepAct_20 : decode cX4_keepAct 20 = .ok (.iconst 1, 1) := by decide +kernel
theorem dX4_keepAct_21 : decode cX4_keepAct 21 = .ok (.iadd, 1) := by decide +kernel
theorem dX4_keepAct_22 : decode cX4_keepAct 22 = .ok (.bipush 40, 2) := by decide +kernel
theorem dX4_keepAct_24 : decode cX4_keepAct 24 = .ok (.irem, 1) := by decide +kernel
theorem dX4_keepAct_25 : decode cX4_keepAct 25 = .ok (.putfield 17, 3) := by decide +kernel
theorem dX4_keepAct_28 : decode cX4_keepAct 28 = .ok (.aload_n 0, 1) := by decide +kernel
theorem dX4_keepAct_29 : decode cX4_keepAct 29 = .ok (.aload_n 0, 1) := by decide +kernel
theorem dX4_keepAct_30 : decode cX4_keepAct 30 = .ok (.getfield 21, 3) := by decide +kernel
theorem dX4_keepAct_33 : decode cX4_keepAct 33 = .ok (.iconst 1, 1) := by decide +kernel
theorem dX4_keepAct_34 : decode cX4_keepAct 34 = .ok (.iadd, 1) := by decide +kernel
theorem dX4_keepAct_35 : decode cX4_keepAct 35 = .ok (.bipush 40, 2) := by decide +kernel
theorem dX4_keepAct_37 : decode cX4_keepAct 37 = .ok (.invokestatic 58, 3) := by decide +kernel
theorem dX4_keepAct_40 : decode cX4_keepAct 40 = .ok (.putfield 21, 3) := by decide +kernel
theorem dX4_keepAct_43 : decode cX4_keepAct 43 = .ok (.return_, 1) := by decide +kernel
theorem dX4_undoAct_0 : decode cX4_undoAct 0 = .ok (.aload_n 0, 1) := by decide +kernel
theorem dX4_undoAct_1 : decode cX4_undoAct 1 = .ok (.getfield 21, 3) := by decide +kernel
theorem dX4_undoAct_4 : decode cX4_undoAct 4 = .ok (.ifCond .ne 5, 3) := by decide +kernel
theorem dX4_undoAct_7 : decode cX4_undoAct 7 = .ok (.iconst 0, 1) := by decide +kernel
theorem dX4_undoAct_8 : decode cX4_undoAct 8 = .ok (.ireturn, 1) := by decide +kernel
theorem dX4_undoAct_9 : decode cX4_undoAct 9 = .ok (.aload_n 0, 1) := by decide +kernel
theorem dX4_undoAct_10 : decode cX4_undoAct 10 = .ok (.aload_n 0, 1) := by decide +kernel
theorem dX4_undoAct_11 : decode cX4_undoAct 11 = .ok (.getfield 17, 3) := by decide +kernel
theorem dX4_undoAct_14 : decode cX4_undoAct 14 = .ok (.iconst 1, 1) := by decide +kernel
theorem dX4_undoAct_15 : decode cX4_undoAct 15 = .ok (.isub, 1) := by decide +kernel
theorem dX4_undoAct_16 : decode cX4_undoAct 16 = .ok (.bipush 40, 2) := by decide +kernel
theorem dX4_undoAct_18 : decode cX4_undoAct 18 = .ok (.invokestatic 64, 3) := by decide +kernel
theorem dX4_undoAct_21 : decode cX4_undoAct 21 = .ok (.putfield 17, 3) := by decide +kernel
theorem dX4_undoAct_24 : decode cX4_undoAct 24 = .ok (.aload_n 0, 1) := by decide +kernel
theorem dX4_undoAct_25 : decode cX4_undoAct 25 = .ok (.dup, 1) := by decide +kernel
theorem dX4_undoAct_26 : decode cX4_undoAct 26 = .ok (.getfield 21, 3) := by decide +kernel
theorem dX4_undoAct_29 : decode cX4_undoAct 29 = .ok (.iconst 1, 1) := by decide +kernel
theorem dX4_undoAct_30 : decode cX4_undoAct 30 = .ok (.isub, 1) := by decide +kernel
theorem dX4_undoAct_31 : decode cX4_undoAct 31 = .ok (.putfield 21, 3) := by decide +kernel
theorem dX4_undoAct_34 : decode cX4_undoAct 34 = .ok (.aload_n 0, 1) := by decide +kernel
theorem dX4_undoAct_35 : decode cX4_undoAct 35 = .ok (.getfield 43, 3) := by decide +kernel
theorem dX4_undoAct_38 : decode cX4_undoAct 38 = .ok (.aload_n 0, 1) := by decide +kernel
theorem dX4_undoAct_39 : decode cX4_undoAct 39 = .ok (.aload_n 0, 1) := by decide +kernel
theorem dX4_undoAct_40 : decode cX4_undoAct 40 = .ok (.getfield 17, 3) := by decide +kernel
theorem dX4_undoAct_43 : decode cX4_undoAct 43 = .ok (.invokevirtual 50, 3) := by decide +kernel
