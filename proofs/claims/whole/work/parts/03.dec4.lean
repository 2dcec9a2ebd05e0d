theorem dX12_heats_44 : decode cX12_heats 44 = .ok (.iconst 5, 1) := by decide +kernel
theorem dX12_heats_45 : decode cX12_heats 45 = .ok (.iload_n 1, 1) := by decide +kernel
theorem dX12_heats_46 : decode cX12_heats 46 = .ok (.iadd, 1) := by decide +kernel
theorem dX12_heats_47 : decode cX12_heats 47 = .ok (.iaload, 1) := by decide +kernel
theorem dX12_heats_48 : decode cX12_heats 48 = .ok (.iadd, 1) := by decide +kernel
theorem dX12_heats_49 : decode cX12_heats 49 = .ok (.aload_n 0, 1) := by decide +kernel
theorem dX12_heats_50 : decode cX12_heats 50 = .ok (.getfield 58, 3) := by decide +kernel
theorem dX12_heats_53 : decode cX12_heats 53 = .ok (.iconst 0, 1) := by decide +kernel
theorem dX12_heats_54 : decode cX12_heats 54 = .ok (.iload_n 1, 1) := by decide +kernel
theorem dX12_heats_55 : decode cX12_heats 55 = .ok (.iadd, 1) := by decide +kernel
theorem dX12_heats_56 : decode cX12_heats 56 = .ok (.iaload, 1) := by decide +kernel
theorem dX12_heats_57 : decode cX12_heats 57 = .ok (.sipush 200, 3) := by decide +kernel
theorem dX12_heats_60 : decode cX12_heats 60 = .ok (.isub, 1) := by decide +kernel
theorem dX12_heats_61 : decode cX12_heats 61 = .ok (.aload_n 0, 1) := by decide +kernel
theorem dX12_heats_62 : decode cX12_heats 62 = .ok (.getfield 62, 3) := by decide +kernel
theorem dX12_heats_65 : decode cX12_heats 65 = .ok (.iconst 0, 1) := by decide +kernel
theorem dX12_heats_66 : decode cX12_heats 66 = .ok (.iload_n 1, 1) := by decide +kernel
theorem dX12_heats_67 : decode cX12_heats 67 = .ok (.iadd, 1) := by decide +kernel
theorem dX12_heats_68 : decode cX12_heats 68 = .ok (.iaload, 1) := by decide +kernel
theorem dX12_heats_69 : decode cX12_heats 69 = .ok (.invokestatic 269, 3) := by decide +kernel
theorem dX12_heats_72 : decode cX12_heats 72 = .ok (.isub, 1) := by decide +kernel
theorem dX12_heats_73 : decode cX12_heats 73 = .ok (.aload_n 0, 1) := by decide +kernel
theorem dX12_heats_74 : decode cX12_heats 74 = .ok (.iload_n 1, 1) := by decide +kernel
theorem dX12_heats_75 : decode cX12_heats 75 = .ok (.invokevirtual 272, 3) := by decide +kernel
theorem dX12_heats_78 : decode cX12_heats 78 = .ok (.isub, 1) := by decide +kernel
theorem dX12_heats_79 : decode cX12_heats 79 = .ok (.iastore, 1) := by decide +kernel
theorem dX12_heats_80 : decode cX12_heats 80 = .ok (.iinc 1 1, 3) := by decide +kernel
theorem dX12_heats_83 : decode cX12_heats 83 = .ok (.goto (-81), 3) := by decide +kernel
theorem dX12_heats_86 : decode cX12_heats 86 = .ok (.iconst 0, 1) := by decide +kernel
theorem dX12_heats_87 : decode cX12_heats 87 = .ok (.istore_n 1, 1) := by decide +kernel
theorem dX12_heats_88 : decode cX12_heats 88 = .ok (.iload_n 1, 1) := by decide +kernel
theorem dX12_heats_89 : decode cX12_heats 89 = .ok (.aload_n 0, 1) := by decide +kernel
theorem dX12_heats_90 : decode cX12_heats 90 = .ok (.getfield 62, 3) := by decide +kernel
theorem dX12_heats_93 : decode cX12_heats 93 = .ok (.sipush 167, 3) := by decide +kernel
theorem dX12_heats_96 : decode cX12_heats 96 = .ok (.iaload, 1) := by decide +kernel
theorem dX12_heats_97 : decode cX12_heats 97 = .ok (.if_icmp .ge 85, 3) := by decide +kernel
theorem dX12_heats_100 : decode cX12_heats 100 = .ok (.aload_n 0, 1) := by decide +kernel
theorem dX12_heats_101 : decode cX12_heats 101 = .ok (.getfield 62, 3) := by decide +kernel
theorem dX12_heats_104 : decode cX12_heats 104 = .ok (.sipush 139, 3) := by decide +kernel
theorem dX12_heats_107 : decode cX12_heats 107 = .ok (.iload_n 1, 1) := by decide +kernel
theorem dX12_heats_108 : decode cX12_heats 108 = .ok (.iadd, 1) := by decide +kernel
theorem dX12_heats_109 : decode cX12_heats 109 = .ok (.iaload, 1) := by decide +kernel
theorem dX12_heats_110 : decode cX12_heats 110 = .ok (.istore_n 2, 1) := by decide +kernel
theorem dX12_heats_111 : decode cX12_heats 111 = .ok (.aload_n 0, 1) := by decide +kernel
theorem dX12_heats_112 : decode cX12_heats 112 = .ok (.getfield 62, 3) := by decide +kernel
theorem dX12_heats_115 : decode cX12_heats 115 = .ok (.sipush 147, 3) := by decide +kernel
theorem dX12_heats_118 : decode cX12_heats 118 = .ok (.iload_n 1, 1) := by decide +kernel
theorem dX12_heats_119 : decode cX12_heats 119 = .ok (.iadd, 1) := by decide +kernel
theorem dX12_heats_120 : decode cX12_heats 120 = .ok (.iaload, 1) := by decide +kernel
theorem dX12_heats_121 : decode cX12_heats 121 = .ok (.istore_n 3, 1) := by decide +kernel
theorem dX12_heats_122 : decode cX12_heats 122 = .ok (.aload_n 0, 1) := by decide +kernel
theorem dX12_heats_123 : decode cX12_heats 123 = .ok (.getfield 58, 3) := by decide +kernel
theorem dX12_heats_126 : decode cX12_heats 126 = .ok (.iconst 0, 1) := by decide +kernel
theorem dX12_heats_127 : decode cX12_heats 127 = .ok (.iload_n 2, 1) := by decide +kernel
theorem dX12_heats_128 : decode cX12_heats 128 = .ok (.iadd, 1) := by decide +kernel
theorem dX12_heats_129 : decode cX12_heats 129 = .ok (.iaload, 1) := by decide +kernel
theorem dX12_heats_130 : decode cX12_heats 130 = .ok (.aload_n 0, 1) := by decide +kernel
theorem dX12_heats_131 : decode cX12_heats 131 = .ok (.getfield 58, 3) := by decide +kernel
theorem dX12_heats_134 : decode cX12_heats 134 = .ok (.iconst 0, 1) := by decide +kernel
theorem dX12_heats_135 : decode cX12_heats 135 = .ok (.iload_n 3, 1) := by decide +kernel
theorem dX12_heats_136 : decode cX12_heats 136 = .ok (.iadd, 1) := by decide +kernel
theorem dX12_heats_137 : decode cX12_heats 137 = .ok (.iaload, 1) := by decide +kernel
theorem dX12_heats_138 : decode cX12_heats 138 = .ok (.isub, 1) := by decide +kernel
theorem dX12_heats_139 : decode cX12_heats 139 = .ok (.aload_n 0, 1) := by decide +kernel
theorem dX12_heats_140 : decode cX12_heats 140 = .ok (.getfield 62, 3) := by decide +kernel
theorem dX12_heats_143 : decode cX12_heats 143 = .ok (.sipush 155, 3) := by decide +kernel
theorem dX12_heats_146 : decode cX12_heats 146 = .ok (.iload_n 1, 1) := by decide +kernel
theorem dX12_heats_147 : decode cX12_heats 147 = .ok (.iadd, 1) := by decide +kernel
theorem dX12_heats_148 : decode cX12_heats 148 = .ok (.iaload, 1) := by decide +kernel
theorem dX12_heats_149 : decode cX12_heats 149 = .ok (.invokestatic 269, 3) := by decide +kernel
theorem dX12_heats_152 : decode cX12_heats 152 = .ok (.istore 4, 2) := by decide +kernel
theorem dX12_heats_154 : decode cX12_heats 154 = .ok (.aload_n 0, 1) := by decide +kernel
theorem dX12_heats_155 : decode cX12_heats 155 = .ok (.getfield 81, 3) := by decide +kernel
theorem dX12_heats_158 : decode cX12_heats 158 = .ok (.iload_n 2, 1) := by decide +kernel
theorem dX12_heats_159 : decode cX12_heats 159 = .ok (.dup2, 1) := by decide +kernel
theorem dX12_heats_160 : decode cX12_heats 160 = .ok (.iaload, 1) := by decide +kernel
theorem dX12_heats_161 : decode cX12_heats 161 = .ok (.iload 4, 2) := by decide +kernel
theorem dX12_heats_163 : decode cX12_heats 163 = .ok (.isub, 1) := by decide +kernel
theorem dX12_heats_164 : decode cX12_heats 164 = .ok (.iastore, 1) := by decide +kernel
theorem dX12_heats_165 : decode cX12_heats 165 = .ok (.aload_n 0, 1) := by decide +kernel
theorem dX12_heats_166 : decode cX12_heats 166 = .ok (.getfield 81, 3) := by decide +kernel
theorem dX12_heats_169 : decode cX12_heats 169 = .ok (.iload_n 3, 1) := by decide +kernel
theorem dX12_heats_170 : decode cX12_heats 170 = .ok (.dup2, 1) := by decide +kernel
theorem dX12_heats_171 : decode cX12_heats 171 = .ok (.iaload, 1) := by decide +kernel
theorem dX12_heats_172 : decode cX12_heats 172 = .ok (.iload 4, 2) := by decide +kernel
theorem dX12_heats_174 : decode cX12_heats 174 = .ok (.iadd, 1) := by decide +kernel
theorem dX12_heats_175 : decode cX12_heats 175 = .ok (.iastore, 1) := by decide +kernel
theorem dX12_heats_176 : decode cX12_heats 176 = .ok (.iinc 1 1, 3) := by decide +kernel
theorem dX12_heats_179 : decode cX12_heats 179 = .ok (.goto (-91), 3) := by decide +kernel
theorem dX12_heats_182 : decode cX12_heats 182 = .ok (.iconst 0, 1) := by decide +kernel
theorem dX12_heats_183 : decode cX12_heats 183 = .ok (.istore_n 1, 1) := by decide +kernel
theorem dX12_heats_184 : decode cX12_heats 184 = .ok (.iload_n 1, 1) := by decide +kernel
theorem dX12_heats_185 : decode cX12_heats 185 = .ok (.aload_n 0, 1) := by decide +kernel
theorem dX12_heats_186 : decode cX12_heats 186 = .ok (.invokevirtual 266, 3) := by decide +kernel
theorem dX12_heats_189 : decode cX12_heats 189 = .ok (.if_icmp .ge 30, 3) := by decide +kernel
theorem dX12_heats_192 : decode cX12_heats 192 = .ok (.aload_n 0, 1) := by decide +kernel
theorem dX12_heats_193 : decode cX12_heats 193 = .ok (.getfield 58, 3) := by decide +kernel
theorem dX12_heats_196 : decode cX12_heats 196 = .ok (.iconst 0, 1) := by decide +kernel
theorem dX12_heats_197 : decode cX12_heats 197 = .ok (.iload_n 1, 1) := by decide +kernel
theorem dX12_heats_198 : decode cX12_heats 198 = .ok (.iadd, 1) := by decide +kernel
theorem dX12_heats_199 : decode cX12_heats 199 = .ok (.aload_n 0, 1) := by decide +kernel
theorem dX12_heats_200 : decode cX12_heats 200 = .ok (.getfield 81, 3) := by decide +kernel
theorem dX12_heats_203 : decode cX12_heats 203 = .ok (.iload_n 1, 1) := by decide +kernel
theorem dX12_heats_204 : decode cX12_heats 204 = .ok (.iaload, 1) := by decide +kernel
theorem dX12_heats_205 : decode cX12_heats 205 = .ok (.iconst 0, 1) := by decide +kernel
theorem dX12_heats_206 : decode cX12_heats 206 = .ok (.sipush 1500, 3) := by decide +kernel
theorem dX12_heats_209 : decode cX12_heats 209 = .ok (.invokestatic 275, 3) := by decide +kernel
theorem dX12_heats_212 : decode cX12_heats 212 = .ok (.iastore, 1) := by decide +kernel
theorem dX12_heats_213 : decode cX12_heats 213 = .ok (.iinc 1 1, 3) := by decide +kernel
theorem dX12_heats_216 : decode cX12_heats 216 = .ok (.goto (-32), 3) := by decide +kernel
theorem dX12_heats_219 : decode cX12_heats 219 = .ok (.return_, 1) := by decide +kernel
theorem dX12_read_0 : decode cX12_read 0 = .ok (.aload_n 0, 1) := by decide +kernel
theorem dX12_read_1 : decode cX12_read 1 = .ok (.getfield 58, 3) := by decide +kernel
theorem dX12_read_4 : decode cX12_read 4 = .ok (.bipush 30, 2) := by decide +kernel
theorem dX12_read_6 : decode cX12_read 6 = .ok (.iconst 4, 1) := by decide +kernel
theorem dX12_read_7 : decode cX12_read 7 = .ok (.iload_n 1, 1) := by decide +kernel
theorem dX12_read_8 : decode cX12_read 8 = .ok (.imul, 1) := by decide +kernel
theorem dX12_read_9 : decode cX12_read 9 = .ok (.iadd, 1) := by decide +kernel
theorem dX12_read_10 : decode cX12_read 10 = .ok (.iload_n 2, 1) := by decide +kernel
theorem dX12_read_11 : decode cX12_read 11 = .ok (.iadd, 1) := by decide +kernel
theorem dX12_read_12 : decode cX12_read 12 = .ok (.iaload, 1) := by decide +kernel
theorem dX12_read_13 : decode cX12_read 13 = .ok (.ireturn, 1) := by decide +kernel
theorem dX12_median_0 : decode cX12_median 0 = .ok (.iconst 0, 1) := by decide +kernel
theorem dX12_median_1 : decode cX12_median 1 = .ok (.istore_n 3, 1) := by decide +kernel
theorem dX12_median_2 : decode cX12_median 2 = .ok (.iload_n 3, 1) := by decide +kernel
theorem dX12_median_3 : decode cX12_median 3 = .ok (.iload_n 2, 1) := by decide +kernel
theorem dX12_median_4 : decode cX12_median 4 = .ok (.if_icmp .ge 92, 3) := by decide +kernel
theorem dX12_median_7 : decode cX12_median 7 = .ok (.iconst 0, 1) := by decide +kernel
theorem dX12_median_8 : decode cX12_median 8 = .ok (.istore 4, 2) := by decide +kernel
theorem dX12_median_10 : decode cX12_median 10 = .ok (.iconst 0, 1) := by decide +kernel
theorem dX12_median_11 : decode cX12_median 11 = .ok (.istore 5, 2) := by decide +kernel
theorem dX12_median_13 : decode cX12_median 13 = .ok (.iload 5, 2) := by decide +kernel
theorem dX12_median_15 : decode cX12_median 15 = .ok (.iload_n 2, 1) := by decide +kernel
theorem dX12_median_16 : decode cX12_median 16 = .ok (.if_icmp .ge 57, 3) := by decide +kernel
theorem dX12_median_19 : decode cX12_median 19 = .ok (.iload 4, 2) := by decide +kernel
theorem dX12_median_21 : decode cX12_median 21 = .ok (.aload_n 0, 1) := by decide +kernel
theorem dX12_median_22 : decode cX12_median 22 = .ok (.iload_n 1, 1) := by decide +kernel
theorem dX12_median_23 : decode cX12_median 23 = .ok (.iload 5, 2) := by decide +kernel
theorem dX12_median_25 : decode cX12_median 25 = .ok (.invokevirtual 279, 3) := by decide +kernel
theorem dX12_median_28 : decode cX12_median 28 = .ok (.aload_n 0, 1) := by decide +kernel
theorem dX12_median_29 : decode cX12_median 29 = .ok (.iload_n 1, 1) := by decide +kernel
theorem dX12_median_30 : decode cX12_median 30 = .ok (.iload_n 3, 1) := by decide +kernel
theorem dX12_median_31 : decode cX12_median 31 = .ok (.invokevirtual 279, 3) := by decide +kernel
theorem dX12_median_34 : decode cX12_median 34 = .ok (.if_icmp .lt 25, 3) := by decide +kernel
theorem dX12_median_37 : decode cX12_median 37 = .ok (.aload_n 0, 1) := by decide +kernel
theorem dX12_median_38 : decode cX12_median 38 = .ok (.iload_n 1, 1) := by decide +kernel
theorem dX12_median_39 : decode cX12_median 39 = .ok (.iload 5, 2) := by decide +kernel
theorem dX12_median_41 : decode cX12_median 41 = .ok (.invokevirtual 279, 3) := by decide +kernel
theorem dX12_median_44 : decode cX12_median 44 = .ok (.aload_n 0, 1) := by decide +kernel
theorem dX12_median_45 : decode cX12_median 45 = .ok (.iload_n 1, 1) := by decide +kernel
theorem dX12_median_46 : decode cX12_median 46 = .ok (.iload_n 3, 1) := by decide +kernel
theorem dX12_median_47 : decode cX12_median 47 = .ok (.invokevirtual 279, 3) := by decide +kernel
theorem dX12_median_50 : decode cX12_median 50 = .ok (.if_icmp .ne 13, 3) := by decide +kernel
theorem dX12_median_53 : decode cX12_median 53 = .ok (.iload 5, 2) := by decide +kernel
theorem dX12_median_55 : decode cX12_median 55 = .ok (.iload_n 3, 1) := by decide +kernel
theorem dX12_median_56 : decode cX12_median 56 = .ok (.if_icmp .ge 7, 3) := by decide +kernel
theorem dX12_median_59 : decode cX12_median 59 = .ok (.iconst 1, 1) := by decide +kernel
theorem dX12_median_60 : decode cX12_median 60 = .ok (.goto 4, 3) := by decide +kernel
theorem dX12_median_63 : decode cX12_median 63 = .ok (.iconst 0, 1) := by decide +kernel
theorem dX12_median_64 : decode cX12_median 64 = .ok (.iadd, 1) := by decide +kernel
theorem dX12_median_65 : decode cX12_median 65 = .ok (.istore 4, 2) := by decide +kernel
theorem dX12_median_67 : decode cX12_median 67 = .ok (.iinc 5 1, 3) := by decide +kernel
theorem dX12_median_70 : decode cX12_median 70 = .ok (.goto (-57), 3) := by decide +kernel
theorem dX12_median_73 : decode cX12_median 73 = .ok (.iload 4, 2) := by decide +kernel
theorem dX12_median_75 : decode cX12_median 75 = .ok (.iload_n 2, 1) := by decide +kernel
theorem dX12_median_76 : decode cX12_median 76 = .ok (.iconst 1, 1) := by decide +kernel
theorem dX12_median_77 : decode cX12_median 77 = .ok (.isub, 1) := by decide +kernel
theorem dX12_median_78 : decode cX12_median 78 = .ok (.iconst 2, 1) := by decide +kernel
theorem dX12_median_79 : decode cX12_median 79 = .ok (.idiv, 1) := by decide +kernel
theorem dX12_median_80 : decode cX12_median 80 = .ok (.if_icmp .ne 10, 3) := by decide +kernel
theorem dX12_median_83 : decode cX12_median 83 = .ok (.aload_n 0, 1) := by decide +kernel
theorem dX12_median_84 : decode cX12_median 84 = .ok (.iload_n 1, 1) := by decide +kernel
theorem dX12_median_85 : decode cX12_median 85 = .ok (.iload_n 3, 1) := by decide +kernel
theorem dX12_median_86 : decode cX12_median 86 = .ok (.invokevirtual 279, 3) := by decide +kernel
theorem dX12_median_89 : decode cX12_median 89 = .ok (.ireturn, 1) := by decide +kernel
theorem dX12_median_90 : decode cX12_median 90 = .ok (.iinc 3 1, 3) := by decide +kernel
theorem dX12_median_93 : decode cX12_median 93 = .ok (.goto (-91), 3) := by decide +kernel
theorem dX12_median_96 : decode cX12_median 96 = .ok (.iconst 0, 1) := by decide +kernel
theorem dX12_median_97 : decode cX12_median 97 = .ok (.ireturn, 1) := by decide +kernel
theorem dX12_tempOf_0 : decode cX12_tempOf 0 = .ok (.aload_n 0, 1) := by decide +kernel
theorem dX12_tempOf_1 : decode cX12_tempOf 1 = .ok (.getfield 62, 3) := by decide +kernel
theorem dX12_tempOf_4 : decode cX12_tempOf 4 = .ok (.bipush 10, 2) := by decide +kernel
theorem dX12_tempOf_6 : decode cX12_tempOf 6 = .ok (.iload_n 1, 1) := by decide +kernel
theorem dX12_tempOf_7 : decode cX12_tempOf 7 = .ok (.iadd, 1) := by decide +kernel
theorem dX12_tempOf_8 : decode cX12_tempOf 8 = .ok (.iaload, 1) := by decide +kernel
theorem dX12_tempOf_9 : decode cX12_tempOf 9 = .ok (.istore_n 2, 1) := by decide +kernel
theorem dX12_tempOf_10 : decode cX12_tempOf 10 = .ok (.aload_n 0, 1) := by decide +kernel
theorem dX12_tempOf_11 : decode cX12_tempOf 11 = .ok (.getfield 62, 3) := by decide +kernel
theorem dX12_tempOf_14 : decode cX12_tempOf 14 = .ok (.iconst 5, 1) := by decide +kernel
theorem dX12_tempOf_15 : decode cX12_tempOf 15 = .ok (.iload_n 1, 1) := by decide +kernel
theorem dX12_tempOf_16 : decode cX12_tempOf 16 = .ok (.iadd, 1) := by decide +kernel
theorem dX12_tempOf_17 : decode cX12_tempOf 17 = .ok (.iaload, 1) := by decide +kernel
theorem dX12_tempOf_18 : decode cX12_tempOf 18 = .ok (.tableswitch 73 0 2 #[26, 33, 66], 26) := by decide +kernel
theorem dX12_tempOf_44 : decode cX12_tempOf 44 = .ok (.aload_n 0, 1) := by decide +kernel
theorem dX12_tempOf_45 : decode cX12_tempOf 45 = .ok (.iload_n 1, 1) := by decide +kernel
theorem dX12_tempOf_46 : decode cX12_tempOf 46 = .ok (.iconst 0, 1) := by decide +kernel
theorem dX12_tempOf_47 : decode cX12_tempOf 47 = .ok (.invokevirtual 279, 3) := by decide +kernel
theorem dX12_tempOf_50 : decode cX12_tempOf 50 = .ok (.ireturn, 1) := by decide +kernel
theorem dX12_tempOf_51 : decode cX12_tempOf 51 = .ok (.iconst 0, 1) := by decide +kernel
theorem dX12_tempOf_52 : decode cX12_tempOf 52 = .ok (.istore_n 3, 1) := by decide +kernel
theorem dX12_tempOf_53 : decode cX12_tempOf 53 = .ok (.iconst 0, 1) := by decide +kernel
theorem dX12_tempOf_54 : decode cX12_tempOf 54 = .ok (.istore 4, 2) := by decide +kernel
theorem dX12_tempOf_56 : decode cX12_tempOf 56 = .ok (.iload 4, 2) := by decide +kernel
theorem dX12_tempOf_58 : decode cX12_tempOf 58 = .ok (.iload_n 2, 1) := by decide +kernel
theorem dX12_tempOf_59 : decode cX12_tempOf 59 = .ok (.if_icmp .ge 19, 3) := by decide +kernel
theorem dX12_tempOf_62 : decode cX12_tempOf 62 = .ok (.iload_n 3, 1) := by decide +kernel
theorem dX12_tempOf_63 : decode cX12_tempOf 63 = .ok (.aload_n 0, 1) := by decide +kernel
theorem dX12_tempOf_64 : decode cX12_tempOf 64 = .ok (.iload_n 1, 1) := by decide +kernel
theorem dX12_tempOf_65 : decode cX12_tempOf 65 = .ok (.iload 4, 2) := by decide +kernel
theorem dX12_tempOf_67 : decode cX12_tempOf 67 = .ok (.invokevirtual 279, 3) := by decide +kernel
theorem dX12_tempOf_70 : decode cX12_tempOf 70 = .ok (.iadd, 1) := by decide +kernel
theorem dX12_tempOf_71 : decode cX12_tempOf 71 = .ok (.istore_n 3, 1) := by decide +kernel
theorem dX12_tempOf_72 : decode cX12_tempOf 72 = .ok (.iinc 4 1, 3) := by decide +kernel
theorem dX12_tempOf_75 : decode cX12_tempOf 75 = .ok (.goto (-19), 3) := by decide +kernel
theorem dX12_tempOf_78 : decode cX12_tempOf 78 = .ok (.iload_n 3, 1) := by decide +kernel
theorem dX12_tempOf_79 : decode cX12_tempOf 79 = .ok (.iload_n 2, 1) := by decide +kernel
theorem dX12_tempOf_80 : decode cX12_tempOf 80 = .ok (.invokestatic 269, 3) := by decide +kernel
theorem dX12_tempOf_83 : decode cX12_tempOf 83 = .ok (.ireturn, 1) := by decide +kernel
theorem dX12_tempOf_84 : decode cX12_tempOf 84 = .ok (.aload_n 0, 1) := by decide +kernel
theorem dX12_tempOf_85 : decode cX12_tempOf 85 = .ok (.iload_n 1, 1) := by decide +kernel
theorem dX12_tempOf_86 : decode cX12_tempOf 86 = .ok (.iload_n 2, 1) := by decide +kernel
theorem dX12_tempOf_87 : decode cX12_tempOf 87 = .ok (.invokevirtual 282, 3) := by decide +kernel
theorem dX12_tempOf_90 : decode cX12_tempOf 90 = .ok (.ireturn, 1) := by decide +kernel
theorem dX12_tempOf_91 : decode cX12_tempOf 91 = .ok (.aload_n 0, 1) := by decide +kernel
theorem dX12_tempOf_92 : decode cX12_tempOf 92 = .ok (.getfield 58, 3) := by decide +kernel
theorem dX12_tempOf_95 : decode cX12_tempOf 95 = .ok (.bipush 20, 2) := by decide +kernel
theorem dX12_tempOf_97 : decode cX12_tempOf 97 = .ok (.iload_n 1, 1) := by decide +kernel
theorem dX12_tempOf_98 : decode cX12_tempOf 98 = .ok (.iadd, 1) := by decide +kernel
theorem dX12_tempOf_99 : decode cX12_tempOf 99 = .ok (.iaload, 1) := by decide +kernel
theorem dX12_tempOf_100 : decode cX12_tempOf 100 = .ok (.aload_n 0, 1) := by decide +kernel
theorem dX12_tempOf_101 : decode cX12_tempOf 101 = .ok (.iload_n 1, 1) := by decide +kernel
theorem dX12_tempOf_102 : decode cX12_tempOf 102 = .ok (.iconst 0, 1) := by decide +kernel
theorem dX12_tempOf_103 : decode cX12_tempOf 103 = .ok (.invokevirtual 279, 3) := by decide +kernel
theorem dX12_tempOf_106 : decode cX12_tempOf 106 = .ok (.aload_n 0, 1) := by decide +kernel
theorem dX12_tempOf_107 : decode cX12_tempOf 107 = .ok (.getfield 58, 3) := by decide +kernel
theorem dX12_tempOf_110 : decode cX12_tempOf 110 = .ok (.bipush 20, 2) := by decide +kernel
theorem dX12_tempOf_112 : decode cX12_tempOf 112 = .ok (.iload_n 1, 1) := by decide +kernel
theorem dX12_tempOf_113 : decode cX12_tempOf 113 = .ok (.iadd, 1) := by decide +kernel
theorem dX12_tempOf_114 : decode cX12_tempOf 114 = .ok (.iaload, 1) := by decide +kernel
theorem dX12_tempOf_115 : decode cX12_tempOf 115 = .ok (.isub, 1) := by decide +kernel
theorem dX12_tempOf_116 : decode cX12_tempOf 116 = .ok (.iload_n 2, 1) := by decide +kernel
theorem dX12_tempOf_117 : decode cX12_tempOf 117 = .ok (.invokestatic 269, 3) := by decide +kernel
theorem dX12_tempOf_120 : decode cX12_tempOf 120 = .ok (.iadd, 1) := by decide +kernel
theorem dX12_tempOf_121 : decode cX12_tempOf 121 = .ok (.ireturn, 1) := by decide +kernel
theorem dX12_readings_0 : decode cX12_readings 0 = .ok (.iconst 0, 1) := by decide +kernel
theorem dX12_readings_1 : decode cX12_readings 1 = .ok (.istore_n 1, 1) := by decide +kernel
theorem dX12_readings_2 : decode cX12_readings 2 = .ok (.iload_n 1, 1) := by decide +kernel
theorem dX12_readings_3 : decode cX12_readings 3 = .ok (.aload_n 0, 1) := by decide +kernel
theorem dX12_readings_4 : decode cX12_readings 4 = .ok (.invokevirtual 266, 3) := by decide +kernel
theorem dX12_readings_7 : decode cX12_readings 7 = .ok (.if_icmp .ge 97, 3) := by decide +kernel
theorem dX12_readings_10 : decode cX12_readings 10 = .ok (.iconst 3, 1) := by decide +kernel
theorem dX12_readings_11 : decode cX12_readings 11 = .ok (.istore_n 2, 1) := by decide +kernel
theorem dX12_readings_12 : decode cX12_readings 12 = .ok (.iload_n 2, 1) := by decide +kernel
theorem dX12_readings_13 : decode cX12_readings 13 = .ok (.ifCond .le 30, 3) := by decide +kernel
theorem dX12_readings_16 : decode cX12_readings 16 = .ok (.aload_n 0, 1) := by decide +kernel
theorem dX12_readings_17 : decode cX12_readings 17 = .ok (.getfield 58, 3) := by decide +kernel
theorem dX12_readings_20 : decode cX12_readings 20 = .ok (.bipush 30, 2) := by decide +kernel
theorem dX12_readings_22 : decode cX12_readings 22 = .ok (.iconst 4, 1) := by decide +kernel
theorem dX12_readings_23 : decode cX12_readings 23 = .ok (.iload_n 1, 1) := by decide +kernel
theorem dX12_readings_24 : decode cX12_readings 24 = .ok (.imul, 1) := by decide +kernel
theorem dX12_readings_25 : decode cX12_readings 25 = .ok (.iadd, 1) := by decide +kernel
theorem dX12_readings_26 : decode cX12_readings 26 = .ok (.iload_n 2, 1) := by decide +kernel
theorem dX12_readings_27 : decode cX12_readings 27 = .ok (.iadd, 1) := by decide +kernel
theorem dX12_readings_28 : decode cX12_readings 28 = .ok (.aload_n 0, 1) := by decide +kernel
theorem dX12_readings_29 : decode cX12_readings 29 = .ok (.iload_n 1, 1) := by decide +kernel
theorem dX12_readings_30 : decode cX12_readings 30 = .ok (.iload_n 2, 1) := by decide +kernel
theorem dX12_readings_31 : decode cX12_readings 31 = .ok (.iconst 1, 1) := by decide +kernel
theorem dX12_readings_32 : decode cX12_readings 32 = .ok (.isub, 1) := by decide +kernel
theorem dX12_readings_33 : decode cX12_readings 33 = .ok (.invokevirtual 279, 3) := by decide +kernel
theorem dX12_readings_36 : decode cX12_readings 36 = .ok (.iastore, 1) := by decide +kernel
theorem dX12_readings_37 : decode cX12_readings 37 = .ok (.iinc 2 (-1), 3) := by decide +kernel
theorem dX12_readings_40 : decode cX12_readings 40 = .ok (.goto (-28), 3) := by decide +kernel
theorem dX12_readings_43 : decode cX12_readings 43 = .ok (.aload_n 0, 1) := by decide +kernel
theorem dX12_readings_44 : decode cX12_readings 44 = .ok (.getfield 58, 3) := by decide +kernel
theorem dX12_readings_47 : decode cX12_readings 47 = .ok (.bipush 30, 2) := by decide +kernel
theorem dX12_readings_49 : decode cX12_readings 49 = .ok (.iconst 4, 1) := by decide +kernel
theorem dX12_readings_50 : decode cX12_readings 50 = .ok (.iload_n 1, 1) := by decide +kernel
theorem dX12_readings_51 : decode cX12_readings 51 = .ok (.imul, 1) := by decide +kernel
theorem dX12_readings_52 : decode cX12_readings 52 = .ok (.iadd, 1) := by decide +kernel
theorem dX12_readings_53 : decode cX12_readings 53 = .ok (.aload_n 0, 1) := by decide +kernel
theorem dX12_readings_54 : decode cX12_readings 54 = .ok (.getfield 58, 3) := by decide +kernel
theorem dX12_readings_57 : decode cX12_readings 57 = .ok (.iconst 0, 1) := by decide +kernel
theorem dX12_readings_58 : decode cX12_readings 58 = .ok (.iload_n 1, 1) := by decide +kernel
theorem dX12_readings_59 : decode cX12_readings 59 = .ok (.iadd, 1) := by decide +kernel
theorem dX12_readings_60 : decode cX12_readings 60 = .ok (.iaload, 1) := by decide +kernel
theorem dX12_readings_61 : decode cX12_readings 61 = .ok (.iastore, 1) := by decide +kernel
theorem dX12_readings_62 : decode cX12_readings 62 = .ok (.aload_n 0, 1) := by decide +kernel
theorem dX12_readings_63 : decode cX12_readings 63 = .ok (.iload_n 1, 1) := by decide +kernel
theorem dX12_readings_64 : decode cX12_readings 64 = .ok (.invokevirtual 284, 3) := by decide +kernel
theorem dX12_readings_67 : decode cX12_readings 67 = .ok (.istore_n 2, 1) := by decide +kernel
theorem dX12_readings_68 : decode cX12_readings 68 = .ok (.aload_n 0, 1) := by decide +kernel
theorem dX12_readings_69 : decode cX12_readings 69 = .ok (.getfield 58, 3) := by decide +kernel
theorem dX12_readings_72 : decode cX12_readings 72 = .ok (.bipush 25, 2) := by decide +kernel
theorem dX12_readings_74 : decode cX12_readings 74 = .ok (.iload_n 1, 1) := by decide +kernel
theorem dX12_readings_75 : decode cX12_readings 75 = .ok (.iadd, 1) := by decide +kernel
theorem dX12_readings_76 : decode cX12_readings 76 = .ok (.iload_n 2, 1) := by decide +kernel
theorem dX12_readings_77 : decode cX12_readings 77 = .ok (.aload_n 0, 1) := by decide +kernel
theorem dX12_readings_78 : decode cX12_readings 78 = .ok (.getfield 58, 3) := by decide +kernel
theorem dX12_readings_81 : decode cX12_readings 81 = .ok (.bipush 20, 2) := by decide +kernel
theorem dX12_readings_83 : decode cX12_readings 83 = .ok (.iload_n 1, 1) := by decide +kernel
theorem dX12_readings_84 : decode cX12_readings 84 = .ok (.iadd, 1) := by decide +kernel
theorem dX12_readings_85 : decode cX12_readings 85 = .ok (.iaload, 1) := by decide +kernel
theorem dX12_readings_86 : decode cX12_readings 86 = .ok (.isub, 1) := by decide +kernel
theorem dX12_readings_87 : decode cX12_readings 87 = .ok (.iastore, 1) := by decide +kernel
theorem dX12_readings_88 : decode cX12_readings 88 = .ok (.aload_n 0, 1) := by decide +kernel
theorem dX12_readings_89 : decode cX12_readings 89 = .ok (.getfield 58, 3) := by decide +kernel
theorem dX12_readings_92 : decode cX12_readings 92 = .ok (.bipush 20, 2) := by decide +kernel
theorem dX12_readings_94 : decode cX12_readings 94 = .ok (.iload_n 1, 1) := by decide +kernel
theorem dX12_readings_95 : decode cX12_readings 95 = .ok (.iadd, 1) := by decide +kernel
theorem dX12_readings_96 : decode cX12_readings 96 = .ok (.iload_n 2, 1) := by decide +kernel
theorem dX12_readings_97 : decode cX12_readings 97 = .ok (.iastore, 1) := by decide +kernel
theorem dX12_readings_98 : decode cX12_readings 98 = .ok (.iinc 1 1, 3) := by decide +kernel
theorem dX12_readings_101 : decode cX12_readings 101 = .ok (.goto (-99), 3) := by decide +kernel
theorem dX12_readings_104 : decode cX12_readings 104 = .ok (.return_, 1) := by decide +kernel
theorem dX12_logs_0 : decode cX12_logs 0 = .ok (.sipush 145, 3) := by decide +kernel
theorem dX12_logs_3 : decode cX12_logs 3 = .ok (.iconst 4, 1) := by decide +kernel
theorem dX12_logs_4 : decode cX12_logs 4 = .ok (.aload_n 0, 1) := by decide +kernel
theorem dX12_logs_5 : decode cX12_logs 5 = .ok (.getfield 58, 3) := by decide +kernel
theorem dX12_logs_8 : decode cX12_logs 8 = .ok (.sipush 144, 3) := by decide +kernel
theorem dX12_logs_11 : decode cX12_logs 11 = .ok (.iaload, 1) := by decide +kernel
theorem dX12_logs_12 : decode cX12_logs 12 = .ok (.bipush 40, 2) := by decide +kernel
theorem dX12_logs_14 : decode cX12_logs 14 = .ok (.irem, 1) := by decide +kernel
theorem dX12_logs_15 : decode cX12_logs 15 = .ok (.imul, 1) := by decide +kernel
theorem dX12_logs_16 : decode cX12_logs 16 = .ok (.iadd, 1) := by decide +kernel
theorem dX12_logs_17 : decode cX12_logs 17 = .ok (.istore 4, 2) := by decide +kernel
theorem dX12_logs_19 : decode cX12_logs 19 = .ok (.aload_n 0, 1) := by decide +kernel
theorem dX12_logs_20 : decode cX12_logs 20 = .ok (.getfield 58, 3) := by decide +kernel
theorem dX12_logs_23 : decode cX12_logs 23 = .ok (.iload 4, 2) := by decide +kernel
theorem dX12_logs_25 : decode cX12_logs 25 = .ok (.aload_n 0, 1) := by decide +kernel
theorem dX12_logs_26 : decode cX12_logs 26 = .ok (.getfield 58, 3) := by decide +kernel
theorem dX12_logs_29 : decode cX12_logs 29 = .ok (.sipush 142, 3) := by decide +kernel
theorem dX12_logs_32 : decode cX12_logs 32 = .ok (.iaload, 1) := by decide +kernel
theorem dX12_logs_33 : decode cX12_logs 33 = .ok (.iastore, 1) := by decide +kernel
theorem dX12_logs_34 : decode cX12_logs 34 = .ok (.aload_n 0, 1) := by decide +kernel
theorem dX12_logs_35 : decode cX12_logs 35 = .ok (.getfield 58, 3) := by decide +kernel
theorem dX12_logs_38 : decode cX12_logs 38 = .ok (.iload 4, 2) := by decide +kernel
theorem dX12_logs_40 : decode cX12_logs 40 = .ok (.iconst 1, 1) := by decide +kernel
theorem dX12_logs_41 : decode cX12_logs 41 = .ok (.iadd, 1) := by decide +kernel
theorem dX12_logs_42 : decode cX12_logs 42 = .ok (.iload_n 1, 1) := by decide +kernel
theorem dX12_logs_43 : decode cX12_logs 43 = .ok (.iastore, 1) := by decide +kernel
theorem dX12_logs_44 : decode cX12_logs 44 = .ok (.aload_n 0, 1) := by decide +kernel
theorem dX12_logs_45 : decode cX12_logs 45 = .ok (.getfield 58, 3) := by decide +kernel
theorem dX12_logs_48 : decode cX12_logs 48 = .ok (.iload 4, 2) := by decide +kernel
theorem dX12_logs_50 : decode cX12_logs 50 = .ok (.iconst 2, 1) := by decide +kernel
theorem dX12_logs_51 : decode cX12_logs 51 = .ok (.iadd, 1) := by decide +kernel
theorem dX12_logs_52 : decode cX12_logs 52 = .ok (.iload_n 2, 1) := by decide +kernel
theorem dX12_logs_53 : decode cX12_logs 53 = .ok (.iastore, 1) := by decide +kernel
theorem dX12_logs_54 : decode cX12_logs 54 = .ok (.aload_n 0, 1) := by decide +kernel
theorem dX12_logs_55 : decode cX12_logs 55 = .ok (.getfield 58, 3) := by decide +kernel
theorem dX12_logs_58 : decode cX12_logs 58 = .ok (.iload 4, 2) := by decide +kernel
theorem dX12_logs_60 : decode cX12_logs 60 = .ok (.iconst 3, 1) := by decide +kernel
theorem dX12_logs_61 : decode cX12_logs 61 = .ok (.iadd, 1) := by decide +kernel
theorem dX12_logs_62 : decode cX12_logs 62 = .ok (.iload_n 3, 1) := by decide +kernel
theorem dX12_logs_63 : decode cX12_logs 63 = .ok (.iastore, 1) := by decide +kernel
theorem dX12_logs_64 : decode cX12_logs 64 = .ok (.aload_n 0, 1) := by decide +kernel
theorem dX12_logs_65 : decode cX12_logs 65 = .ok (.getfield 58, 3) := by decide +kernel
theorem dX12_logs_68 : decode cX12_logs 68 = .ok (.sipush 144, 3) := by decide +kernel
theorem dX12_logs_71 : decode cX12_logs 71 = .ok (.dup2, 1) := by decide +kernel
theorem dX12_logs_72 : decode cX12_logs 72 = .ok (.iaload, 1) := by decide +kernel
theorem dX12_logs_73 : decode cX12_logs 73 = .ok (.iconst 1, 1) := by decide +kernel
theorem dX12_logs_74 : decode cX12_logs 74 = .ok (.iadd, 1) := by decide +kernel
theorem dX12_logs_75 : decode cX12_logs 75 = .ok (.iastore, 1) := by decide +kernel
theorem dX12_logs_76 : decode cX12_logs 76 = .ok (.return_, 1) := by decide +kernel
theorem dX12_turns_0 : decode cX12_turns 0 = .ok (.aload_n 0, 1) := by decide +kernel
theorem dX12_turns_1 : decode cX12_turns 1 = .ok (.getfield 58, 3) := by decide +kernel
theorem dX12_turns_4 : decode cX12_turns 4 = .ok (.bipush 20, 2) := by decide +kernel
theorem dX12_turns_6 : decode cX12_turns 6 = .ok (.aload_n 0, 1) := by decide +kernel
theorem dX12_turns_7 : decode cX12_turns 7 = .ok (.iload_n 1, 1) := by decide +kernel
theorem dX12_turns_8 : decode cX12_turns 8 = .ok (.invokevirtual 287, 3) := by decide +kernel
theorem dX12_turns_11 : decode cX12_turns 11 = .ok (.iadd, 1) := by decide +kernel
theorem dX12_turns_12 : decode cX12_turns 12 = .ok (.iaload, 1) := by decide +kernel
theorem dX12_turns_13 : decode cX12_turns 13 = .ok (.istore_n 2, 1) := by decide +kernel
theorem dX12_turns_14 : decode cX12_turns 14 = .ok (.aload_n 0, 1) := by decide +kernel
theorem dX12_turns_15 : decode cX12_turns 15 = .ok (.getfield 58, 3) := by decide +kernel
theorem dX12_turns_18 : decode cX12_turns 18 = .ok (.bipush 50, 2) := by decide +kernel
theorem dX12_turns_20 : decode cX12_turns 20 = .ok (.iload_n 1, 1) := by decide +kernel
theorem dX12_turns_21 : decode cX12_turns 21 = .ok (.iadd, 1) := by decide +kernel
theorem dX12_turns_22 : decode cX12_turns 22 = .ok (.iaload, 1) := by decide +kernel
theorem dX12_turns_23 : decode cX12_turns 23 = .ok (.ifCond .ne 53, 3) := by decide +kernel
theorem dX12_turns_26 : decode cX12_turns 26 = .ok (.iload_n 2, 1) := by decide +kernel
theorem dX12_turns_27 : decode cX12_turns 27 = .ok (.aload_n 0, 1) := by decide +kernel
theorem dX12_turns_28 : decode cX12_turns 28 = .ok (.getfield 62, 3) := by decide +kernel
theorem dX12_turns_31 : decode cX12_turns 31 = .ok (.bipush 35, 2) := by decide +kernel
theorem dX12_turns_33 : decode cX12_turns 33 = .ok (.iload_n 1, 1) := by decide +kernel
theorem dX12_turns_34 : decode cX12_turns 34 = .ok (.iadd, 1) := by decide +kernel
theorem dX12_turns_35 : decode cX12_turns 35 = .ok (.iaload, 1) := by decide +kernel
theorem dX12_turns_36 : decode cX12_turns 36 = .ok (.if_icmp .lt 40, 3) := by decide +kernel
theorem dX12_turns_39 : decode cX12_turns 39 = .ok (.aload_n 0, 1) := by decide +kernel
theorem dX12_turns_40 : decode cX12_turns 40 = .ok (.getfield 58, 3) := by decide +kernel
theorem dX12_turns_43 : decode cX12_turns 43 = .ok (.bipush 50, 2) := by decide +kernel
theorem dX12_turns_45 : decode cX12_turns 45 = .ok (.iload_n 1, 1) := by decide +kernel
theorem dX12_turns_46 : decode cX12_turns 46 = .ok (.iadd, 1) := by decide +kernel
theorem dX12_turns_47 : decode cX12_turns 47 = .ok (.iconst 1, 1) := by decide +kernel
theorem dX12_turns_48 : decode cX12_turns 48 = .ok (.iastore, 1) := by decide +kernel
theorem dX12_turns_49 : decode cX12_turns 49 = .ok (.aload_n 0, 1) := by decide +kernel
theorem dX12_turns_50 : decode cX12_turns 50 = .ok (.getfield 58, 3) := by decide +kernel
theorem dX12_turns_53 : decode cX12_turns 53 = .ok (.bipush 60, 2) := by decide +kernel
theorem dX12_turns_55 : decode cX12_turns 55 = .ok (.iload_n 1, 1) := by decide +kernel
theorem dX12_turns_56 : decode cX12_turns 56 = .ok (.iadd, 1) := by decide +kernel
theorem dX12_turns_57 : decode cX12_turns 57 = .ok (.dup2, 1) := by decide +kernel
theorem dX12_turns_58 : decode cX12_turns 58 = .ok (.iaload, 1) := by decide +kernel
theorem dX12_turns_59 : decode cX12_turns 59 = .ok (.iconst 1, 1) := by decide +kernel
theorem dX12_turns_60 : decode cX12_turns 60 = .ok (.iadd, 1) := by decide +kernel
theorem dX12_turns_61 : decode cX12_turns 61 = .ok (.iastore, 1) := by decide +kernel
theorem dX12_turns_62 : decode cX12_turns 62 = .ok (.aload_n 0, 1) := by decide +kernel
theorem dX12_turns_63 : decode cX12_turns 63 = .ok (.iconst 1, 1) := by decide +kernel
theorem dX12_turns_64 : decode cX12_turns 64 = .ok (.aload_n 0, 1) := by decide +kernel
theorem dX12_turns_65 : decode cX12_turns 65 = .ok (.iload_n 1, 1) := by decide +kernel
theorem dX12_turns_66 : decode cX12_turns 66 = .ok (.invokevirtual 287, 3) := by decide +kernel
theorem dX12_turns_69 : decode cX12_turns 69 = .ok (.iload_n 1, 1) := by decide +kernel
theorem dX12_turns_70 : decode cX12_turns 70 = .ok (.invokevirtual 290, 3) := by decide +kernel
theorem dX12_turns_73 : decode cX12_turns 73 = .ok (.goto 60, 3) := by decide +kernel
theorem dX12_turns_76 : decode cX12_turns 76 = .ok (.aload_n 0, 1) := by decide +kernel
theorem dX12_turns_77 : decode cX12_turns 77 = .ok (.getfield 58, 3) := by decide +kernel
theorem dX12_turns_80 : decode cX12_turns 80 = .ok (.bipush 50, 2) := by decide +kernel
theorem dX12_turns_82 : decode cX12_turns 82 = .ok (.iload_n 1, 1) := by decide +kernel
theorem dX12_turns_83 : decode cX12_turns 83 = .ok (.iadd, 1) := by decide +kernel
theorem dX12_turns_84 : decode cX12_turns 84 = .ok (.iaload, 1) := by decide +kernel
theorem dX12_turns_85 : decode cX12_turns 85 = .ok (.iconst 1, 1) := by decide +kernel
theorem dX12_turns_86 : decode cX12_turns 86 = .ok (.if_icmp .ne 47, 3) := by decide +kernel
theorem dX12_turns_89 : decode cX12_turns 89 = .ok (.iload_n 2, 1) := by decide +kernel
theorem dX12_turns_90 : decode cX12_turns 90 = .ok (.aload_n 0, 1) := by decide +kernel
theorem dX12_turns_91 : decode cX12_turns 91 = .ok (.getfield 62, 3) := by decide +kernel
theorem dX12_turns_94 : decode cX12_turns 94 = .ok (.bipush 35, 2) := by decide +kernel
theorem dX12_turns_96 : decode cX12_turns 96 = .ok (.iload_n 1, 1) := by decide +kernel
theorem dX12_turns_97 : decode cX12_turns 97 = .ok (.iadd, 1) := by decide +kernel
theorem dX12_turns_98 : decode cX12_turns 98 = .ok (.iaload, 1) := by decide +kernel
theorem dX12_turns_99 : decode cX12_turns 99 = .ok (.aload_n 0, 1) := by decide +kernel
theorem dX12_turns_100 : decode cX12_turns 100 = .ok (.getfield 62, 3) := by decide +kernel
theorem dX12_turns_103 : decode cX12_turns 103 = .ok (.bipush 45, 2) := by decide +kernel
theorem dX12_turns_105 : decode cX12_turns 105 = .ok (.iload_n 1, 1) := by decide +kernel
theorem dX12_turns_106 : decode cX12_turns 106 = .ok (.iadd, 1) := by decide +kernel
theorem dX12_turns_107 : decode cX12_turns 107 = .ok (.iaload, 1) := by decide +kernel
theorem dX12_turns_108 : decode cX12_turns 108 = .ok (.isub, 1) := by decide +kernel
theorem dX12_turns_109 : decode cX12_turns 109 = .ok (.if_icmp .ge 24, 3) := by decide +kernel
theorem dX12_turns_112 : decode cX12_turns 112 = .ok (.aload_n 0, 1) := by decide +kernel
theorem dX12_turns_113 : decode cX12_turns 113 = .ok (.getfield 58, 3) := by decide +kernel
theorem dX12_turns_116 : decode cX12_turns 116 = .ok (.bipush 50, 2) := by decide +kernel
theorem dX12_turns_118 : decode cX12_turns 118 = .ok (.iload_n 1, 1) := by decide +kernel
theorem dX12_turns_119 : decode cX12_turns 119 = .ok (.iadd, 1) := by decide +kernel
theorem dX12_turns_120 : decode cX12_turns 120 = .ok (.iconst 0, 1) := by decide +kernel
theorem dX12_turns_121 : decode cX12_turns 121 = .ok (.iastore, 1) := by decide +kernel
theorem dX12_turns_122 : decode cX12_turns 122 = .ok (.aload_n 0, 1) := by decide +kernel
theorem dX12_turns_123 : decode cX12_turns 123 = .ok (.iconst 2, 1) := by decide +kernel
theorem dX12_turns_124 : decode cX12_turns 124 = .ok (.aload_n 0, 1) := by decide +kernel
theorem dX12_turns_125 : decode cX12_turns 125 = .ok (.iload_n 1, 1) := by decide +kernel
theorem dX12_turns_126 : decode cX12_turns 126 = .ok (.invokevirtual 287, 3) := by decide +kernel
theorem dX12_turns_129 : decode cX12_turns 129 = .ok (.iload_n 1, 1) := by decide +kernel
theorem dX12_turns_130 : decode cX12_turns 130 = .ok (.invokevirtual 290, 3) := by decide +kernel
theorem dX12_turns_133 : decode cX12_turns 133 = .ok (.return_, 1) := by decide +kernel
theorem dX12_askedOf_0 : decode cX12_askedOf 0 = .ok (.aload_n 0, 1) := by decide +kernel
theorem dX12_askedOf_1 : decode cX12_askedOf 1 = .ok (.getfield 62, 3) := by decide +kernel
theorem dX12_askedOf_4 : decode cX12_askedOf 4 = .ok (.bipush 25, 2) := by decide +kernel
theorem dX12_askedOf_6 : decode cX12_askedOf 6 = .ok (.iload_n 1, 1) := by decide +kernel
theorem dX12_askedOf_7 : decode cX12_askedOf 7 = .ok (.iadd, 1) := by decide +kernel
theorem dX12_askedOf_8 : decode cX12_askedOf 8 = .ok (.iaload, 1) := by decide +kernel
theorem dX12_askedOf_9 : decode cX12_askedOf 9 = .ok (.iconst 1, 1) := by decide +kernel
theorem dX12_askedOf_10 : decode cX12_askedOf 10 = .ok (.if_icmp .ne 15, 3) := by decide +kernel
theorem dX12_askedOf_13 : decode cX12_askedOf 13 = .ok (.aload_n 0, 1) := by decide +kernel
theorem dX12_askedOf_14 : decode cX12_askedOf 14 = .ok (.getfield 58, 3) := by decide +kernel
theorem dX12_askedOf_17 : decode cX12_askedOf 17 = .ok (.bipush 50, 2) := by decide +kernel
theorem dX12_askedOf_19 : decode cX12_askedOf 19 = .ok (.iload_n 1, 1) := by decide +kernel
theorem dX12_askedOf_20 : decode cX12_askedOf 20 = .ok (.iadd, 1) := by decide +kernel
theorem dX12_askedOf_21 : decode cX12_askedOf 21 = .ok (.iaload, 1) := by decide +kernel
theorem dX12_askedOf_22 : decode cX12_askedOf 22 = .ok (.ifCond .ne 5, 3) := by decide +kernel
theorem dX12_askedOf_25 : decode cX12_askedOf 25 = .ok (.iconst 0, 1) := by decide +kernel
theorem dX12_askedOf_26 : decode cX12_askedOf 26 = .ok (.ireturn, 1) := by decide +kernel
theorem dX12_askedOf_27 : decode cX12_askedOf 27 = .ok (.iconst 0, 1) := by decide +kernel
theorem dX12_askedOf_28 : decode cX12_askedOf 28 = .ok (.istore_n 2, 1) := by decide +kernel
theorem dX12_askedOf_29 : decode cX12_askedOf 29 = .ok (.iconst 0, 1) := by decide +kernel
theorem dX12_askedOf_30 : decode cX12_askedOf 30 = .ok (.istore_n 3, 1) := by decide +kernel
theorem dX12_askedOf_31 : decode cX12_askedOf 31 = .ok (.iload_n 3, 1) := by decide +kernel
theorem dX12_askedOf_32 : decode cX12_askedOf 32 = .ok (.aload_n 0, 1) := by decide +kernel
theorem dX12_askedOf_33 : decode cX12_askedOf 33 = .ok (.invokevirtual 263, 3) := by decide +kernel
theorem dX12_askedOf_36 : decode cX12_askedOf 36 = .ok (.if_icmp .ge 34, 3) := by decide +kernel
theorem dX12_askedOf_39 : decode cX12_askedOf 39 = .ok (.iload_n 2, 1) := by decide +kernel
theorem dX12_askedOf_40 : decode cX12_askedOf 40 = .ok (.aload_n 0, 1) := by decide +kernel
theorem dX12_askedOf_41 : decode cX12_askedOf 41 = .ok (.iload_n 1, 1) := by decide +kernel
theorem dX12_askedOf_42 : decode cX12_askedOf 42 = .ok (.iload_n 3, 1) := by decide +kernel
theorem dX12_askedOf_43 : decode cX12_askedOf 43 = .ok (.invokevirtual 294, 3) := by decide +kernel
theorem dX12_askedOf_46 : decode cX12_askedOf 46 = .ok (.ifCond .le 15, 3) := by decide +kernel
theorem dX12_askedOf_49 : decode cX12_askedOf 49 = .ok (.aload_n 0, 1) := by decide +kernel
theorem dX12_askedOf_50 : decode cX12_askedOf 50 = .ok (.getfield 62, 3) := by decide +kernel
theorem dX12_askedOf_53 : decode cX12_askedOf 53 = .ok (.bipush 67, 2) := by decide +kernel
theorem dX12_askedOf_55 : decode cX12_askedOf 55 = .ok (.iload_n 3, 1) := by decide +kernel
theorem dX12_askedOf_56 : decode cX12_askedOf 56 = .ok (.iadd, 1) := by decide +kernel
theorem dX12_askedOf_57 : decode cX12_askedOf 57 = .ok (.iaload, 1) := by decide +kernel
theorem dX12_askedOf_58 : decode cX12_askedOf 58 = .ok (.goto 4, 3) := by decide +kernel
theorem dX12_askedOf_61 : decode cX12_askedOf 61 = .ok (.iconst 0, 1) := by decide +kernel
theorem dX12_askedOf_62 : decode cX12_askedOf 62 = .ok (.iadd, 1) := by decide +kernel
theorem dX12_askedOf_63 : decode cX12_askedOf 63 = .ok (.istore_n 2, 1) := by decide +kernel
theorem dX12_askedOf_64 : decode cX12_askedOf 64 = .ok (.iinc 3 1, 3) := by decide +kernel
theorem dX12_askedOf_67 : decode cX12_askedOf 67 = .ok (.goto (-36), 3) := by decide +kernel
theorem dX12_askedOf_70 : decode cX12_askedOf 70 = .ok (.iload_n 2, 1) := by decide +kernel
theorem dX12_askedOf_71 : decode cX12_askedOf 71 = .ok (.iconst 1, 1) := by decide +kernel
theorem dX12_askedOf_72 : decode cX12_askedOf 72 = .ok (.aload_n 0, 1) := by decide +kernel
theorem dX12_askedOf_73 : decode cX12_askedOf 73 = .ok (.getfield 58, 3) := by decide +kernel
theorem dX12_askedOf_76 : decode cX12_askedOf 76 = .ok (.bipush 20, 2) := by decide +kernel
theorem dX12_askedOf_78 : decode cX12_askedOf 78 = .ok (.aload_n 0, 1) := by decide +kernel
theorem dX12_askedOf_79 : decode cX12_askedOf 79 = .ok (.iload_n 1, 1) := by decide +kernel
theorem dX12_askedOf_80 : decode cX12_askedOf 80 = .ok (.invokevirtual 287, 3) := by decide +kernel
theorem dX12_askedOf_83 : decode cX12_askedOf 83 = .ok (.iadd, 1) := by decide +kernel
theorem dX12_askedOf_84 : decode cX12_askedOf 84 = .ok (.iaload, 1) := by decide +kernel
theorem dX12_askedOf_85 : decode cX12_askedOf 85 = .ok (.aload_n 0, 1) := by decide +kernel
theorem dX12_askedOf_86 : decode cX12_askedOf 86 = .ok (.getfield 62, 3) := by decide +kernel
theorem dX12_askedOf_89 : decode cX12_askedOf 89 = .ok (.bipush 35, 2) := by decide +kernel
theorem dX12_askedOf_91 : decode cX12_askedOf 91 = .ok (.iload_n 1, 1) := by decide +kernel
theorem dX12_askedOf_92 : decode cX12_askedOf 92 = .ok (.iadd, 1) := by decide +kernel
theorem dX12_askedOf_93 : decode cX12_askedOf 93 = .ok (.iaload, 1) := by decide +kernel
theorem dX12_askedOf_94 : decode cX12_askedOf 94 = .ok (.isub, 1) := by decide +kernel
theorem dX12_askedOf_95 : decode cX12_askedOf 95 = .ok (.bipush 10, 2) := by decide +kernel
theorem dX12_askedOf_97 : decode cX12_askedOf 97 = .ok (.invokestatic 269, 3) := by decide +kernel
theorem dX12_askedOf_100 : decode cX12_askedOf 100 = .ok (.iconst 1, 1) := by decide +kernel
theorem dX12_askedOf_101 : decode cX12_askedOf 101 = .ok (.iadd, 1) := by decide +kernel
theorem dX12_askedOf_102 : decode cX12_askedOf 102 = .ok (.invokestatic 297, 3) := by decide +kernel
theorem dX12_askedOf_105 : decode cX12_askedOf 105 = .ok (.invokestatic 164, 3) := by decide +kernel
theorem dX12_askedOf_108 : decode cX12_askedOf 108 = .ok (.ireturn, 1) := by decide +kernel
theorem dX12_wanted_0 : decode cX12_wanted 0 = .ok (.aload_n 0, 1) := by decide +kernel
theorem dX12_wanted_1 : decode cX12_wanted 1 = .ok (.getfield 58, 3) := by decide +kernel
theorem dX12_wanted_4 : decode cX12_wanted 4 = .ok (.bipush 82, 2) := by decide +kernel
theorem dX12_wanted_6 : decode cX12_wanted 6 = .ok (.bipush 6, 2) := by decide +kernel
theorem dX12_wanted_8 : decode cX12_wanted 8 = .ok (.iload_n 1, 1) := by decide +kernel
theorem dX12_wanted_9 : decode cX12_wanted 9 = .ok (.imul, 1) := by decide +kernel
theorem dX12_wanted_10 : decode cX12_wanted 10 = .ok (.iadd, 1) := by decide +kernel
theorem dX12_wanted_11 : decode cX12_wanted 11 = .ok (.iload_n 2, 1) := by decide +kernel
theorem dX12_wanted_12 : decode cX12_wanted 12 = .ok (.iadd, 1) := by decide +kernel
theorem dX12_wanted_13 : decode cX12_wanted 13 = .ok (.iaload, 1) := by decide +kernel
theorem dX12_wanted_14 : decode cX12_wanted 14 = .ok (.ireturn, 1) := by decide +kernel
theorem dX12_wants_0 : decode cX12_wants 0 = .ok (.aload_n 0, 1) := by decide +kernel
theorem dX12_wants_1 : decode cX12_wants 1 = .ok (.getfield 58, 3) := by decide +kernel
theorem dX12_wants_4 : decode cX12_wants 4 = .ok (.bipush 82, 2) := by decide +kernel
theorem dX12_wants_6 : decode cX12_wants 6 = .ok (.bipush 6, 2) := by decide +kernel
theorem dX12_wants_8 : decode cX12_wants 8 = .ok (.iload_n 1, 1) := by decide +kernel
theorem dX12_wants_9 : decode cX12_wants 9 = .ok (.imul, 1) := by decide +kernel
theorem dX12_wants_10 : decode cX12_wants 10 = .ok (.iadd, 1) := by decide +kernel
theorem dX12_wants_11 : decode cX12_wants 11 = .ok (.iload_n 2, 1) := by decide +kernel
theorem dX12_wants_12 : decode cX12_wants 12 = .ok (.iadd, 1) := by decide +kernel
theorem dX12_wants_13 : decode cX12_wants 13 = .ok (.iload_n 3, 1) := by decide +kernel
theorem dX12_wants_14 : decode cX12_wants 14 = .ok (.iastore, 1) := by decide +kernel
theorem dX12_wants_15 : decode cX12_wants 15 = .ok (.return_, 1) := by decide +kernel
theorem dX12_steps_0 : decode cX12_steps 0 = .ok (.aload_n 0, 1) := by decide +kernel
theorem dX12_steps_1 : decode cX12_steps 1 = .ok (.getfield 58, 3) := by decide +kernel
theorem dX12_steps_4 : decode cX12_steps 4 = .ok (.bipush 25, 2) := by decide +kernel
theorem dX12_steps_6 : decode cX12_steps 6 = .ok (.aload_n 0, 1) := by decide +kernel
theorem dX12_steps_7 : decode cX12_steps 7 = .ok (.iload_n 1, 1) := by decide +kernel
theorem dX12_steps_8 : decode cX12_steps 8 = .ok (.invokevirtual 287, 3) := by decide +kernel
theorem dX12_steps_11 : decode cX12_steps 11 = .ok (.iadd, 1) := by decide +kernel
theorem dX12_steps_12 : decode cX12_steps 12 = .ok (.iaload, 1) := by decide +kernel
theorem dX12_steps_13 : decode cX12_steps 13 = .ok (.istore_n 2, 1) := by decide +kernel
theorem dX12_steps_14 : decode cX12_steps 14 = .ok (.iconst 0, 1) := by decide +kernel
theorem dX12_steps_15 : decode cX12_steps 15 = .ok (.istore_n 3, 1) := by decide +kernel
theorem dX12_steps_16 : decode cX12_steps 16 = .ok (.iload_n 3, 1) := by decide +kernel
theorem dX12_steps_17 : decode cX12_steps 17 = .ok (.aload_n 0, 1) := by decide +kernel
theorem dX12_steps_18 : decode cX12_steps 18 = .ok (.invokevirtual 263, 3) := by decide +kernel
theorem dX12_steps_21 : decode cX12_steps 21 = .ok (.if_icmp .ge 92, 3) := by decide +kernel
theorem dX12_steps_24 : decode cX12_steps 24 = .ok (.aload_n 0, 1) := by decide +kernel
theorem dX12_steps_25 : decode cX12_steps 25 = .ok (.iload_n 1, 1) := by decide +kernel
theorem dX12_steps_26 : decode cX12_steps 26 = .ok (.iload_n 3, 1) := by decide +kernel
theorem dX12_steps_27 : decode cX12_steps 27 = .ok (.invokevirtual 294, 3) := by decide +kernel
theorem dX12_steps_30 : decode cX12_steps 30 = .ok (.ifCond .ne 6, 3) := by decide +kernel
theorem dX12_steps_33 : decode cX12_steps 33 = .ok (.goto 74, 3) := by decide +kernel
theorem dX12_steps_36 : decode cX12_steps 36 = .ok (.aload_n 0, 1) := by decide +kernel
theorem dX12_steps_37 : decode cX12_steps 37 = .ok (.iload_n 1, 1) := by decide +kernel
theorem dX12_steps_38 : decode cX12_steps 38 = .ok (.iload_n 3, 1) := by decide +kernel
theorem dX12_steps_39 : decode cX12_steps 39 = .ok (.invokevirtual 300, 3) := by decide +kernel
theorem dX12_steps_42 : decode cX12_steps 42 = .ok (.istore 4, 2) := by decide +kernel
theorem dX12_steps_44 : decode cX12_steps 44 = .ok (.aload_n 0, 1) := by decide +kernel
theorem dX12_steps_45 : decode cX12_steps 45 = .ok (.getfield 58, 3) := by decide +kernel
theorem dX12_steps_48 : decode cX12_steps 48 = .ok (.bipush 50, 2) := by decide +kernel
theorem dX12_steps_50 : decode cX12_steps 50 = .ok (.iload_n 1, 1) := by decide +kernel
theorem dX12_steps_51 : decode cX12_steps 51 = .ok (.iadd, 1) := by decide +kernel
theorem dX12_steps_52 : decode cX12_steps 52 = .ok (.iaload, 1) := by decide +kernel
theorem dX12_steps_53 : decode cX12_steps 53 = .ok (.iconst 1, 1) := by decide +kernel
theorem dX12_steps_54 : decode cX12_steps 54 = .ok (.if_icmp .ne 13, 3) := by decide +kernel
theorem dX12_steps_57 : decode cX12_steps 57 = .ok (.iload_n 2, 1) := by decide +kernel
theorem dX12_steps_58 : decode cX12_steps 58 = .ok (.ifCond .le 9, 3) := by decide +kernel
theorem dX12_steps_61 : decode cX12_steps 61 = .ok (.iinc 4 1, 3) := by decide +kernel
theorem dX12_steps_64 : decode cX12_steps 64 = .ok (.goto 22, 3) := by decide +kernel
theorem dX12_steps_67 : decode cX12_steps 67 = .ok (.aload_n 0, 1) := by decide +kernel
theorem dX12_steps_68 : decode cX12_steps 68 = .ok (.getfield 58, 3) := by decide +kernel
theorem dX12_steps_71 : decode cX12_steps 71 = .ok (.bipush 50, 2) := by decide +kernel
theorem dX12_steps_73 : decode cX12_steps 73 = .ok (.iload_n 1, 1) := by decide +kernel
theorem dX12_steps_74 : decode cX12_steps 74 = .ok (.iadd, 1) := by decide +kernel
theorem dX12_steps_75 : decode cX12_steps 75 = .ok (.iaload, 1) := by decide +kernel
theorem dX12_steps_76 : decode cX12_steps 76 = .ok (.ifCond .eq 7, 3) := by decide +kernel
theorem dX12_steps_79 : decode cX12_steps 79 = .ok (.iload_n 2, 1) := by decide +kernel
theorem dX12_steps_80 : decode cX12_steps 80 = .ok (.ifCond .ge 6, 3) := by decide +kernel
theorem dX12_steps_83 : decode cX12_steps 83 = .ok (.iinc 4 (-1), 3) := by decide +kernel
theorem dX12_steps_86 : decode cX12_steps 86 = .ok (.aload_n 0, 1) := by decide +kernel
theorem dX12_steps_87 : decode cX12_steps 87 = .ok (.iload_n 1, 1) := by decide +kernel
theorem dX12_steps_88 : decode cX12_steps 88 = .ok (.iload_n 3, 1) := by decide +kernel
theorem dX12_steps_89 : decode cX12_steps 89 = .ok (.iload 4, 2) := by decide +kernel
theorem dX12_steps_91 : decode cX12_steps 91 = .ok (.iconst 0, 1) := by decide +kernel
theorem dX12_steps_92 : decode cX12_steps 92 = .ok (.aload_n 0, 1) := by decide +kernel
theorem dX12_steps_93 : decode cX12_steps 93 = .ok (.getfield 62, 3) := by decide +kernel
theorem dX12_steps_96 : decode cX12_steps 96 = .ok (.bipush 67, 2) := by decide +kernel
theorem dX12_steps_98 : decode cX12_steps 98 = .ok (.iload_n 3, 1) := by decide +kernel
theorem dX12_steps_99 : decode cX12_steps 99 = .ok (.iadd, 1) := by decide +kernel
theorem dX12_steps_100 : decode cX12_steps 100 = .ok (.iaload, 1) := by decide +kernel
theorem dX12_steps_101 : decode cX12_steps 101 = .ok (.invokestatic 275, 3) := by decide +kernel
theorem dX12_steps_104 : decode cX12_steps 104 = .ok (.invokevirtual 303, 3) := by decide +kernel
theorem dX12_steps_107 : decode cX12_steps 107 = .ok (.iinc 3 1, 3) := by decide +kernel
theorem dX12_steps_110 : decode cX12_steps 110 = .ok (.goto (-94), 3) := by decide +kernel
theorem dX12_steps_113 : decode cX12_steps 113 = .ok (.return_, 1) := by decide +kernel
theorem dX12_nextGiven_0 : decode cX12_nextGiven 0 = .ok (.iconst (-1), 1) := by decide +kernel
theorem dX12_nextGiven_1 : decode cX12_nextGiven 1 = .ok (.istore_n 2, 1) := by decide +kernel
theorem dX12_nextGiven_2 : decode cX12_nextGiven 2 = .ok (.iconst 0, 1) := by decide +kernel
theorem dX12_nextGiven_3 : decode cX12_nextGiven 3 = .ok (.istore_n 3, 1) := by decide +kernel
theorem dX12_nextGiven_4 : decode cX12_nextGiven 4 = .ok (.iload_n 3, 1) := by decide +kernel
theorem dX12_nextGiven_5 : decode cX12_nextGiven 5 = .ok (.aload_n 0, 1) := by decide +kernel
theorem dX12_nextGiven_6 : decode cX12_nextGiven 6 = .ok (.invokevirtual 263, 3) := by decide +kernel
theorem dX12_nextGiven_9 : decode cX12_nextGiven 9 = .ok (.if_icmp .ge 79, 3) := by decide +kernel
theorem dX12_nextGiven_12 : decode cX12_nextGiven 12 = .ok (.aload_n 0, 1) := by decide +kernel
theorem dX12_nextGiven_13 : decode cX12_nextGiven 13 = .ok (.iload_n 1, 1) := by decide +kernel
theorem dX12_nextGiven_14 : decode cX12_nextGiven 14 = .ok (.iload_n 3, 1) := by decide +kernel
theorem dX12_nextGiven_15 : decode cX12_nextGiven 15 = .ok (.invokevirtual 294, 3) := by decide +kernel
theorem dX12_nextGiven_18 : decode cX12_nextGiven 18 = .ok (.ifCond .le 34, 3) := by decide +kernel
theorem dX12_nextGiven_21 : decode cX12_nextGiven 21 = .ok (.aload_n 0, 1) := by decide +kernel
theorem dX12_nextGiven_22 : decode cX12_nextGiven 22 = .ok (.getfield 84, 3) := by decide +kernel
theorem dX12_nextGiven_25 : decode cX12_nextGiven 25 = .ok (.iload_n 3, 1) := by decide +kernel
theorem dX12_nextGiven_26 : decode cX12_nextGiven 26 = .ok (.baload, 1) := by decide +kernel
theorem dX12_nextGiven_27 : decode cX12_nextGiven 27 = .ok (.ifCond .ne 25, 3) := by decide +kernel
theorem dX12_nextGiven_30 : decode cX12_nextGiven 30 = .ok (.aload_n 0, 1) := by decide +kernel
theorem dX12_nextGiven_31 : decode cX12_nextGiven 31 = .ok (.iload_n 1, 1) := by decide +kernel
theorem dX12_nextGiven_32 : decode cX12_nextGiven 32 = .ok (.iload_n 3, 1) := by decide +kernel
theorem dX12_nextGiven_33 : decode cX12_nextGiven 33 = .ok (.invokevirtual 300, 3) := by decide +kernel
theorem dX12_nextGiven_36 : decode cX12_nextGiven 36 = .ok (.aload_n 0, 1) := by decide +kernel
theorem dX12_nextGiven_37 : decode cX12_nextGiven 37 = .ok (.getfield 62, 3) := by decide +kernel
theorem dX12_nextGiven_40 : decode cX12_nextGiven 40 = .ok (.bipush 67, 2) := by decide +kernel
theorem dX12_nextGiven_42 : decode cX12_nextGiven 42 = .ok (.iload_n 3, 1) := by decide +kernel
theorem dX12_nextGiven_43 : decode cX12_nextGiven 43 = .ok (.iadd, 1) := by decide +kernel
theorem dX12_nextGiven_44 : decode cX12_nextGiven 44 = .ok (.iaload, 1) := by decide +kernel
theorem dX12_nextGiven_45 : decode cX12_nextGiven 45 = .ok (.if_icmp .ge 7, 3) := by decide +kernel
theorem dX12_nextGiven_48 : decode cX12_nextGiven 48 = .ok (.iconst 1, 1) := by decide +kernel
theorem dX12_nextGiven_49 : decode cX12_nextGiven 49 = .ok (.goto 4, 3) := by decide +kernel
theorem dX12_nextGiven_52 : decode cX12_nextGiven 52 = .ok (.iconst 0, 1) := by decide +kernel
theorem dX12_nextGiven_53 : decode cX12_nextGiven 53 = .ok (.istore 4, 2) := by decide +kernel
theorem dX12_nextGiven_55 : decode cX12_nextGiven 55 = .ok (.iload 4, 2) := by decide +kernel
theorem dX12_nextGiven_57 : decode cX12_nextGiven 57 = .ok (.ifCond .eq 25, 3) := by decide +kernel
theorem dX12_nextGiven_60 : decode cX12_nextGiven 60 = .ok (.iload_n 2, 1) := by decide +kernel
theorem dX12_nextGiven_61 : decode cX12_nextGiven 61 = .ok (.iconst (-1), 1) := by decide +kernel
theorem dX12_nextGiven_62 : decode cX12_nextGiven 62 = .ok (.if_icmp .eq 18, 3) := by decide +kernel
theorem dX12_nextGiven_65 : decode cX12_nextGiven 65 = .ok (.aload_n 0, 1) := by decide +kernel
theorem dX12_nextGiven_66 : decode cX12_nextGiven 66 = .ok (.iload_n 1, 1) := by decide +kernel
theorem dX12_nextGiven_67 : decode cX12_nextGiven 67 = .ok (.iload_n 3, 1) := by decide +kernel
theorem dX12_nextGiven_68 : decode cX12_nextGiven 68 = .ok (.invokevirtual 294, 3) := by decide +kernel
theorem dX12_nextGiven_71 : decode cX12_nextGiven 71 = .ok (.aload_n 0, 1) := by decide +kernel
theorem dX12_nextGiven_72 : decode cX12_nextGiven 72 = .ok (.iload_n 1, 1) := by decide +kernel
theorem dX12_nextGiven_73 : decode cX12_nextGiven 73 = .ok (.iload_n 2, 1) := by decide +kernel
theorem dX12_nextGiven_74 : decode cX12_nextGiven 74 = .ok (.invokevirtual 294, 3) := by decide +kernel
theorem dX12_nextGiven_77 : decode cX12_nextGiven 77 = .ok (.if_icmp .le 5, 3) := by decide +kernel
theorem dX12_nextGiven_80 : decode cX12_nextGiven 80 = .ok (.iload_n 3, 1) := by decide +kernel
theorem dX12_nextGiven_81 : decode cX12_nextGiven 81 = .ok (.istore_n 2, 1) := by decide +kernel
theorem dX12_nextGiven_82 : decode cX12_nextGiven 82 = .ok (.iinc 3 1, 3) := by decide +kernel
theorem dX12_nextGiven_85 : decode cX12_nextGiven 85 = .ok (.goto (-81), 3) := by decide +kernel
theorem dX12_nextGiven_88 : decode cX12_nextGiven 88 = .ok (.iload_n 2, 1) := by decide +kernel
theorem dX12_nextGiven_89 : decode cX12_nextGiven 89 = .ok (.ireturn, 1) := by decide +kernel
theorem dX12_shares_0 : decode cX12_shares 0 = .ok (.aload_n 0, 1) := by decide +kernel
theorem dX12_shares_1 : decode cX12_shares 1 = .ok (.iload_n 1, 1) := by decide +kernel
theorem dX12_shares_2 : decode cX12_shares 2 = .ok (.invokevirtual 306, 3) := by decide +kernel
theorem dX12_shares_5 : decode cX12_shares 5 = .ok (.istore_n 2, 1) := by decide +kernel
theorem dX12_shares_6 : decode cX12_shares 6 = .ok (.iload_n 2, 1) := by decide +kernel
theorem dX12_shares_7 : decode cX12_shares 7 = .ok (.istore_n 3, 1) := by decide +kernel
theorem dX12_shares_8 : decode cX12_shares 8 = .ok (.iconst 0, 1) := by decide +kernel
theorem dX12_shares_9 : decode cX12_shares 9 = .ok (.istore 4, 2) := by decide +kernel
theorem dX12_shares_11 : decode cX12_shares 11 = .ok (.iconst 0, 1) := by decide +kernel
theorem dX12_shares_12 : decode cX12_shares 12 = .ok (.istore 5, 2) := by decide +kernel
theorem dX12_shares_14 : decode cX12_shares 14 = .ok (.iload 5, 2) := by decide +kernel
theorem dX12_shares_16 : decode cX12_shares 16 = .ok (.aload_n 0, 1) := by decide +kernel
theorem dX12_shares_17 : decode cX12_shares 17 = .ok (.invokevirtual 263, 3) := by decide +kernel
theorem dX12_shares_20 : decode cX12_shares 20 = .ok (.if_icmp .ge 21, 3) := by decide +kernel
theorem dX12_shares_23 : decode cX12_shares 23 = .ok (.iload 4, 2) := by decide +kernel
theorem dX12_shares_25 : decode cX12_shares 25 = .ok (.aload_n 0, 1) := by decide +kernel
theorem dX12_shares_26 : decode cX12_shares 26 = .ok (.iload_n 1, 1) := by decide +kernel
theorem dX12_shares_27 : decode cX12_shares 27 = .ok (.iload 5, 2) := by decide +kernel
theorem dX12_shares_29 : decode cX12_shares 29 = .ok (.invokevirtual 294, 3) := by decide +kernel
theorem dX12_shares_32 : decode cX12_shares 32 = .ok (.iadd, 1) := by decide +kernel
theorem dX12_shares_33 : decode cX12_shares 33 = .ok (.istore 4, 2) := by decide +kernel
theorem dX12_shares_35 : decode cX12_shares 35 = .ok (.iinc 5 1, 3) := by decide +kernel
theorem dX12_shares_38 : decode cX12_shares 38 = .ok (.goto (-24), 3) := by decide +kernel
theorem dX12_shares_41 : decode cX12_shares 41 = .ok (.iconst 0, 1) := by decide +kernel
theorem dX12_shares_42 : decode cX12_shares 42 = .ok (.istore 5, 2) := by decide +kernel
theorem dX12_shares_44 : decode cX12_shares 44 = .ok (.iload 5, 2) := by decide +kernel
theorem dX12_shares_46 : decode cX12_shares 46 = .ok (.aload_n 0, 1) := by decide +kernel
theorem dX12_shares_47 : decode cX12_shares 47 = .ok (.invokevirtual 263, 3) := by decide +kernel
theorem dX12_shares_50 : decode cX12_shares 50 = .ok (.if_icmp .ge 63, 3) := by decide +kernel
theorem dX12_shares_53 : decode cX12_shares 53 = .ok (.aload_n 0, 1) := by decide +kernel
theorem dX12_shares_54 : decode cX12_shares 54 = .ok (.iload_n 1, 1) := by decide +kernel
theorem dX12_shares_55 : decode cX12_shares 55 = .ok (.iload 5, 2) := by decide +kernel
theorem dX12_shares_57 : decode cX12_shares 57 = .ok (.invokevirtual 294, 3) := by decide +kernel
theorem dX12_shares_60 : decode cX12_shares 60 = .ok (.ifCond .ne 6, 3) := by decide +kernel
theorem dX12_shares_63 : decode cX12_shares 63 = .ok (.goto 44, 3) := by decide +kernel
theorem dX12_shares_66 : decode cX12_shares 66 = .ok (.aload_n 0, 1) := by decide +kernel
theorem dX12_shares_67 : decode cX12_shares 67 = .ok (.getfield 62, 3) := by decide +kernel
theorem dX12_shares_70 : decode cX12_shares 70 = .ok (.bipush 67, 2) := by decide +kernel
theorem dX12_shares_72 : decode cX12_shares 72 = .ok (.iload 5, 2) := by decide +kernel
theorem dX12_shares_74 : decode cX12_shares 74 = .ok (.iadd, 1) := by decide +kernel
theorem dX12_shares_75 : decode cX12_shares 75 = .ok (.iaload, 1) := by decide +kernel
theorem dX12_shares_76 : decode cX12_shares 76 = .ok (.iload_n 3, 1) := by decide +kernel
theorem dX12_shares_77 : decode cX12_shares 77 = .ok (.aload_n 0, 1) := by decide +kernel
theorem dX12_shares_78 : decode cX12_shares 78 = .ok (.iload_n 1, 1) := by decide +kernel
theorem dX12_shares_79 : decode cX12_shares 79 = .ok (.iload 5, 2) := by decide +kernel
theorem dX12_shares_81 : decode cX12_shares 81 = .ok (.invokevirtual 294, 3) := by decide +kernel
theorem dX12_shares_84 : decode cX12_shares 84 = .ok (.imul, 1) := by decide +kernel
theorem dX12_shares_85 : decode cX12_shares 85 = .ok (.iload 4, 2) := by decide +kernel
theorem dX12_shares_87 : decode cX12_shares 87 = .ok (.idiv, 1) := by decide +kernel
theorem dX12_shares_88 : decode cX12_shares 88 = .ok (.invokestatic 164, 3) := by decide +kernel
theorem dX12_shares_91 : decode cX12_shares 91 = .ok (.istore 6, 2) := by decide +kernel
theorem dX12_shares_93 : decode cX12_shares 93 = .ok (.aload_n 0, 1) := by decide +kernel
theorem dX12_shares_94 : decode cX12_shares 94 = .ok (.iload_n 1, 1) := by decide +kernel
theorem dX12_shares_95 : decode cX12_shares 95 = .ok (.iload 5, 2) := by decide +kernel
theorem dX12_shares_97 : decode cX12_shares 97 = .ok (.iload 6, 2) := by decide +kernel
theorem dX12_shares_99 : decode cX12_shares 99 = .ok (.invokevirtual 303, 3) := by decide +kernel
theorem dX12_shares_102 : decode cX12_shares 102 = .ok (.iload_n 2, 1) := by decide +kernel
theorem dX12_shares_103 : decode cX12_shares 103 = .ok (.iload 6, 2) := by decide +kernel
theorem dX12_shares_105 : decode cX12_shares 105 = .ok (.isub, 1) := by decide +kernel
theorem dX12_shares_106 : decode cX12_shares 106 = .ok (.istore_n 2, 1) := by decide +kernel
theorem dX12_shares_107 : decode cX12_shares 107 = .ok (.iinc 5 1, 3) := by decide +kernel
theorem dX12_shares_110 : decode cX12_shares 110 = .ok (.goto (-66), 3) := by decide +kernel
theorem dX12_shares_113 : decode cX12_shares 113 = .ok (.iconst 0, 1) := by decide +kernel
theorem dX12_shares_114 : decode cX12_shares 114 = .ok (.istore 5, 2) := by decide +kernel
theorem dX12_shares_116 : decode cX12_shares 116 = .ok (.iload 5, 2) := by decide +kernel
theorem dX12_shares_118 : decode cX12_shares 118 = .ok (.bipush 6, 2) := by decide +kernel
theorem dX12_shares_120 : decode cX12_shares 120 = .ok (.if_icmp .ge 17, 3) := by decide +kernel
theorem dX12_shares_123 : decode cX12_shares 123 = .ok (.aload_n 0, 1) := by decide +kernel
theorem dX12_shares_124 : decode cX12_shares 124 = .ok (.getfield 84, 3) := by decide +kernel
theorem dX12_shares_127 : decode cX12_shares 127 = .ok (.iload 5, 2) := by decide +kernel
theorem dX12_shares_129 : decode cX12_shares 129 = .ok (.iconst 0, 1) := by decide +kernel
theorem dX12_shares_130 : decode cX12_shares 130 = .ok (.bastore, 1) := by decide +kernel
theorem dX12_shares_131 : decode cX12_shares 131 = .ok (.iinc 5 1, 3) := by decide +kernel
theorem dX12_shares_134 : decode cX12_shares 134 = .ok (.goto (-18), 3) := by decide +kernel
theorem dX12_shares_137 : decode cX12_shares 137 = .ok (.iload_n 2, 1) := by decide +kernel
theorem dX12_shares_138 : decode cX12_shares 138 = .ok (.ifCond .le 73, 3) := by decide +kernel
theorem dX12_shares_141 : decode cX12_shares 141 = .ok (.aload_n 0, 1) := by decide +kernel
theorem dX12_shares_142 : decode cX12_shares 142 = .ok (.iload_n 1, 1) := by decide +kernel
theorem dX12_shares_143 : decode cX12_shares 143 = .ok (.invokevirtual 309, 3) := by decide +kernel
theorem dX12_shares_146 : decode cX12_shares 146 = .ok (.istore 5, 2) := by decide +kernel
theorem dX12_shares_148 : decode cX12_shares 148 = .ok (.iload 5, 2) := by decide +kernel
theorem dX12_shares_150 : decode cX12_shares 150 = .ok (.iconst (-1), 1) := by decide +kernel
theorem dX12_shares_151 : decode cX12_shares 151 = .ok (.if_icmp .ne 30, 3) := by decide +kernel
theorem dX12_shares_154 : decode cX12_shares 154 = .ok (.iconst 0, 1) := by decide +kernel
theorem dX12_shares_155 : decode cX12_shares 155 = .ok (.istore 6, 2) := by decide +kernel
theorem dX12_shares_157 : decode cX12_shares 157 = .ok (.iload 6, 2) := by decide +kernel
theorem dX12_shares_159 : decode cX12_shares 159 = .ok (.bipush 6, 2) := by decide +kernel
theorem dX12_shares_161 : decode cX12_shares 161 = .ok (.if_icmp .ge 17, 3) := by decide +kernel
theorem dX12_shares_164 : decode cX12_shares 164 = .ok (.aload_n 0, 1) := by decide +kernel
theorem dX12_shares_165 : decode cX12_shares 165 = .ok (.getfield 84, 3) := by decide +kernel
theorem dX12_shares_168 : decode cX12_shares 168 = .ok (.iload 6, 2) := by decide +kernel
theorem dX12_shares_170 : decode cX12_shares 170 = .ok (.iconst 0, 1) := by decide +kernel
theorem dX12_shares_171 : decode cX12_shares 171 = .ok (.bastore, 1) := by decide +kernel
theorem dX12_shares_172 : decode cX12_shares 172 = .ok (.iinc 6 1, 3) := by decide +kernel
theorem dX12_shares_175 : decode cX12_shares 175 = .ok (.goto (-18), 3) := by decide +kernel
theorem dX12_shares_178 : decode cX12_shares 178 = .ok (.goto (-41), 3) := by decide +kernel
theorem dX12_shares_181 : decode cX12_shares 181 = .ok (.aload_n 0, 1) := by decide +kernel
theorem dX12_shares_182 : decode cX12_shares 182 = .ok (.getfield 84, 3) := by decide +kernel
theorem dX12_shares_185 : decode cX12_shares 185 = .ok (.iload 5, 2) := by decide +kernel
theorem dX12_shares_187 : decode cX12_shares 187 = .ok (.iconst 1, 1) := by decide +kernel
theorem dX12_shares_188 : decode cX12_shares 188 = .ok (.bastore, 1) := by decide +kernel
theorem dX12_shares_189 : decode cX12_shares 189 = .ok (.aload_n 0, 1) := by decide +kernel
theorem dX12_shares_190 : decode cX12_shares 190 = .ok (.iload_n 1, 1) := by decide +kernel
theorem dX12_shares_191 : decode cX12_shares 191 = .ok (.iload 5, 2) := by decide +kernel
theorem dX12_shares_193 : decode cX12_shares 193 = .ok (.aload_n 0, 1) := by decide +kernel
theorem dX12_shares_194 : decode cX12_shares 194 = .ok (.iload_n 1, 1) := by decide +kernel
theorem dX12_shares_195 : decode cX12_shares 195 = .ok (.iload 5, 2) := by decide +kernel
theorem dX12_shares_197 : decode cX12_shares 197 = .ok (.invokevirtual 300, 3) := by decide +kernel
theorem dX12_shares_200 : decode cX12_shares 200 = .ok (.iconst 1, 1) := by decide +kernel
theorem dX12_shares_201 : decode cX12_shares 201 = .ok (.iadd, 1) := by decide +kernel
theorem dX12_shares_202 : decode cX12_shares 202 = .ok (.invokevirtual 303, 3) := by decide +kernel
theorem dX12_shares_205 : decode cX12_shares 205 = .ok (.iinc 2 (-1), 3) := by decide +kernel
theorem dX12_shares_208 : decode cX12_shares 208 = .ok (.goto (-71), 3) := by decide +kernel
theorem dX12_shares_211 : decode cX12_shares 211 = .ok (.return_, 1) := by decide +kernel
theorem dX12_mostWanted_0 : decode cX12_mostWanted 0 = .ok (.iconst 0, 1) := by decide +kernel
theorem dX12_mostWanted_1 : decode cX12_mostWanted 1 = .ok (.istore_n 2, 1) := by decide +kernel
theorem dX12_mostWanted_2 : decode cX12_mostWanted 2 = .ok (.iconst 0, 1) := by decide +kernel
theorem dX12_mostWanted_3 : decode cX12_mostWanted 3 = .ok (.istore_n 3, 1) := by decide +kernel
theorem dX12_mostWanted_4 : decode cX12_mostWanted 4 = .ok (.iload_n 3, 1) := by decide +kernel
theorem dX12_mostWanted_5 : decode cX12_mostWanted 5 = .ok (.aload_n 0, 1) := by decide +kernel
theorem dX12_mostWanted_6 : decode cX12_mostWanted 6 = .ok (.invokevirtual 312, 3) := by decide +kernel
theorem dX12_mostWanted_9 : decode cX12_mostWanted 9 = .ok (.if_icmp .ge 33, 3) := by decide +kernel
theorem dX12_mostWanted_12 : decode cX12_mostWanted 12 = .ok (.aload_n 0, 1) := by decide +kernel
theorem dX12_mostWanted_13 : decode cX12_mostWanted 13 = .ok (.iload_n 3, 1) := by decide +kernel
theorem dX12_mostWanted_14 : decode cX12_mostWanted 14 = .ok (.iload_n 1, 1) := by decide +kernel
theorem dX12_mostWanted_15 : decode cX12_mostWanted 15 = .ok (.invokevirtual 294, 3) := by decide +kernel
theorem dX12_mostWanted_18 : decode cX12_mostWanted 18 = .ok (.ifCond .le 16, 3) := by decide +kernel
theorem dX12_mostWanted_21 : decode cX12_mostWanted 21 = .ok (.iload_n 2, 1) := by decide +kernel
theorem dX12_mostWanted_22 : decode cX12_mostWanted 22 = .ok (.aload_n 0, 1) := by decide +kernel
theorem dX12_mostWanted_23 : decode cX12_mostWanted 23 = .ok (.iload_n 3, 1) := by decide +kernel
theorem dX12_mostWanted_24 : decode cX12_mostWanted 24 = .ok (.iload_n 1, 1) := by decide +kernel
theorem dX12_mostWanted_25 : decode cX12_mostWanted 25 = .ok (.invokevirtual 300, 3) := by decide +kernel
theorem dX12_mostWanted_28 : decode cX12_mostWanted 28 = .ok (.invokestatic 297, 3) := by decide +kernel
theorem dX12_mostWanted_31 : decode cX12_mostWanted 31 = .ok (.goto 4, 3) := by decide +kernel
theorem dX12_mostWanted_34 : decode cX12_mostWanted 34 = .ok (.iload_n 2, 1) := by decide +kernel
theorem dX12_mostWanted_35 : decode cX12_mostWanted 35 = .ok (.istore_n 2, 1) := by decide +kernel
theorem dX12_mostWanted_36 : decode cX12_mostWanted 36 = .ok (.iinc 3 1, 3) := by decide +kernel
theorem dX12_mostWanted_39 : decode cX12_mostWanted 39 = .ok (.goto (-35), 3) := by decide +kernel
theorem dX12_mostWanted_42 : decode cX12_mostWanted 42 = .ok (.iload_n 2, 1) := by decide +kernel
theorem dX12_mostWanted_43 : decode cX12_mostWanted 43 = .ok (.ireturn, 1) := by decide +kernel
theorem dX12_moves_0 : decode cX12_moves 0 = .ok (.aload_n 0, 1) := by decide +kernel
theorem dX12_moves_1 : decode cX12_moves 1 = .ok (.getfield 58, 3) := by decide +kernel
theorem dX12_moves_4 : decode cX12_moves 4 = .ok (.bipush 76, 2) := by decide +kernel
theorem dX12_moves_6 : decode cX12_moves 6 = .ok (.iload_n 1, 1) := by decide +kernel
theorem dX12_moves_7 : decode cX12_moves 7 = .ok (.iadd, 1) := by decide +kernel
theorem dX12_moves_8 : decode cX12_moves 8 = .ok (.iaload, 1) := by decide +kernel
theorem dX12_moves_9 : decode cX12_moves 9 = .ok (.iconst (-1), 1) := by decide +kernel
theorem dX12_moves_10 : decode cX12_moves 10 = .ok (.if_icmp .eq 15, 3) := by decide +kernel
theorem dX12_moves_13 : decode cX12_moves 13 = .ok (.aload_n 0, 1) := by decide +kernel
theorem dX12_moves_14 : decode cX12_moves 14 = .ok (.getfield 58, 3) := by decide +kernel
theorem dX12_moves_17 : decode cX12_moves 17 = .ok (.bipush 76, 2) := by decide +kernel
theorem dX12_moves_19 : decode cX12_moves 19 = .ok (.iload_n 1, 1) := by decide +kernel
theorem dX12_moves_20 : decode cX12_moves 20 = .ok (.iadd, 1) := by decide +kernel
theorem dX12_moves_21 : decode cX12_moves 21 = .ok (.iaload, 1) := by decide +kernel
theorem dX12_moves_22 : decode cX12_moves 22 = .ok (.goto 8, 3) := by decide +kernel
theorem dX12_moves_25 : decode cX12_moves 25 = .ok (.aload_n 0, 1) := by decide +kernel
theorem dX12_moves_26 : decode cX12_moves 26 = .ok (.iload_n 1, 1) := by decide +kernel
theorem dX12_moves_27 : decode cX12_moves 27 = .ok (.invokevirtual 315, 3) := by decide +kernel
theorem dX12_moves_30 : decode cX12_moves 30 = .ok (.istore_n 2, 1) := by decide +kernel
theorem dX12_moves_31 : decode cX12_moves 31 = .ok (.aload_n 0, 1) := by decide +kernel
theorem dX12_moves_32 : decode cX12_moves 32 = .ok (.getfield 58, 3) := by decide +kernel
theorem dX12_moves_35 : decode cX12_moves 35 = .ok (.bipush 70, 2) := by decide +kernel
theorem dX12_moves_37 : decode cX12_moves 37 = .ok (.iload_n 1, 1) := by decide +kernel
theorem dX12_moves_38 : decode cX12_moves 38 = .ok (.iadd, 1) := by decide +kernel
theorem dX12_moves_39 : decode cX12_moves 39 = .ok (.iaload, 1) := by decide +kernel
theorem dX12_moves_40 : decode cX12_moves 40 = .ok (.istore_n 3, 1) := by decide +kernel
theorem dX12_moves_41 : decode cX12_moves 41 = .ok (.aload_n 0, 1) := by decide +kernel
theorem dX12_moves_42 : decode cX12_moves 42 = .ok (.getfield 62, 3) := by decide +kernel
theorem dX12_moves_45 : decode cX12_moves 45 = .ok (.bipush 55, 2) := by decide +kernel
theorem dX12_moves_47 : decode cX12_moves 47 = .ok (.iload_n 1, 1) := by decide +kernel
theorem dX12_moves_48 : decode cX12_moves 48 = .ok (.iadd, 1) := by decide +kernel
theorem dX12_moves_49 : decode cX12_moves 49 = .ok (.iaload, 1) := by decide +kernel
theorem dX12_moves_50 : decode cX12_moves 50 = .ok (.iconst 1, 1) := by decide +kernel
theorem dX12_moves_51 : decode cX12_moves 51 = .ok (.if_icmp .eq 21, 3) := by decide +kernel
theorem dX12_moves_54 : decode cX12_moves 54 = .ok (.aload_n 0, 1) := by decide +kernel
theorem dX12_moves_55 : decode cX12_moves 55 = .ok (.getfield 62, 3) := by decide +kernel
theorem dX12_moves_58 : decode cX12_moves 58 = .ok (.bipush 55, 2) := by decide +kernel
theorem dX12_moves_60 : decode cX12_moves 60 = .ok (.iload_n 1, 1) := by decide +kernel
theorem dX12_moves_61 : decode cX12_moves 61 = .ok (.iadd, 1) := by decide +kernel
theorem dX12_moves_62 : decode cX12_moves 62 = .ok (.iaload, 1) := by decide +kernel
theorem dX12_moves_63 : decode cX12_moves 63 = .ok (.iconst 2, 1) := by decide +kernel
theorem dX12_moves_64 : decode cX12_moves 64 = .ok (.if_icmp .ne 12, 3) := by decide +kernel
theorem dX12_moves_67 : decode cX12_moves 67 = .ok (.iload_n 2, 1) := by decide +kernel
theorem dX12_moves_68 : decode cX12_moves 68 = .ok (.iload_n 3, 1) := by decide +kernel
theorem dX12_moves_69 : decode cX12_moves 69 = .ok (.if_icmp .le 7, 3) := by decide +kernel
theorem dX12_moves_72 : decode cX12_moves 72 = .ok (.iconst 1, 1) := by decide +kernel
theorem dX12_moves_73 : decode cX12_moves 73 = .ok (.goto 4, 3) := by decide +kernel
theorem dX12_moves_76 : decode cX12_moves 76 = .ok (.iconst 0, 1) := by decide +kernel
theorem dX12_moves_77 : decode cX12_moves 77 = .ok (.istore 4, 2) := by decide +kernel
theorem dX12_moves_79 : decode cX12_moves 79 = .ok (.aload_n 0, 1) := by decide +kernel
theorem dX12_moves_80 : decode cX12_moves 80 = .ok (.getfield 58, 3) := by decide +kernel
theorem dX12_moves_83 : decode cX12_moves 83 = .ok (.bipush 70, 2) := by decide +kernel
theorem dX12_moves_85 : decode cX12_moves 85 = .ok (.iload_n 1, 1) := by decide +kernel
theorem dX12_moves_86 : decode cX12_moves 86 = .ok (.iadd, 1) := by decide +kernel
theorem dX12_moves_87 : decode cX12_moves 87 = .ok (.iload 4, 2) := by decide +kernel
theorem dX12_moves_89 : decode cX12_moves 89 = .ok (.ifCond .eq 7, 3) := by decide +kernel
theorem dX12_moves_92 : decode cX12_moves 92 = .ok (.iload_n 2, 1) := by decide +kernel
theorem dX12_moves_93 : decode cX12_moves 93 = .ok (.goto 26, 3) := by decide +kernel
theorem dX12_moves_96 : decode cX12_moves 96 = .ok (.iload_n 2, 1) := by decide +kernel
theorem dX12_moves_97 : decode cX12_moves 97 = .ok (.iload_n 3, 1) := by decide +kernel
theorem dX12_moves_98 : decode cX12_moves 98 = .ok (.if_icmp .le 9, 3) := by decide +kernel
theorem dX12_moves_101 : decode cX12_moves 101 = .ok (.iload_n 3, 1) := by decide +kernel
theorem dX12_moves_102 : decode cX12_moves 102 = .ok (.iconst 1, 1) := by decide +kernel
theorem dX12_moves_103 : decode cX12_moves 103 = .ok (.iadd, 1) := by decide +kernel
theorem dX12_moves_104 : decode cX12_moves 104 = .ok (.goto 15, 3) := by decide +kernel
theorem dX12_moves_107 : decode cX12_moves 107 = .ok (.iload_n 2, 1) := by decide +kernel
theorem dX12_moves_108 : decode cX12_moves 108 = .ok (.iload_n 3, 1) := by decide +kernel
theorem dX12_moves_109 : decode cX12_moves 109 = .ok (.if_icmp .ge 9, 3) := by decide +kernel
theorem dX12_moves_112 : decode cX12_moves 112 = .ok (.iload_n 3, 1) := by decide +kernel
theorem dX12_moves_113 : decode cX12_moves 113 = .ok (.iconst 1, 1) := by decide +kernel
theorem dX12_moves_114 : decode cX12_moves 114 = .ok (.isub, 1) := by decide +kernel
theorem dX12_moves_115 : decode cX12_moves 115 = .ok (.goto 4, 3) := by decide +kernel
theorem dX12_moves_118 : decode cX12_moves 118 = .ok (.iload_n 3, 1) := by decide +kernel
theorem dX12_moves_119 : decode cX12_moves 119 = .ok (.iastore, 1) := by decide +kernel
theorem dX12_moves_120 : decode cX12_moves 120 = .ok (.return_, 1) := by decide +kernel
theorem dX12_isSpent_0 : decode cX12_isSpent 0 = .ok (.iconst 1, 1) := by decide +kernel
theorem dX12_isSpent_1 : decode cX12_isSpent 1 = .ok (.istore_n 2, 1) := by decide +kernel
theorem dX12_isSpent_2 : decode cX12_isSpent 2 = .ok (.iconst 0, 1) := by decide +kernel
theorem dX12_isSpent_3 : decode cX12_isSpent 3 = .ok (.istore_n 3, 1) := by decide +kernel
theorem dX12_isSpent_4 : decode cX12_isSpent 4 = .ok (.iload_n 3, 1) := by decide +kernel
theorem dX12_isSpent_5 : decode cX12_isSpent 5 = .ok (.aload_n 0, 1) := by decide +kernel
theorem dX12_isSpent_6 : decode cX12_isSpent 6 = .ok (.invokevirtual 263, 3) := by decide +kernel
theorem dX12_isSpent_9 : decode cX12_isSpent 9 = .ok (.if_icmp .ge 53, 3) := by decide +kernel
theorem dX12_isSpent_12 : decode cX12_isSpent 12 = .ok (.iload_n 2, 1) := by decide +kernel
theorem dX12_isSpent_13 : decode cX12_isSpent 13 = .ok (.ifCond .eq 41, 3) := by decide +kernel
theorem dX12_isSpent_16 : decode cX12_isSpent 16 = .ok (.aload_n 0, 1) := by decide +kernel
theorem dX12_isSpent_17 : decode cX12_isSpent 17 = .ok (.getfield 62, 3) := by decide +kernel
theorem dX12_isSpent_20 : decode cX12_isSpent 20 = .ok (.bipush 61, 2) := by decide +kernel
theorem dX12_isSpent_22 : decode cX12_isSpent 22 = .ok (.iload_n 3, 1) := by decide +kernel
theorem dX12_isSpent_23 : decode cX12_isSpent 23 = .ok (.iadd, 1) := by decide +kernel
theorem dX12_isSpent_24 : decode cX12_isSpent 24 = .ok (.iaload, 1) := by decide +kernel
theorem dX12_isSpent_25 : decode cX12_isSpent 25 = .ok (.iload_n 1, 1) := by decide +kernel
theorem dX12_isSpent_26 : decode cX12_isSpent 26 = .ok (.if_icmp .ne 24, 3) := by decide +kernel
theorem dX12_isSpent_29 : decode cX12_isSpent 29 = .ok (.aload_n 0, 1) := by decide +kernel
theorem dX12_isSpent_30 : decode cX12_isSpent 30 = .ok (.getfield 58, 3) := by decide +kernel
theorem dX12_isSpent_33 : decode cX12_isSpent 33 = .ok (.bipush 70, 2) := by decide +kernel
theorem dX12_isSpent_35 : decode cX12_isSpent 35 = .ok (.iload_n 3, 1) := by decide +kernel
theorem dX12_isSpent_36 : decode cX12_isSpent 36 = .ok (.iadd, 1) := by decide +kernel
theorem dX12_isSpent_37 : decode cX12_isSpent 37 = .ok (.iaload, 1) := by decide +kernel
theorem dX12_isSpent_38 : decode cX12_isSpent 38 = .ok (.aload_n 0, 1) := by decide +kernel
theorem dX12_isSpent_39 : decode cX12_isSpent 39 = .ok (.getfield 62, 3) := by decide +kernel
theorem dX12_isSpent_42 : decode cX12_isSpent 42 = .ok (.bipush 67, 2) := by decide +kernel
theorem dX12_isSpent_44 : decode cX12_isSpent 44 = .ok (.iload_n 3, 1) := by decide +kernel
theorem dX12_isSpent_45 : decode cX12_isSpent 45 = .ok (.iadd, 1) := by decide +kernel
theorem dX12_isSpent_46 : decode cX12_isSpent 46 = .ok (.iaload, 1) := by decide +kernel
theorem dX12_isSpent_47 : decode cX12_isSpent 47 = .ok (.if_icmp .ne 7, 3) := by decide +kernel
theorem dX12_isSpent_50 : decode cX12_isSpent 50 = .ok (.iconst 1, 1) := by decide +kernel
theorem dX12_isSpent_51 : decode cX12_isSpent 51 = .ok (.goto 4, 3) := by decide +kernel
theorem dX12_isSpent_54 : decode cX12_isSpent 54 = .ok (.iconst 0, 1) := by decide +kernel
theorem dX12_isSpent_55 : decode cX12_isSpent 55 = .ok (.istore_n 2, 1) := by decide +kernel
theorem dX12_isSpent_56 : decode cX12_isSpent 56 = .ok (.iinc 3 1, 3) := by decide +kernel
theorem dX12_isSpent_59 : decode cX12_isSpent 59 = .ok (.goto (-55), 3) := by decide +kernel
theorem dX12_isSpent_62 : decode cX12_isSpent 62 = .ok (.iload_n 2, 1) := by decide +kernel
theorem dX12_isSpent_63 : decode cX12_isSpent 63 = .ok (.ireturn, 1) := by decide +kernel
theorem dX12_shuts_0 : decode cX12_shuts 0 = .ok (.aload_n 0, 1) := by decide +kernel
theorem dX12_shuts_1 : decode cX12_shuts 1 = .ok (.iload_n 1, 1) := by decide +kernel
theorem dX12_shuts_2 : decode cX12_shuts 2 = .ok (.invokevirtual 287, 3) := by decide +kernel
theorem dX12_shuts_5 : decode cX12_shuts 5 = .ok (.istore_n 2, 1) := by decide +kernel
theorem dX12_shuts_6 : decode cX12_shuts 6 = .ok (.aload_n 0, 1) := by decide +kernel
theorem dX12_shuts_7 : decode cX12_shuts 7 = .ok (.getfield 62, 3) := by decide +kernel
theorem dX12_shuts_10 : decode cX12_shuts 10 = .ok (.bipush 25, 2) := by decide +kernel
theorem dX12_shuts_12 : decode cX12_shuts 12 = .ok (.iload_n 1, 1) := by decide +kernel
theorem dX12_shuts_13 : decode cX12_shuts 13 = .ok (.iadd, 1) := by decide +kernel
theorem dX12_shuts_14 : decode cX12_shuts 14 = .ok (.iaload, 1) := by decide +kernel
theorem dX12_shuts_15 : decode cX12_shuts 15 = .ok (.iconst 3, 1) := by decide +kernel
theorem dX12_shuts_16 : decode cX12_shuts 16 = .ok (.if_icmp .ne 16, 3) := by decide +kernel
theorem dX12_shuts_19 : decode cX12_shuts 19 = .ok (.aload_n 0, 1) := by decide +kernel
theorem dX12_shuts_20 : decode cX12_shuts 20 = .ok (.getfield 58, 3) := by decide +kernel
theorem dX12_shuts_23 : decode cX12_shuts 23 = .ok (.bipush 10, 2) := by decide +kernel
theorem dX12_shuts_25 : decode cX12_shuts 25 = .ok (.iload_n 2, 1) := by decide +kernel
theorem dX12_shuts_26 : decode cX12_shuts 26 = .ok (.iadd, 1) := by decide +kernel
theorem dX12_shuts_27 : decode cX12_shuts 27 = .ok (.iaload, 1) := by decide +kernel
theorem dX12_shuts_28 : decode cX12_shuts 28 = .ok (.iconst 1, 1) := by decide +kernel
theorem dX12_shuts_29 : decode cX12_shuts 29 = .ok (.if_icmp .ne 4, 3) := by decide +kernel
theorem dX12_shuts_32 : decode cX12_shuts 32 = .ok (.return_, 1) := by decide +kernel
theorem dX12_shuts_33 : decode cX12_shuts 33 = .ok (.aload_n 0, 1) := by decide +kernel
theorem dX12_shuts_34 : decode cX12_shuts 34 = .ok (.getfield 58, 3) := by decide +kernel
theorem dX12_shuts_37 : decode cX12_shuts 37 = .ok (.sipush 143, 3) := by decide +kernel
theorem dX12_shuts_40 : decode cX12_shuts 40 = .ok (.iaload, 1) := by decide +kernel
theorem dX12_shuts_41 : decode cX12_shuts 41 = .ok (.ifCond .le 67, 3) := by decide +kernel
theorem dX12_shuts_44 : decode cX12_shuts 44 = .ok (.aload_n 0, 1) := by decide +kernel
theorem dX12_shuts_45 : decode cX12_shuts 45 = .ok (.getfield 58, 3) := by decide +kernel
theorem dX12_shuts_48 : decode cX12_shuts 48 = .ok (.bipush 25, 2) := by decide +kernel
theorem dX12_shuts_50 : decode cX12_shuts 50 = .ok (.iload_n 2, 1) := by decide +kernel
theorem dX12_shuts_51 : decode cX12_shuts 51 = .ok (.iadd, 1) := by decide +kernel
theorem dX12_shuts_52 : decode cX12_shuts 52 = .ok (.iaload, 1) := by decide +kernel
theorem dX12_shuts_53 : decode cX12_shuts 53 = .ok (.ifCond .le 55, 3) := by decide +kernel
theorem dX12_shuts_56 : decode cX12_shuts 56 = .ok (.aload_n 0, 1) := by decide +kernel
theorem dX12_shuts_57 : decode cX12_shuts 57 = .ok (.iload_n 2, 1) := by decide +kernel
theorem dX12_shuts_58 : decode cX12_shuts 58 = .ok (.invokevirtual 318, 3) := by decide +kernel
theorem dX12_shuts_61 : decode cX12_shuts 61 = .ok (.ifCond .eq 47, 3) := by decide +kernel
theorem dX12_shuts_64 : decode cX12_shuts 64 = .ok (.aload_n 0, 1) := by decide +kernel
theorem dX12_shuts_65 : decode cX12_shuts 65 = .ok (.getfield 58, 3) := by decide +kernel
theorem dX12_shuts_68 : decode cX12_shuts 68 = .ok (.bipush 20, 2) := by decide +kernel
theorem dX12_shuts_70 : decode cX12_shuts 70 = .ok (.iload_n 2, 1) := by decide +kernel
theorem dX12_shuts_71 : decode cX12_shuts 71 = .ok (.iadd, 1) := by decide +kernel
theorem dX12_shuts_72 : decode cX12_shuts 72 = .ok (.iaload, 1) := by decide +kernel
theorem dX12_shuts_73 : decode cX12_shuts 73 = .ok (.aload_n 0, 1) := by decide +kernel
theorem dX12_shuts_74 : decode cX12_shuts 74 = .ok (.getfield 58, 3) := by decide +kernel
theorem dX12_shuts_77 : decode cX12_shuts 77 = .ok (.bipush 25, 2) := by decide +kernel
theorem dX12_shuts_79 : decode cX12_shuts 79 = .ok (.iload_n 2, 1) := by decide +kernel
theorem dX12_shuts_80 : decode cX12_shuts 80 = .ok (.iadd, 1) := by decide +kernel
theorem dX12_shuts_81 : decode cX12_shuts 81 = .ok (.iaload, 1) := by decide +kernel
theorem dX12_shuts_82 : decode cX12_shuts 82 = .ok (.aload_n 0, 1) := by decide +kernel
theorem dX12_shuts_83 : decode cX12_shuts 83 = .ok (.getfield 58, 3) := by decide +kernel
theorem dX12_shuts_86 : decode cX12_shuts 86 = .ok (.sipush 143, 3) := by decide +kernel
theorem dX12_shuts_89 : decode cX12_shuts 89 = .ok (.iaload, 1) := by decide +kernel
theorem dX12_shuts_90 : decode cX12_shuts 90 = .ok (.imul, 1) := by decide +kernel
theorem dX12_shuts_91 : decode cX12_shuts 91 = .ok (.iadd, 1) := by decide +kernel
theorem dX12_shuts_92 : decode cX12_shuts 92 = .ok (.aload_n 0, 1) := by decide +kernel
theorem dX12_shuts_93 : decode cX12_shuts 93 = .ok (.getfield 62, 3) := by decide +kernel
theorem dX12_shuts_96 : decode cX12_shuts 96 = .ok (.bipush 35, 2) := by decide +kernel
theorem dX12_shuts_98 : decode cX12_shuts 98 = .ok (.iload_n 1, 1) := by decide +kernel
theorem dX12_shuts_99 : decode cX12_shuts 99 = .ok (.iadd, 1) := by decide +kernel
theorem dX12_shuts_100 : decode cX12_shuts 100 = .ok (.iaload, 1) := by decide +kernel
theorem dX12_shuts_101 : decode cX12_shuts 101 = .ok (.if_icmp .lt 7, 3) := by decide +kernel
theorem dX12_shuts_104 : decode cX12_shuts 104 = .ok (.iconst 1, 1) := by decide +kernel
theorem dX12_shuts_105 : decode cX12_shuts 105 = .ok (.goto 4, 3) := by decide +kernel
theorem dX12_shuts_108 : decode cX12_shuts 108 = .ok (.iconst 0, 1) := by decide +kernel
theorem dX12_shuts_109 : decode cX12_shuts 109 = .ok (.istore_n 3, 1) := by decide +kernel
theorem dX12_shuts_110 : decode cX12_shuts 110 = .ok (.aload_n 0, 1) := by decide +kernel
theorem dX12_shuts_111 : decode cX12_shuts 111 = .ok (.getfield 58, 3) := by decide +kernel
theorem dX12_shuts_114 : decode cX12_shuts 114 = .ok (.bipush 50, 2) := by decide +kernel
theorem dX12_shuts_116 : decode cX12_shuts 116 = .ok (.iload_n 1, 1) := by decide +kernel
theorem dX12_shuts_117 : decode cX12_shuts 117 = .ok (.iadd, 1) := by decide +kernel
theorem dX12_shuts_118 : decode cX12_shuts 118 = .ok (.iaload, 1) := by decide +kernel
theorem dX12_shuts_119 : decode cX12_shuts 119 = .ok (.ifCond .ne 8, 3) := by decide +kernel
theorem dX12_shuts_122 : decode cX12_shuts 122 = .ok (.iload_n 3, 1) := by decide +kernel
theorem dX12_shuts_123 : decode cX12_shuts 123 = .ok (.ifCond .ne 4, 3) := by decide +kernel
theorem dX12_shuts_126 : decode cX12_shuts 126 = .ok (.return_, 1) := by decide +kernel
theorem dX12_shuts_127 : decode cX12_shuts 127 = .ok (.aload_n 0, 1) := by decide +kernel
theorem dX12_shuts_128 : decode cX12_shuts 128 = .ok (.getfield 58, 3) := by decide +kernel
theorem dX12_shuts_131 : decode cX12_shuts 131 = .ok (.bipush 10, 2) := by decide +kernel
theorem dX12_shuts_133 : decode cX12_shuts 133 = .ok (.iload_n 2, 1) := by decide +kernel
theorem dX12_shuts_134 : decode cX12_shuts 134 = .ok (.iadd, 1) := by decide +kernel
theorem dX12_shuts_135 : decode cX12_shuts 135 = .ok (.iconst 1, 1) := by decide +kernel
theorem dX12_shuts_136 : decode cX12_shuts 136 = .ok (.iastore, 1) := by decide +kernel
theorem dX12_shuts_137 : decode cX12_shuts 137 = .ok (.aload_n 0, 1) := by decide +kernel
theorem dX12_shuts_138 : decode cX12_shuts 138 = .ok (.getfield 58, 3) := by decide +kernel
theorem dX12_shuts_141 : decode cX12_shuts 141 = .ok (.bipush 15, 2) := by decide +kernel
theorem dX12_shuts_143 : decode cX12_shuts 143 = .ok (.iload_n 2, 1) := by decide +kernel
theorem dX12_shuts_144 : decode cX12_shuts 144 = .ok (.iadd, 1) := by decide +kernel
theorem dX12_shuts_145 : decode cX12_shuts 145 = .ok (.aload_n 0, 1) := by decide +kernel
theorem dX12_shuts_146 : decode cX12_shuts 146 = .ok (.getfield 58, 3) := by decide +kernel
theorem dX12_shuts_149 : decode cX12_shuts 149 = .ok (.bipush 50, 2) := by decide +kernel
theorem dX12_shuts_151 : decode cX12_shuts 151 = .ok (.iload_n 1, 1) := by decide +kernel
theorem dX12_shuts_152 : decode cX12_shuts 152 = .ok (.iadd, 1) := by decide +kernel
theorem dX12_shuts_153 : decode cX12_shuts 153 = .ok (.iaload, 1) := by decide +kernel
theorem dX12_shuts_154 : decode cX12_shuts 154 = .ok (.iconst 1, 1) := by decide +kernel
theorem dX12_shuts_155 : decode cX12_shuts 155 = .ok (.if_icmp .ne 7, 3) := by decide +kernel
theorem dX12_shuts_158 : decode cX12_shuts 158 = .ok (.iconst 1, 1) := by decide +kernel
theorem dX12_shuts_159 : decode cX12_shuts 159 = .ok (.goto 4, 3) := by decide +kernel
theorem dX12_shuts_162 : decode cX12_shuts 162 = .ok (.iconst 2, 1) := by decide +kernel
theorem dX12_shuts_163 : decode cX12_shuts 163 = .ok (.iastore, 1) := by decide +kernel
theorem dX12_shuts_164 : decode cX12_shuts 164 = .ok (.aload_n 0, 1) := by decide +kernel
theorem dX12_shuts_165 : decode cX12_shuts 165 = .ok (.aload_n 0, 1) := by decide +kernel
theorem dX12_shuts_166 : decode cX12_shuts 166 = .ok (.getfield 58, 3) := by decide +kernel
theorem dX12_shuts_169 : decode cX12_shuts 169 = .ok (.bipush 50, 2) := by decide +kernel
theorem dX12_shuts_171 : decode cX12_shuts 171 = .ok (.iload_n 1, 1) := by decide +kernel
theorem dX12_shuts_172 : decode cX12_shuts 172 = .ok (.iadd, 1) := by decide +kernel
theorem dX12_shuts_173 : decode cX12_shuts 173 = .ok (.iaload, 1) := by decide +kernel
theorem dX12_shuts_174 : decode cX12_shuts 174 = .ok (.iconst 1, 1) := by decide +kernel
theorem dX12_shuts_175 : decode cX12_shuts 175 = .ok (.if_icmp .ne 7, 3) := by decide +kernel
theorem dX12_shuts_178 : decode cX12_shuts 178 = .ok (.iconst 3, 1) := by decide +kernel
theorem dX12_shuts_179 : decode cX12_shuts 179 = .ok (.goto 4, 3) := by decide +kernel
theorem dX12_shuts_182 : decode cX12_shuts 182 = .ok (.iconst 4, 1) := by decide +kernel
theorem dX12_shuts_183 : decode cX12_shuts 183 = .ok (.iload_n 2, 1) := by decide +kernel
theorem dX12_shuts_184 : decode cX12_shuts 184 = .ok (.iload_n 1, 1) := by decide +kernel
theorem dX12_shuts_185 : decode cX12_shuts 185 = .ok (.invokevirtual 290, 3) := by decide +kernel
theorem dX12_shuts_188 : decode cX12_shuts 188 = .ok (.return_, 1) := by decide +kernel
theorem dX12_minute_0 : decode cX12_minute 0 = .ok (.aload_n 0, 1) := by decide +kernel
theorem dX12_minute_1 : decode cX12_minute 1 = .ok (.invokevirtual 321, 3) := by decide +kernel
theorem dX12_minute_4 : decode cX12_minute 4 = .ok (.aload_n 0, 1) := by decide +kernel
theorem dX12_minute_5 : decode cX12_minute 5 = .ok (.invokevirtual 324, 3) := by decide +kernel
theorem dX12_minute_8 : decode cX12_minute 8 = .ok (.iconst 0, 1) := by decide +kernel
theorem dX12_minute_9 : decode cX12_minute 9 = .ok (.istore_n 1, 1) := by decide +kernel
theorem dX12_minute_10 : decode cX12_minute 10 = .ok (.iload_n 1, 1) := by decide +kernel
theorem dX12_minute_11 : decode cX12_minute 11 = .ok (.aload_n 0, 1) := by decide +kernel
theorem dX12_minute_12 : decode cX12_minute 12 = .ok (.invokevirtual 312, 3) := by decide +kernel
theorem dX12_minute_15 : decode cX12_minute 15 = .ok (.if_icmp .ge 14, 3) := by decide +kernel
theorem dX12_minute_18 : decode cX12_minute 18 = .ok (.aload_n 0, 1) := by decide +kernel
theorem dX12_minute_19 : decode cX12_minute 19 = .ok (.iload_n 1, 1) := by decide +kernel
theorem dX12_minute_20 : decode cX12_minute 20 = .ok (.invokevirtual 327, 3) := by decide +kernel
theorem dX12_minute_23 : decode cX12_minute 23 = .ok (.iinc 1 1, 3) := by decide +kernel
theorem dX12_minute_26 : decode cX12_minute 26 = .ok (.goto (-16), 3) := by decide +kernel
theorem dX12_minute_29 : decode cX12_minute 29 = .ok (.iconst 0, 1) := by decide +kernel
theorem dX12_minute_30 : decode cX12_minute 30 = .ok (.istore_n 1, 1) := by decide +kernel
theorem dX12_minute_31 : decode cX12_minute 31 = .ok (.iload_n 1, 1) := by decide +kernel
theorem dX12_minute_32 : decode cX12_minute 32 = .ok (.aload_n 0, 1) := by decide +kernel
theorem dX12_minute_33 : decode cX12_minute 33 = .ok (.invokevirtual 312, 3) := by decide +kernel
theorem dX12_minute_36 : decode cX12_minute 36 = .ok (.if_icmp .ge 44, 3) := by decide +kernel
theorem dX12_minute_39 : decode cX12_minute 39 = .ok (.aload_n 0, 1) := by decide +kernel
theorem dX12_minute_40 : decode cX12_minute 40 = .ok (.getfield 62, 3) := by decide +kernel
theorem dX12_minute_43 : decode cX12_minute 43 = .ok (.bipush 25, 2) := by decide +kernel
theorem dX12_minute_45 : decode cX12_minute 45 = .ok (.iload_n 1, 1) := by decide +kernel
theorem dX12_minute_46 : decode cX12_minute 46 = .ok (.iadd, 1) := by decide +kernel
theorem dX12_minute_47 : decode cX12_minute 47 = .ok (.iaload, 1) := by decide +kernel
theorem dX12_minute_48 : decode cX12_minute 48 = .ok (.ifCond .ne 8, 3) := by decide +kernel
theorem dX12_minute_51 : decode cX12_minute 51 = .ok (.aload_n 0, 1) := by decide +kernel
theorem dX12_minute_52 : decode cX12_minute 52 = .ok (.iload_n 1, 1) := by decide +kernel
theorem dX12_minute_53 : decode cX12_minute 53 = .ok (.invokevirtual 330, 3) := by decide +kernel
theorem dX12_minute_56 : decode cX12_minute 56 = .ok (.aload_n 0, 1) := by decide +kernel
theorem dX12_minute_57 : decode cX12_minute 57 = .ok (.getfield 62, 3) := by decide +kernel
theorem dX12_minute_60 : decode cX12_minute 60 = .ok (.bipush 25, 2) := by decide +kernel
theorem dX12_minute_62 : decode cX12_minute 62 = .ok (.iload_n 1, 1) := by decide +kernel
theorem dX12_minute_63 : decode cX12_minute 63 = .ok (.iadd, 1) := by decide +kernel
theorem dX12_minute_64 : decode cX12_minute 64 = .ok (.iaload, 1) := by decide +kernel
theorem dX12_minute_65 : decode cX12_minute 65 = .ok (.iconst 1, 1) := by decide +kernel
theorem dX12_minute_66 : decode cX12_minute 66 = .ok (.if_icmp .ne 8, 3) := by decide +kernel
theorem dX12_minute_69 : decode cX12_minute 69 = .ok (.aload_n 0, 1) := by decide +kernel
theorem dX12_minute_70 : decode cX12_minute 70 = .ok (.iload_n 1, 1) := by decide +kernel
theorem dX12_minute_71 : decode cX12_minute 71 = .ok (.invokevirtual 333, 3) := by decide +kernel
theorem dX12_minute_74 : decode cX12_minute 74 = .ok (.iinc 1 1, 3) := by decide +kernel
theorem dX12_minute_77 : decode cX12_minute 77 = .ok (.goto (-46), 3) := by decide +kernel
theorem dX12_minute_80 : decode cX12_minute 80 = .ok (.iconst 0, 1) := by decide +kernel
theorem dX12_minute_81 : decode cX12_minute 81 = .ok (.istore_n 1, 1) := by decide +kernel
theorem dX12_minute_82 : decode cX12_minute 82 = .ok (.iload_n 1, 1) := by decide +kernel
theorem dX12_minute_83 : decode cX12_minute 83 = .ok (.aload_n 0, 1) := by decide +kernel
theorem dX12_minute_84 : decode cX12_minute 84 = .ok (.invokevirtual 263, 3) := by decide +kernel
theorem dX12_minute_87 : decode cX12_minute 87 = .ok (.if_icmp .ge 14, 3) := by decide +kernel
theorem dX12_minute_90 : decode cX12_minute 90 = .ok (.aload_n 0, 1) := by decide +kernel
theorem dX12_minute_91 : decode cX12_minute 91 = .ok (.iload_n 1, 1) := by decide +kernel
theorem dX12_minute_92 : decode cX12_minute 92 = .ok (.invokevirtual 336, 3) := by decide +kernel
theorem dX12_minute_95 : decode cX12_minute 95 = .ok (.iinc 1 1, 3) := by decide +kernel
theorem dX12_minute_98 : decode cX12_minute 98 = .ok (.goto (-16), 3) := by decide +kernel
theorem dX12_minute_101 : decode cX12_minute 101 = .ok (.iconst 0, 1) := by decide +kernel
theorem dX12_minute_102 : decode cX12_minute 102 = .ok (.istore_n 1, 1) := by decide +kernel
theorem dX12_minute_103 : decode cX12_minute 103 = .ok (.iload_n 1, 1) := by decide +kernel
theorem dX12_minute_104 : decode cX12_minute 104 = .ok (.aload_n 0, 1) := by decide +kernel
theorem dX12_minute_105 : decode cX12_minute 105 = .ok (.invokevirtual 312, 3) := by decide +kernel
theorem dX12_minute_108 : decode cX12_minute 108 = .ok (.if_icmp .ge 14, 3) := by decide +kernel
theorem dX12_minute_111 : decode cX12_minute 111 = .ok (.aload_n 0, 1) := by decide +kernel
theorem dX12_minute_112 : decode cX12_minute 112 = .ok (.iload_n 1, 1) := by decide +kernel
theorem dX12_minute_113 : decode cX12_minute 113 = .ok (.invokevirtual 339, 3) := by decide +kernel
theorem dX12_minute_116 : decode cX12_minute 116 = .ok (.iinc 1 1, 3) := by decide +kernel
theorem dX12_minute_119 : decode cX12_minute 119 = .ok (.goto (-16), 3) := by decide +kernel
theorem dX12_minute_122 : decode cX12_minute 122 = .ok (.aload_n 0, 1) := by decide +kernel
theorem dX12_minute_123 : decode cX12_minute 123 = .ok (.getfield 58, 3) := by decide +kernel
theorem dX12_minute_126 : decode cX12_minute 126 = .ok (.sipush 142, 3) := by decide +kernel
theorem dX12_minute_129 : decode cX12_minute 129 = .ok (.dup2, 1) := by decide +kernel
theorem dX12_minute_130 : decode cX12_minute 130 = .ok (.iaload, 1) := by decide +kernel
theorem dX12_minute_131 : decode cX12_minute 131 = .ok (.iconst 1, 1) := by decide +kernel
theorem dX12_minute_132 : decode cX12_minute 132 = .ok (.iadd, 1) := by decide +kernel
theorem dX12_minute_133 : decode cX12_minute 133 = .ok (.iastore, 1) := by decide +kernel
theorem dX12_minute_134 : decode cX12_minute 134 = .ok (.return_, 1) := by decide +kernel
theorem dX12_tries_0 : decode cX12_tries 0 = .ok (.aload_n 0, 1) := by decide +kernel
theorem dX12_tries_1 : decode cX12_tries 1 = .ok (.getfield 88, 3) := by decide +kernel
theorem dX12_tries_4 : decode cX12_tries 4 = .ok (.aload_n 0, 1) := by decide +kernel
theorem dX12_tries_5 : decode cX12_tries 5 = .ok (.getfield 58, 3) := by decide +kernel
theorem dX12_tries_8 : decode cX12_tries 8 = .ok (.invokestatic 251, 3) := by decide +kernel
theorem dX12_tries_11 : decode cX12_tries 11 = .ok (.return_, 1) := by decide +kernel
theorem dX12_laysBack_0 : decode cX12_laysBack 0 = .ok (.aload_n 0, 1) := by decide +kernel
theorem dX12_laysBack_1 : decode cX12_laysBack 1 = .ok (.getfield 58, 3) := by decide +kernel
theorem dX12_laysBack_4 : decode cX12_laysBack 4 = .ok (.aload_n 0, 1) := by decide +kernel
theorem dX12_laysBack_5 : decode cX12_laysBack 5 = .ok (.getfield 88, 3) := by decide +kernel
theorem dX12_laysBack_8 : decode cX12_laysBack 8 = .ok (.invokestatic 251, 3) := by decide +kernel
theorem dX12_laysBack_11 : decode cX12_laysBack 11 = .ok (.return_, 1) := by decide +kernel
theorem dX12_shutSet_0 : decode cX12_shutSet 0 = .ok (.iconst 0, 1) := by decide +kernel
theorem dX12_shutSet_1 : decode cX12_shutSet 1 = .ok (.istore_n 1, 1) := by decide +kernel
theorem dX12_shutSet_2 : decode cX12_shutSet 2 = .ok (.iconst 0, 1) := by decide +kernel
theorem dX12_shutSet_3 : decode cX12_shutSet 3 = .ok (.istore_n 2, 1) := by decide +kernel
theorem dX12_shutSet_4 : decode cX12_shutSet 4 = .ok (.iload_n 2, 1) := by decide +kernel
theorem dX12_shutSet_5 : decode cX12_shutSet 5 = .ok (.aload_n 0, 1) := by decide +kernel
theorem dX12_shutSet_6 : decode cX12_shutSet 6 = .ok (.invokevirtual 266, 3) := by decide +kernel
theorem dX12_shutSet_9 : decode cX12_shutSet 9 = .ok (.if_icmp .ge 23, 3) := by decide +kernel
theorem dX12_shutSet_12 : decode cX12_shutSet 12 = .ok (.iload_n 1, 1) := by decide +kernel
theorem dX12_shutSet_13 : decode cX12_shutSet 13 = .ok (.aload_n 0, 1) := by decide +kernel
theorem dX12_shutSet_14 : decode cX12_shutSet 14 = .ok (.getfield 58, 3) := by decide +kernel
theorem dX12_shutSet_17 : decode cX12_shutSet 17 = .ok (.bipush 10, 2) := by decide +kernel
theorem dX12_shutSet_19 : decode cX12_shutSet 19 = .ok (.iload_n 2, 1) := by decide +kernel
theorem dX12_shutSet_20 : decode cX12_shutSet 20 = .ok (.iadd, 1) := by decide +kernel
theorem dX12_shutSet_21 : decode cX12_shutSet 21 = .ok (.iaload, 1) := by decide +kernel
theorem dX12_shutSet_22 : decode cX12_shutSet 22 = .ok (.iload_n 2, 1) := by decide +kernel
theorem dX12_shutSet_23 : decode cX12_shutSet 23 = .ok (.ishl, 1) := by decide +kernel
theorem dX12_shutSet_24 : decode cX12_shutSet 24 = .ok (.ior, 1) := by decide +kernel
theorem dX12_shutSet_25 : decode cX12_shutSet 25 = .ok (.istore_n 1, 1) := by decide +kernel
theorem dX12_shutSet_26 : decode cX12_shutSet 26 = .ok (.iinc 2 1, 3) := by decide +kernel
theorem dX12_shutSet_29 : decode cX12_shutSet 29 = .ok (.goto (-25), 3) := by decide +kernel
theorem dX12_shutSet_32 : decode cX12_shutSet 32 = .ok (.iload_n 1, 1) := by decide +kernel
theorem dX12_shutSet_33 : decode cX12_shutSet 33 = .ok (.ireturn, 1) := by decide +kernel
theorem dX12_first_0 : decode cX12_first 0 = .ok (.aload_n 0, 1) := by decide +kernel
theorem dX12_first_1 : decode cX12_first 1 = .ok (.invokevirtual 342, 3) := by decide +kernel
theorem dX12_first_4 : decode cX12_first 4 = .ok (.aload_n 0, 1) := by decide +kernel
theorem dX12_first_5 : decode cX12_first 5 = .ok (.invokevirtual 345, 3) := by decide +kernel
theorem dX12_first_8 : decode cX12_first 8 = .ok (.istore_n 1, 1) := by decide +kernel
theorem dX12_first_9 : decode cX12_first 9 = .ok (.iconst (-1), 1) := by decide +kernel
theorem dX12_first_10 : decode cX12_first 10 = .ok (.istore_n 2, 1) := by decide +kernel
theorem dX12_first_11 : decode cX12_first 11 = .ok (.aload_n 0, 1) := by decide +kernel
theorem dX12_first_12 : decode cX12_first 12 = .ok (.iconst (-1), 1) := by decide +kernel
theorem dX12_first_13 : decode cX12_first 13 = .ok (.putfield 348, 3) := by decide +kernel
theorem dX12_first_16 : decode cX12_first 16 = .ok (.iconst 1, 1) := by decide +kernel
theorem dX12_first_17 : decode cX12_first 17 = .ok (.istore_n 3, 1) := by decide +kernel
theorem dX12_first_18 : decode cX12_first 18 = .ok (.iload_n 3, 1) := by decide +kernel
theorem dX12_first_19 : decode cX12_first 19 = .ok (.sipush 200, 3) := by decide +kernel
theorem dX12_first_22 : decode cX12_first 22 = .ok (.if_icmp .gt 47, 3) := by decide +kernel
theorem dX12_first_25 : decode cX12_first 25 = .ok (.iload_n 2, 1) := by decide +kernel
theorem dX12_first_26 : decode cX12_first 26 = .ok (.iconst (-1), 1) := by decide +kernel
theorem dX12_first_27 : decode cX12_first 27 = .ok (.if_icmp .ne 42, 3) := by decide +kernel
theorem dX12_first_30 : decode cX12_first 30 = .ok (.aload_n 0, 1) := by decide +kernel
theorem dX12_first_31 : decode cX12_first 31 = .ok (.invokevirtual 351, 3) := by decide +kernel
theorem dX12_first_34 : decode cX12_first 34 = .ok (.aload_n 0, 1) := by decide +kernel
theorem dX12_first_35 : decode cX12_first 35 = .ok (.invokevirtual 345, 3) := by decide +kernel
theorem dX12_first_38 : decode cX12_first 38 = .ok (.iload_n 1, 1) := by decide +kernel
theorem dX12_first_39 : decode cX12_first 39 = .ok (.iconst (-1), 1) := by decide +kernel
theorem dX12_first_40 : decode cX12_first 40 = .ok (.ixor, 1) := by decide +kernel
theorem dX12_first_41 : decode cX12_first 41 = .ok (.iand, 1) := by decide +kernel
theorem dX12_first_42 : decode cX12_first 42 = .ok (.istore 4, 2) := by decide +kernel
theorem dX12_first_44 : decode cX12_first 44 = .ok (.iload 4, 2) := by decide +kernel
theorem dX12_first_46 : decode cX12_first 46 = .ok (.ifCond .ne 6, 3) := by decide +kernel
theorem dX12_first_49 : decode cX12_first 49 = .ok (.goto 14, 3) := by decide +kernel
theorem dX12_first_52 : decode cX12_first 52 = .ok (.iload_n 3, 1) := by decide +kernel
theorem dX12_first_53 : decode cX12_first 53 = .ok (.istore_n 2, 1) := by decide +kernel
theorem dX12_first_54 : decode cX12_first 54 = .ok (.aload_n 0, 1) := by decide +kernel
theorem dX12_first_55 : decode cX12_first 55 = .ok (.iload 4, 2) := by decide +kernel
theorem dX12_first_57 : decode cX12_first 57 = .ok (.invokestatic 354, 3) := by decide +kernel
theorem dX12_first_60 : decode cX12_first 60 = .ok (.putfield 348, 3) := by decide +kernel
theorem dX12_first_63 : decode cX12_first 63 = .ok (.iinc 3 1, 3) := by decide +kernel
theorem dX12_first_66 : decode cX12_first 66 = .ok (.goto (-48), 3) := by decide +kernel
theorem dX12_first_69 : decode cX12_first 69 = .ok (.aload_n 0, 1) := by decide +kernel
theorem dX12_first_70 : decode cX12_first 70 = .ok (.invokevirtual 359, 3) := by decide +kernel
theorem dX12_first_73 : decode cX12_first 73 = .ok (.iload_n 2, 1) := by decide +kernel
theorem dX12_first_74 : decode cX12_first 74 = .ok (.ireturn, 1) := by decide +kernel
theorem dX12_neededNow_0 : decode cX12_neededNow 0 = .ok (.iconst (-1), 1) := by decide +kernel
theorem dX12_neededNow_1 : decode cX12_neededNow 1 = .ok (.istore_n 1, 1) := by decide +kernel
theorem dX12_neededNow_2 : decode cX12_neededNow 2 = .ok (.iconst 0, 1) := by decide +kernel
theorem dX12_neededNow_3 : decode cX12_neededNow 3 = .ok (.istore_n 2, 1) := by decide +kernel
theorem dX12_neededNow_4 : decode cX12_neededNow 4 = .ok (.iconst 0, 1) := by decide +kernel
theorem dX12_neededNow_5 : decode cX12_neededNow 5 = .ok (.istore_n 3, 1) := by decide +kernel
theorem dX12_neededNow_6 : decode cX12_neededNow 6 = .ok (.iload_n 3, 1) := by decide +kernel
theorem dX12_neededNow_7 : decode cX12_neededNow 7 = .ok (.aload_n 0, 1) := by decide +kernel
theorem dX12_neededNow_8 : decode cX12_neededNow 8 = .ok (.invokevirtual 263, 3) := by decide +kernel
theorem dX12_neededNow_11 : decode cX12_neededNow 11 = .ok (.if_icmp .ge 72, 3) := by decide +kernel
theorem dX12_neededNow_14 : decode cX12_neededNow 14 = .ok (.aload_n 0, 1) := by decide +kernel
theorem dX12_neededNow_15 : decode cX12_neededNow 15 = .ok (.getfield 62, 3) := by decide +kernel
theorem dX12_neededNow_18 : decode cX12_neededNow 18 = .ok (.bipush 73, 2) := by decide +kernel
theorem dX12_neededNow_20 : decode cX12_neededNow 20 = .ok (.iload_n 3, 1) := by decide +kernel
theorem dX12_neededNow_21 : decode cX12_neededNow 21 = .ok (.iadd, 1) := by decide +kernel
theorem dX12_neededNow_22 : decode cX12_neededNow 22 = .ok (.iaload, 1) := by decide +kernel
theorem dX12_neededNow_23 : decode cX12_neededNow 23 = .ok (.istore 4, 2) := by decide +kernel
theorem dX12_neededNow_25 : decode cX12_neededNow 25 = .ok (.aload_n 0, 1) := by decide +kernel
theorem dX12_neededNow_26 : decode cX12_neededNow 26 = .ok (.getfield 62, 3) := by decide +kernel
theorem dX12_neededNow_29 : decode cX12_neededNow 29 = .ok (.bipush 73, 2) := by decide +kernel
theorem dX12_neededNow_31 : decode cX12_neededNow 31 = .ok (.iload_n 3, 1) := by decide +kernel
theorem dX12_neededNow_32 : decode cX12_neededNow 32 = .ok (.iadd, 1) := by decide +kernel
theorem dX12_neededNow_33 : decode cX12_neededNow 33 = .ok (.iconst 0, 1) := by decide +kernel
theorem dX12_neededNow_34 : decode cX12_neededNow 34 = .ok (.iastore, 1) := by decide +kernel
theorem dX12_neededNow_35 : decode cX12_neededNow 35 = .ok (.aload_n 0, 1) := by decide +kernel
theorem dX12_neededNow_36 : decode cX12_neededNow 36 = .ok (.invokevirtual 362, 3) := by decide +kernel
theorem dX12_neededNow_39 : decode cX12_neededNow 39 = .ok (.istore 5, 2) := by decide +kernel
theorem dX12_neededNow_41 : decode cX12_neededNow 41 = .ok (.aload_n 0, 1) := by decide +kernel
theorem dX12_neededNow_42 : decode cX12_neededNow 42 = .ok (.getfield 62, 3) := by decide +kernel
theorem dX12_neededNow_45 : decode cX12_neededNow 45 = .ok (.bipush 73, 2) := by decide +kernel
theorem dX12_neededNow_47 : decode cX12_neededNow 47 = .ok (.iload_n 3, 1) := by decide +kernel
theorem dX12_neededNow_48 : decode cX12_neededNow 48 = .ok (.iadd, 1) := by decide +kernel
theorem dX12_neededNow_49 : decode cX12_neededNow 49 = .ok (.iload 4, 2) := by decide +kernel
theorem dX12_neededNow_51 : decode cX12_neededNow 51 = .ok (.iastore, 1) := by decide +kernel
theorem dX12_neededNow_52 : decode cX12_neededNow 52 = .ok (.iload 5, 2) := by decide +kernel
theorem dX12_neededNow_54 : decode cX12_neededNow 54 = .ok (.iconst (-1), 1) := by decide +kernel
theorem dX12_neededNow_55 : decode cX12_neededNow 55 = .ok (.if_icmp .eq 22, 3) := by decide +kernel
theorem dX12_neededNow_58 : decode cX12_neededNow 58 = .ok (.iload_n 1, 1) := by decide +kernel
theorem dX12_neededNow_59 : decode cX12_neededNow 59 = .ok (.iconst (-1), 1) := by decide +kernel
theorem dX12_neededNow_60 : decode cX12_neededNow 60 = .ok (.if_icmp .eq 12, 3) := by decide +kernel
theorem dX12_neededNow_63 : decode cX12_neededNow 63 = .ok (.iload 5, 2) := by decide +kernel
theorem dX12_neededNow_65 : decode cX12_neededNow 65 = .ok (.iload_n 2, 1) := by decide +kernel
theorem dX12_neededNow_66 : decode cX12_neededNow 66 = .ok (.if_icmp .lt 6, 3) := by decide +kernel
theorem dX12_neededNow_69 : decode cX12_neededNow 69 = .ok (.goto 8, 3) := by decide +kernel
theorem dX12_neededNow_72 : decode cX12_neededNow 72 = .ok (.iload_n 3, 1) := by decide +kernel
theorem dX12_neededNow_73 : decode cX12_neededNow 73 = .ok (.istore_n 1, 1) := by decide +kernel
theorem dX12_neededNow_74 : decode cX12_neededNow 74 = .ok (.iload 5, 2) := by decide +kernel
theorem dX12_neededNow_76 : decode cX12_neededNow 76 = .ok (.istore_n 2, 1) := by decide +kernel
theorem dX12_neededNow_77 : decode cX12_neededNow 77 = .ok (.iinc 3 1, 3) := by decide +kernel
theorem dX12_neededNow_80 : decode cX12_neededNow 80 = .ok (.goto (-74), 3) := by decide +kernel
theorem dX12_neededNow_83 : decode cX12_neededNow 83 = .ok (.iload_n 1, 1) := by decide +kernel
theorem dX12_neededNow_84 : decode cX12_neededNow 84 = .ok (.ireturn, 1) := by decide +kernel
theorem dX12_isAgain_0 : decode cX12_isAgain 0 = .ok (.iconst 1, 1) := by decide +kernel
theorem dX12_isAgain_1 : decode cX12_isAgain 1 = .ok (.istore_n 1, 1) := by decide +kernel
theorem dX12_isAgain_2 : decode cX12_isAgain 2 = .ok (.iconst 0, 1) := by decide +kernel
theorem dX12_isAgain_3 : decode cX12_isAgain 3 = .ok (.istore_n 2, 1) := by decide +kernel
theorem dX12_isAgain_4 : decode cX12_isAgain 4 = .ok (.iload_n 2, 1) := by decide +kernel
theorem dX12_isAgain_5 : decode cX12_isAgain 5 = .ok (.aload_n 0, 1) := by decide +kernel
theorem dX12_isAgain_6 : decode cX12_isAgain 6 = .ok (.invokevirtual 266, 3) := by decide +kernel
theorem dX12_isAgain_9 : decode cX12_isAgain 9 = .ok (.if_icmp .ge 149, 3) := by decide +kernel
theorem dX12_isAgain_12 : decode cX12_isAgain 12 = .ok (.iload_n 1, 1) := by decide +kernel
theorem dX12_isAgain_13 : decode cX12_isAgain 13 = .ok (.ifCond .eq 68, 3) := by decide +kernel
theorem dX12_isAgain_16 : decode cX12_isAgain 16 = .ok (.aload_n 0, 1) := by decide +kernel
theorem dX12_isAgain_17 : decode cX12_isAgain 17 = .ok (.getfield 58, 3) := by decide +kernel
theorem dX12_isAgain_20 : decode cX12_isAgain 20 = .ok (.iconst 0, 1) := by decide +kernel
theorem dX12_isAgain_21 : decode cX12_isAgain 21 = .ok (.iload_n 2, 1) := by decide +kernel
theorem dX12_isAgain_22 : decode cX12_isAgain 22 = .ok (.iadd, 1) := by decide +kernel
theorem dX12_isAgain_23 : decode cX12_isAgain 23 = .ok (.iaload, 1) := by decide +kernel
theorem dX12_isAgain_24 : decode cX12_isAgain 24 = .ok (.aload_n 0, 1) := by decide +kernel
theorem dX12_isAgain_25 : decode cX12_isAgain 25 = .ok (.getfield 88, 3) := by decide +kernel
theorem dX12_isAgain_28 : decode cX12_isAgain 28 = .ok (.iconst 0, 1) := by decide +kernel
theorem dX12_isAgain_29 : decode cX12_isAgain 29 = .ok (.iload_n 2, 1) := by decide +kernel
theorem dX12_isAgain_30 : decode cX12_isAgain 30 = .ok (.iadd, 1) := by decide +kernel
theorem dX12_isAgain_31 : decode cX12_isAgain 31 = .ok (.iaload, 1) := by decide +kernel
theorem dX12_isAgain_32 : decode cX12_isAgain 32 = .ok (.if_icmp .ne 49, 3) := by decide +kernel
theorem dX12_isAgain_35 : decode cX12_isAgain 35 = .ok (.aload_n 0, 1) := by decide +kernel
theorem dX12_isAgain_36 : decode cX12_isAgain 36 = .ok (.getfield 58, 3) := by decide +kernel
theorem dX12_isAgain_39 : decode cX12_isAgain 39 = .ok (.bipush 10, 2) := by decide +kernel
theorem dX12_isAgain_41 : decode cX12_isAgain 41 = .ok (.iload_n 2, 1) := by decide +kernel
theorem dX12_isAgain_42 : decode cX12_isAgain 42 = .ok (.iadd, 1) := by decide +kernel
theorem dX12_isAgain_43 : decode cX12_isAgain 43 = .ok (.iaload, 1) := by decide +kernel
theorem dX12_isAgain_44 : decode cX12_isAgain 44 = .ok (.aload_n 0, 1) := by decide +kernel
theorem dX12_isAgain_45 : decode cX12_isAgain 45 = .ok (.getfield 88, 3) := by decide +kernel
theorem dX12_isAgain_48 : decode cX12_isAgain 48 = .ok (.bipush 10, 2) := by decide +kernel
theorem dX12_isAgain_50 : decode cX12_isAgain 50 = .ok (.iload_n 2, 1) := by decide +kernel
theorem dX12_isAgain_51 : decode cX12_isAgain 51 = .ok (.iadd, 1) := by decide +kernel
theorem dX12_isAgain_52 : decode cX12_isAgain 52 = .ok (.iaload, 1) := by decide +kernel
theorem dX12_isAgain_53 : decode cX12_isAgain 53 = .ok (.if_icmp .ne 28, 3) := by decide +kernel
theorem dX12_isAgain_56 : decode cX12_isAgain 56 = .ok (.aload_n 0, 1) := by decide +kernel
theorem dX12_isAgain_57 : decode cX12_isAgain 57 = .ok (.getfield 58, 3) := by decide +kernel
theorem dX12_isAgain_60 : decode cX12_isAgain 60 = .ok (.bipush 20, 2) := by decide +kernel
theorem dX12_isAgain_62 : decode cX12_isAgain 62 = .ok (.iload_n 2, 1) := by decide +kernel
theorem dX12_isAgain_63 : decode cX12_isAgain 63 = .ok (.iadd, 1) := by decide +kernel
theorem dX12_isAgain_64 : decode cX12_isAgain 64 = .ok (.iaload, 1) := by decide +kernel
theorem dX12_isAgain_65 : decode cX12_isAgain 65 = .ok (.aload_n 0, 1) := by decide +kernel
theorem dX12_isAgain_66 : decode cX12_isAgain 66 = .ok (.getfield 88, 3) := by decide +kernel
theorem dX12_isAgain_69 : decode cX12_isAgain 69 = .ok (.bipush 20, 2) := by decide +kernel
theorem dX12_isAgain_71 : decode cX12_isAgain 71 = .ok (.iload_n 2, 1) := by decide +kernel
theorem dX12_isAgain_72 : decode cX12_isAgain 72 = .ok (.iadd, 1) := by decide +kernel
theorem dX12_isAgain_73 : decode cX12_isAgain 73 = .ok (.iaload, 1) := by decide +kernel
theorem dX12_isAgain_74 : decode cX12_isAgain 74 = .ok (.if_icmp .ne 7, 3) := by decide +kernel
theorem dX12_isAgain_77 : decode cX12_isAgain 77 = .ok (.iconst 1, 1) := by decide +kernel
theorem dX12_isAgain_78 : decode cX12_isAgain 78 = .ok (.goto 4, 3) := by decide +kernel
theorem dX12_isAgain_81 : decode cX12_isAgain 81 = .ok (.iconst 0, 1) := by decide +kernel
theorem dX12_isAgain_82 : decode cX12_isAgain 82 = .ok (.istore_n 1, 1) := by decide +kernel
theorem dX12_isAgain_83 : decode cX12_isAgain 83 = .ok (.iconst 0, 1) := by decide +kernel
theorem dX12_isAgain_84 : decode cX12_isAgain 84 = .ok (.istore_n 3, 1) := by decide +kernel
theorem dX12_isAgain_85 : decode cX12_isAgain 85 = .ok (.iload_n 3, 1) := by decide +kernel
theorem dX12_isAgain_86 : decode cX12_isAgain 86 = .ok (.aload_n 0, 1) := by decide +kernel
theorem dX12_isAgain_87 : decode cX12_isAgain 87 = .ok (.getfield 62, 3) := by decide +kernel
theorem dX12_isAgain_90 : decode cX12_isAgain 90 = .ok (.bipush 10, 2) := by decide +kernel
theorem dX12_isAgain_92 : decode cX12_isAgain 92 = .ok (.iload_n 2, 1) := by decide +kernel
theorem dX12_isAgain_93 : decode cX12_isAgain 93 = .ok (.iadd, 1) := by decide +kernel
theorem dX12_isAgain_94 : decode cX12_isAgain 94 = .ok (.iaload, 1) := by decide +kernel
theorem dX12_isAgain_95 : decode cX12_isAgain 95 = .ok (.if_icmp .ge 57, 3) := by decide +kernel
theorem dX12_isAgain_98 : decode cX12_isAgain 98 = .ok (.iload_n 1, 1) := by decide +kernel
theorem dX12_isAgain_99 : decode cX12_isAgain 99 = .ok (.ifCond .eq 45, 3) := by decide +kernel
theorem dX12_isAgain_102 : decode cX12_isAgain 102 = .ok (.aload_n 0, 1) := by decide +kernel
theorem dX12_isAgain_103 : decode cX12_isAgain 103 = .ok (.getfield 62, 3) := by decide +kernel
theorem dX12_isAgain_106 : decode cX12_isAgain 106 = .ok (.iconst 5, 1) := by decide +kernel
theorem dX12_isAgain_107 : decode cX12_isAgain 107 = .ok (.iload_n 2, 1) := by decide +kernel
theorem dX12_isAgain_108 : decode cX12_isAgain 108 = .ok (.iadd, 1) := by decide +kernel
theorem dX12_isAgain_109 : decode cX12_isAgain 109 = .ok (.iaload, 1) := by decide +kernel
theorem dX12_isAgain_110 : decode cX12_isAgain 110 = .ok (.iconst 3, 1) := by decide +kernel
theorem dX12_isAgain_111 : decode cX12_isAgain 111 = .ok (.if_icmp .ne 7, 3) := by decide +kernel
theorem dX12_isAgain_114 : decode cX12_isAgain 114 = .ok (.iload_n 3, 1) := by decide +kernel
theorem dX12_isAgain_115 : decode cX12_isAgain 115 = .ok (.ifCond .gt 25, 3) := by decide +kernel
theorem dX12_isAgain_118 : decode cX12_isAgain 118 = .ok (.aload_n 0, 1) := by decide +kernel
theorem dX12_isAgain_119 : decode cX12_isAgain 119 = .ok (.iload_n 2, 1) := by decide +kernel
theorem dX12_isAgain_120 : decode cX12_isAgain 120 = .ok (.iload_n 3, 1) := by decide +kernel
theorem dX12_isAgain_121 : decode cX12_isAgain 121 = .ok (.invokevirtual 279, 3) := by decide +kernel
theorem dX12_isAgain_124 : decode cX12_isAgain 124 = .ok (.aload_n 0, 1) := by decide +kernel
theorem dX12_isAgain_125 : decode cX12_isAgain 125 = .ok (.getfield 88, 3) := by decide +kernel
theorem dX12_isAgain_128 : decode cX12_isAgain 128 = .ok (.bipush 30, 2) := by decide +kernel
theorem dX12_isAgain_130 : decode cX12_isAgain 130 = .ok (.iconst 4, 1) := by decide +kernel
theorem dX12_isAgain_131 : decode cX12_isAgain 131 = .ok (.iload_n 2, 1) := by decide +kernel
theorem dX12_isAgain_132 : decode cX12_isAgain 132 = .ok (.imul, 1) := by decide +kernel
theorem dX12_isAgain_133 : decode cX12_isAgain 133 = .ok (.iadd, 1) := by decide +kernel
theorem dX12_isAgain_134 : decode cX12_isAgain 134 = .ok (.iload_n 3, 1) := by decide +kernel
theorem dX12_isAgain_135 : decode cX12_isAgain 135 = .ok (.iadd, 1) := by decide +kernel
theorem dX12_isAgain_136 : decode cX12_isAgain 136 = .ok (.iaload, 1) := by decide +kernel
theorem dX12_isAgain_137 : decode cX12_isAgain 137 = .ok (.if_icmp .ne 7, 3) := by decide +kernel
theorem dX12_isAgain_140 : decode cX12_isAgain 140 = .ok (.iconst 1, 1) := by decide +kernel
theorem dX12_isAgain_141 : decode cX12_isAgain 141 = .ok (.goto 4, 3) := by decide +kernel
theorem dX12_isAgain_144 : decode cX12_isAgain 144 = .ok (.iconst 0, 1) := by decide +kernel
theorem dX12_isAgain_145 : decode cX12_isAgain 145 = .ok (.istore_n 1, 1) := by decide +kernel
theorem dX12_isAgain_146 : decode cX12_isAgain 146 = .ok (.iinc 3 1, 3) := by decide +kernel
theorem dX12_isAgain_149 : decode cX12_isAgain 149 = .ok (.goto (-64), 3) := by decide +kernel
theorem dX12_isAgain_152 : decode cX12_isAgain 152 = .ok (.iinc 2 1, 3) := by decide +kernel
theorem dX12_isAgain_155 : decode cX12_isAgain 155 = .ok (.goto (-151), 3) := by decide +kernel
theorem dX12_isAgain_158 : decode cX12_isAgain 158 = .ok (.iconst 0, 1) := by decide +kernel
theorem dX12_isAgain_159 : decode cX12_isAgain 159 = .ok (.istore_n 2, 1) := by decide +kernel
theorem dX12_isAgain_160 : decode cX12_isAgain 160 = .ok (.iload_n 2, 1) := by decide +kernel
theorem dX12_isAgain_161 : decode cX12_isAgain 161 = .ok (.aload_n 0, 1) := by decide +kernel
theorem dX12_isAgain_162 : decode cX12_isAgain 162 = .ok (.invokevirtual 312, 3) := by decide +kernel
theorem dX12_isAgain_165 : decode cX12_isAgain 165 = .ok (.if_icmp .ge 40, 3) := by decide +kernel
theorem dX12_isAgain_168 : decode cX12_isAgain 168 = .ok (.iload_n 1, 1) := by decide +kernel
theorem dX12_isAgain_169 : decode cX12_isAgain 169 = .ok (.ifCond .eq 28, 3) := by decide +kernel
theorem dX12_isAgain_172 : decode cX12_isAgain 172 = .ok (.aload_n 0, 1) := by decide +kernel
theorem dX12_isAgain_173 : decode cX12_isAgain 173 = .ok (.getfield 58, 3) := by decide +kernel
theorem dX12_isAgain_176 : decode cX12_isAgain 176 = .ok (.bipush 50, 2) := by decide +kernel
theorem dX12_isAgain_178 : decode cX12_isAgain 178 = .ok (.iload_n 2, 1) := by decide +kernel
theorem dX12_isAgain_179 : decode cX12_isAgain 179 = .ok (.iadd, 1) := by decide +kernel
theorem dX12_isAgain_180 : decode cX12_isAgain 180 = .ok (.iaload, 1) := by decide +kernel
theorem dX12_isAgain_181 : decode cX12_isAgain 181 = .ok (.aload_n 0, 1) := by decide +kernel
theorem dX12_isAgain_182 : decode cX12_isAgain 182 = .ok (.getfield 88, 3) := by decide +kernel
theorem dX12_isAgain_185 : decode cX12_isAgain 185 = .ok (.bipush 50, 2) := by decide +kernel
theorem dX12_isAgain_187 : decode cX12_isAgain 187 = .ok (.iload_n 2, 1) := by decide +kernel
theorem dX12_isAgain_188 : decode cX12_isAgain 188 = .ok (.iadd, 1) := by decide +kernel
theorem dX12_isAgain_189 : decode cX12_isAgain 189 = .ok (.iaload, 1) := by decide +kernel
theorem dX12_isAgain_190 : decode cX12_isAgain 190 = .ok (.if_icmp .ne 7, 3) := by decide +kernel
theorem dX12_isAgain_193 : decode cX12_isAgain 193 = .ok (.iconst 1, 1) := by decide +kernel
theorem dX12_isAgain_194 : decode cX12_isAgain 194 = .ok (.goto 4, 3) := by decide +kernel
theorem dX12_isAgain_197 : decode cX12_isAgain 197 = .ok (.iconst 0, 1) := by decide +kernel
theorem dX12_isAgain_198 : decode cX12_isAgain 198 = .ok (.istore_n 1, 1) := by decide +kernel
theorem dX12_isAgain_199 : decode cX12_isAgain 199 = .ok (.iinc 2 1, 3) := by decide +kernel
theorem dX12_isAgain_202 : decode cX12_isAgain 202 = .ok (.goto (-42), 3) := by decide +kernel
theorem dX12_isAgain_205 : decode cX12_isAgain 205 = .ok (.iconst 0, 1) := by decide +kernel
theorem dX12_isAgain_206 : decode cX12_isAgain 206 = .ok (.istore_n 2, 1) := by decide +kernel
theorem dX12_isAgain_207 : decode cX12_isAgain 207 = .ok (.iload_n 2, 1) := by decide +kernel
theorem dX12_isAgain_208 : decode cX12_isAgain 208 = .ok (.aload_n 0, 1) := by decide +kernel
theorem dX12_isAgain_209 : decode cX12_isAgain 209 = .ok (.invokevirtual 263, 3) := by decide +kernel
theorem dX12_isAgain_212 : decode cX12_isAgain 212 = .ok (.if_icmp .ge 40, 3) := by decide +kernel
theorem dX12_isAgain_215 : decode cX12_isAgain 215 = .ok (.iload_n 1, 1) := by decide +kernel
theorem dX12_isAgain_216 : decode cX12_isAgain 216 = .ok (.ifCond .eq 28, 3) := by decide +kernel
theorem dX12_isAgain_219 : decode cX12_isAgain 219 = .ok (.aload_n 0, 1) := by decide +kernel
theorem dX12_isAgain_220 : decode cX12_isAgain 220 = .ok (.getfield 58, 3) := by decide +kernel
theorem dX12_isAgain_223 : decode cX12_isAgain 223 = .ok (.bipush 70, 2) := by decide +kernel
theorem dX12_isAgain_225 : decode cX12_isAgain 225 = .ok (.iload_n 2, 1) := by decide +kernel
theorem dX12_isAgain_226 : decode cX12_isAgain 226 = .ok (.iadd, 1) := by decide +kernel
theorem dX12_isAgain_227 : decode cX12_isAgain 227 = .ok (.iaload, 1) := by decide +kernel
theorem dX12_isAgain_228 : decode cX12_isAgain 228 = .ok (.aload_n 0, 1) := by decide +kernel
theorem dX12_isAgain_229 : decode cX12_isAgain 229 = .ok (.getfield 88, 3) := by decide +kernel
theorem dX12_isAgain_232 : decode cX12_isAgain 232 = .ok (.bipush 70, 2) := by decide +kernel
theorem dX12_isAgain_234 : decode cX12_isAgain 234 = .ok (.iload_n 2, 1) := by decide +kernel
theorem dX12_isAgain_235 : decode cX12_isAgain 235 = .ok (.iadd, 1) := by decide +kernel
theorem dX12_isAgain_236 : decode cX12_isAgain 236 = .ok (.iaload, 1) := by decide +kernel
theorem dX12_isAgain_237 : decode cX12_isAgain 237 = .ok (.if_icmp .ne 7, 3) := by decide +kernel
theorem dX12_isAgain_240 : decode cX12_isAgain 240 = .ok (.iconst 1, 1) := by decide +kernel
theorem dX12_isAgain_241 : decode cX12_isAgain 241 = .ok (.goto 4, 3) := by decide +kernel
theorem dX12_isAgain_244 : decode cX12_isAgain 244 = .ok (.iconst 0, 1) := by decide +kernel
theorem dX12_isAgain_245 : decode cX12_isAgain 245 = .ok (.istore_n 1, 1) := by decide +kernel
theorem dX12_isAgain_246 : decode cX12_isAgain 246 = .ok (.iinc 2 1, 3) := by decide +kernel
theorem dX12_isAgain_249 : decode cX12_isAgain 249 = .ok (.goto (-42), 3) := by decide +kernel
theorem dX12_isAgain_252 : decode cX12_isAgain 252 = .ok (.bipush 82, 2) := by decide +kernel
theorem dX12_isAgain_254 : decode cX12_isAgain 254 = .ok (.istore_n 2, 1) := by decide +kernel
theorem dX12_isAgain_255 : decode cX12_isAgain 255 = .ok (.iload_n 2, 1) := by decide +kernel
theorem dX12_isAgain_256 : decode cX12_isAgain 256 = .ok (.sipush 142, 3) := by decide +kernel
theorem dX12_isAgain_259 : decode cX12_isAgain 259 = .ok (.if_icmp .ge 34, 3) := by decide +kernel
theorem dX12_isAgain_262 : decode cX12_isAgain 262 = .ok (.iload_n 1, 1) := by decide +kernel
theorem dX12_isAgain_263 : decode cX12_isAgain 263 = .ok (.ifCond .eq 30, 3) := by decide +kernel
theorem dX12_isAgain_266 : decode cX12_isAgain 266 = .ok (.aload_n 0, 1) := by decide +kernel
theorem dX12_isAgain_267 : decode cX12_isAgain 267 = .ok (.getfield 58, 3) := by decide +kernel
theorem dX12_isAgain_270 : decode cX12_isAgain 270 = .ok (.iload_n 2, 1) := by decide +kernel
theorem dX12_isAgain_271 : decode cX12_isAgain 271 = .ok (.iaload, 1) := by decide +kernel
theorem dX12_isAgain_272 : decode cX12_isAgain 272 = .ok (.aload_n 0, 1) := by decide +kernel
theorem dX12_isAgain_273 : decode cX12_isAgain 273 = .ok (.getfield 88, 3) := by decide +kernel
theorem dX12_isAgain_276 : decode cX12_isAgain 276 = .ok (.iload_n 2, 1) := by decide +kernel
theorem dX12_isAgain_277 : decode cX12_isAgain 277 = .ok (.iaload, 1) := by decide +kernel
theorem dX12_isAgain_278 : decode cX12_isAgain 278 = .ok (.if_icmp .ne 7, 3) := by decide +kernel
theorem dX12_isAgain_281 : decode cX12_isAgain 281 = .ok (.iconst 1, 1) := by decide +kernel
theorem dX12_isAgain_282 : decode cX12_isAgain 282 = .ok (.goto 4, 3) := by decide +kernel
theorem dX12_isAgain_285 : decode cX12_isAgain 285 = .ok (.iconst 0, 1) := by decide +kernel
theorem dX12_isAgain_286 : decode cX12_isAgain 286 = .ok (.istore_n 1, 1) := by decide +kernel
theorem dX12_isAgain_287 : decode cX12_isAgain 287 = .ok (.iinc 2 1, 3) := by decide +kernel
theorem dX12_isAgain_290 : decode cX12_isAgain 290 = .ok (.goto (-35), 3) := by decide +kernel
theorem dX12_isAgain_293 : decode cX12_isAgain 293 = .ok (.iload_n 1, 1) := by decide +kernel
theorem dX12_isAgain_294 : decode cX12_isAgain 294 = .ok (.ireturn, 1) := by decide +kernel
theorem dX12_again_0 : decode cX12_again 0 = .ok (.aload_n 0, 1) := by decide +kernel
theorem dX12_again_1 : decode cX12_again 1 = .ok (.invokevirtual 342, 3) := by decide +kernel
theorem dX12_again_4 : decode cX12_again 4 = .ok (.iconst (-1), 1) := by decide +kernel
theorem dX12_again_5 : decode cX12_again 5 = .ok (.istore_n 1, 1) := by decide +kernel
theorem dX12_again_6 : decode cX12_again 6 = .ok (.iconst 1, 1) := by decide +kernel
theorem dX12_again_7 : decode cX12_again 7 = .ok (.istore_n 2, 1) := by decide +kernel
theorem dX12_again_8 : decode cX12_again 8 = .ok (.iload_n 2, 1) := by decide +kernel
theorem dX12_again_9 : decode cX12_again 9 = .ok (.sipush 200, 3) := by decide +kernel
theorem dX12_again_12 : decode cX12_again 12 = .ok (.if_icmp .gt 27, 3) := by decide +kernel
theorem dX12_again_15 : decode cX12_again 15 = .ok (.iload_n 1, 1) := by decide +kernel
theorem dX12_again_16 : decode cX12_again 16 = .ok (.iconst (-1), 1) := by decide +kernel
theorem dX12_again_17 : decode cX12_again 17 = .ok (.if_icmp .ne 22, 3) := by decide +kernel
theorem dX12_again_20 : decode cX12_again 20 = .ok (.aload_n 0, 1) := by decide +kernel
theorem dX12_again_21 : decode cX12_again 21 = .ok (.invokevirtual 351, 3) := by decide +kernel
theorem dX12_again_24 : decode cX12_again 24 = .ok (.aload_n 0, 1) := by decide +kernel
theorem dX12_again_25 : decode cX12_again 25 = .ok (.invokevirtual 365, 3) := by decide +kernel
theorem dX12_again_28 : decode cX12_again 28 = .ok (.ifCond .eq 5, 3) := by decide +kernel
theorem dX12_again_31 : decode cX12_again 31 = .ok (.iload_n 2, 1) := by decide +kernel
theorem dX12_again_32 : decode cX12_again 32 = .ok (.istore_n 1, 1) := by decide +kernel
theorem dX12_again_33 : decode cX12_again 33 = .ok (.iinc 2 1, 3) := by decide +kernel
theorem dX12_again_36 : decode cX12_again 36 = .ok (.goto (-28), 3) := by decide +kernel
theorem dX12_again_39 : decode cX12_again 39 = .ok (.aload_n 0, 1) := by decide +kernel
theorem dX12_again_40 : decode cX12_again 40 = .ok (.invokevirtual 359, 3) := by decide +kernel
theorem dX12_again_43 : decode cX12_again 43 = .ok (.iload_n 1, 1) := by decide +kernel
theorem dX12_again_44 : decode cX12_again 44 = .ok (.ireturn, 1) := by decide +kernel
theorem dX12_count_0 : decode cX12_count 0 = .ok (.aload_n 0, 1) := by decide +kernel
theorem dX12_count_1 : decode cX12_count 1 = .ok (.iconst 0, 1) := by decide +kernel
theorem dX12_count_2 : decode cX12_count 2 = .ok (.putfield 131, 3) := by decide +kernel
theorem dX12_count_5 : decode cX12_count 5 = .ok (.iload_n 1, 1) := by decide +kernel
theorem dX12_count_6 : decode cX12_count 6 = .ok (.tableswitch 197 0 19 #[94, 94, 94, 94, 94, 105, 114, 123, 128, 133, 138, 148, 153, 158, 172, 177, 182, 187, 187, 187], 94) := by decide +kernel
theorem dX12_count_100 : decode cX12_count 100 = .ok (.aload_n 0, 1) := by decide +kernel
theorem dX12_count_101 : decode cX12_count 101 = .ok (.getfield 62, 3) := by decide +kernel
theorem dX12_count_104 : decode cX12_count 104 = .ok (.sipush 163, 3) := by decide +kernel
theorem dX12_count_107 : decode cX12_count 107 = .ok (.iload_n 1, 1) := by decide +kernel
theorem dX12_count_108 : decode cX12_count 108 = .ok (.iadd, 1) := by decide +kernel
theorem dX12_count_109 : decode cX12_count 109 = .ok (.iaload, 1) := by decide +kernel
theorem dX12_count_110 : decode cX12_count 110 = .ok (.ireturn, 1) := by decide +kernel
theorem dX12_count_111 : decode cX12_count 111 = .ok (.aload_n 0, 1) := by decide +kernel
theorem dX12_count_112 : decode cX12_count 112 = .ok (.getfield 58, 3) := by decide +kernel
theorem dX12_count_115 : decode cX12_count 115 = .ok (.sipush 142, 3) := by decide +kernel
theorem dX12_count_118 : decode cX12_count 118 = .ok (.iaload, 1) := by decide +kernel
theorem dX12_count_119 : decode cX12_count 119 = .ok (.ireturn, 1) := by decide +kernel
theorem dX12_count_120 : decode cX12_count 120 = .ok (.aload_n 0, 1) := by decide +kernel
theorem dX12_count_121 : decode cX12_count 121 = .ok (.getfield 58, 3) := by decide +kernel
theorem dX12_count_124 : decode cX12_count 124 = .ok (.sipush 143, 3) := by decide +kernel
theorem dX12_count_127 : decode cX12_count 127 = .ok (.iaload, 1) := by decide +kernel
theorem dX12_count_128 : decode cX12_count 128 = .ok (.ireturn, 1) := by decide +kernel
theorem dX12_count_129 : decode cX12_count 129 = .ok (.aload_n 0, 1) := by decide +kernel
theorem dX12_count_130 : decode cX12_count 130 = .ok (.invokevirtual 345, 3) := by decide +kernel
theorem dX12_count_133 : decode cX12_count 133 = .ok (.ireturn, 1) := by decide +kernel
theorem dX12_count_134 : decode cX12_count 134 = .ok (.aload_n 0, 1) := by decide +kernel
theorem dX12_count_135 : decode cX12_count 135 = .ok (.invokevirtual 369, 3) := by decide +kernel
theorem dX12_count_138 : decode cX12_count 138 = .ok (.ireturn, 1) := by decide +kernel
theorem dX12_count_139 : decode cX12_count 139 = .ok (.aload_n 0, 1) := by decide +kernel
theorem dX12_count_140 : decode cX12_count 140 = .ok (.invokevirtual 362, 3) := by decide +kernel
theorem dX12_count_143 : decode cX12_count 143 = .ok (.ireturn, 1) := by decide +kernel
theorem dX12_count_144 : decode cX12_count 144 = .ok (.aload_n 0, 1) := by decide +kernel
theorem dX12_count_145 : decode cX12_count 145 = .ok (.invokevirtual 362, 3) := by decide +kernel
theorem dX12_count_148 : decode cX12_count 148 = .ok (.istore_n 2, 1) := by decide +kernel
theorem dX12_count_149 : decode cX12_count 149 = .ok (.aload_n 0, 1) := by decide +kernel
theorem dX12_count_150 : decode cX12_count 150 = .ok (.getfield 348, 3) := by decide +kernel
theorem dX12_count_153 : decode cX12_count 153 = .ok (.ireturn, 1) := by decide +kernel
theorem dX12_count_154 : decode cX12_count 154 = .ok (.aload_n 0, 1) := by decide +kernel
theorem dX12_count_155 : decode cX12_count 155 = .ok (.invokevirtual 372, 3) := by decide +kernel
theorem dX12_count_158 : decode cX12_count 158 = .ok (.ireturn, 1) := by decide +kernel
theorem dX12_count_159 : decode cX12_count 159 = .ok (.aload_n 0, 1) := by decide +kernel
theorem dX12_count_160 : decode cX12_count 160 = .ok (.invokevirtual 375, 3) := by decide +kernel
theorem dX12_count_163 : decode cX12_count 163 = .ok (.ireturn, 1) := by decide +kernel
theorem dX12_count_164 : decode cX12_count 164 = .ok (.bipush 40, 2) := by decide +kernel
theorem dX12_count_166 : decode cX12_count 166 = .ok (.aload_n 0, 1) := by decide +kernel
theorem dX12_count_167 : decode cX12_count 167 = .ok (.getfield 58, 3) := by decide +kernel
theorem dX12_count_170 : decode cX12_count 170 = .ok (.sipush 144, 3) := by decide +kernel
theorem dX12_count_173 : decode cX12_count 173 = .ok (.iaload, 1) := by decide +kernel
theorem dX12_count_174 : decode cX12_count 174 = .ok (.invokestatic 164, 3) := by decide +kernel
theorem dX12_count_177 : decode cX12_count 177 = .ok (.ireturn, 1) := by decide +kernel
theorem dX12_count_178 : decode cX12_count 178 = .ok (.aload_n 0, 1) := by decide +kernel
theorem dX12_count_179 : decode cX12_count 179 = .ok (.getfield 254, 3) := by decide +kernel
theorem dX12_count_182 : decode cX12_count 182 = .ok (.ireturn, 1) := by decide +kernel
theorem dX12_count_183 : decode cX12_count 183 = .ok (.aload_n 0, 1) := by decide +kernel
theorem dX12_count_184 : decode cX12_count 184 = .ok (.getfield 257, 3) := by decide +kernel
theorem dX12_count_187 : decode cX12_count 187 = .ok (.ireturn, 1) := by decide +kernel
theorem dX12_count_188 : decode cX12_count 188 = .ok (.aload_n 0, 1) := by decide +kernel
theorem dX12_count_189 : decode cX12_count 189 = .ok (.getfield 134, 3) := by decide +kernel
theorem dX12_count_192 : decode cX12_count 192 = .ok (.ireturn, 1) := by decide +kernel
theorem dX12_count_193 : decode cX12_count 193 = .ok (.aload_n 0, 1) := by decide +kernel
theorem dX12_count_194 : decode cX12_count 194 = .ok (.getfield 71, 3) := by decide +kernel
theorem dX12_count_197 : decode cX12_count 197 = .ok (.iload_n 1, 1) := by decide +kernel
theorem dX12_count_198 : decode cX12_count 198 = .ok (.bipush 17, 2) := by decide +kernel
theorem dX12_count_200 : decode cX12_count 200 = .ok (.isub, 1) := by decide +kernel
theorem dX12_count_201 : decode cX12_count 201 = .ok (.iaload, 1) := by decide +kernel
theorem dX12_count_202 : decode cX12_count 202 = .ok (.ireturn, 1) := by decide +kernel
theorem dX12_count_203 : decode cX12_count 203 = .ok (.aload_n 0, 1) := by decide +kernel
theorem dX12_count_204 : decode cX12_count 204 = .ok (.iconst 1, 1) := by decide +kernel
