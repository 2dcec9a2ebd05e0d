theorem dX7_copyFrom_117 : decode cX7_copyFrom 117 = .ok (.getfield 43, 3) := by decide +kernel
theorem dX7_copyFrom_120 : decode cX7_copyFrom 120 = .ok (.invokestatic 107, 3) := by decide +kernel
theorem dX7_copyFrom_123 : decode cX7_copyFrom 123 = .ok (.aload_n 1, 1) := by decide +kernel
theorem dX7_copyFrom_124 : decode cX7_copyFrom 124 = .ok (.getfield 46, 3) := by decide +kernel
theorem dX7_copyFrom_127 : decode cX7_copyFrom 127 = .ok (.aload_n 0, 1) := by decide +kernel
theorem dX7_copyFrom_128 : decode cX7_copyFrom 128 = .ok (.getfield 46, 3) := by decide +kernel
theorem dX7_copyFrom_131 : decode cX7_copyFrom 131 = .ok (.invokestatic 107, 3) := by decide +kernel
theorem dX7_copyFrom_134 : decode cX7_copyFrom 134 = .ok (.aload_n 1, 1) := by decide +kernel
theorem dX7_copyFrom_135 : decode cX7_copyFrom 135 = .ok (.getfield 49, 3) := by decide +kernel
theorem dX7_copyFrom_138 : decode cX7_copyFrom 138 = .ok (.aload_n 0, 1) := by decide +kernel
theorem dX7_copyFrom_139 : decode cX7_copyFrom 139 = .ok (.getfield 49, 3) := by decide +kernel
theorem dX7_copyFrom_142 : decode cX7_copyFrom 142 = .ok (.invokestatic 107, 3) := by decide +kernel
theorem dX7_copyFrom_145 : decode cX7_copyFrom 145 = .ok (.aload_n 1, 1) := by decide +kernel
theorem dX7_copyFrom_146 : decode cX7_copyFrom 146 = .ok (.getfield 52, 3) := by decide +kernel
theorem dX7_copyFrom_149 : decode cX7_copyFrom 149 = .ok (.aload_n 0, 1) := by decide +kernel
theorem dX7_copyFrom_150 : decode cX7_copyFrom 150 = .ok (.getfield 52, 3) := by decide +kernel
theorem dX7_copyFrom_153 : decode cX7_copyFrom 153 = .ok (.invokestatic 107, 3) := by decide +kernel
theorem dX7_copyFrom_156 : decode cX7_copyFrom 156 = .ok (.aload_n 1, 1) := by decide +kernel
theorem dX7_copyFrom_157 : decode cX7_copyFrom 157 = .ok (.getfield 55, 3) := by decide +kernel
theorem dX7_copyFrom_160 : decode cX7_copyFrom 160 = .ok (.aload_n 0, 1) := by decide +kernel
theorem dX7_copyFrom_161 : decode cX7_copyFrom 161 = .ok (.getfield 55, 3) := by decide +kernel
theorem dX7_copyFrom_164 : decode cX7_copyFrom 164 = .ok (.invokestatic 107, 3) := by decide +kernel
theorem dX7_copyFrom_167 : decode cX7_copyFrom 167 = .ok (.aload_n 1, 1) := by decide +kernel
theorem dX7_copyFrom_168 : decode cX7_copyFrom 168 = .ok (.getfield 58, 3) := by decide +kernel
theorem dX7_copyFrom_171 : decode cX7_copyFrom 171 = .ok (.aload_n 0, 1) := by decide +kernel
theorem dX7_copyFrom_172 : decode cX7_copyFrom 172 = .ok (.getfield 58, 3) := by decide +kernel
theorem dX7_copyFrom_175 : decode cX7_copyFrom 175 = .ok (.invokestatic 107, 3) := by decide +kernel
theorem dX7_copyFrom_178 : decode cX7_copyFrom 178 = .ok (.aload_n 0, 1) := by decide +kernel
theorem dX7_copyFrom_179 : decode cX7_copyFrom 179 = .ok (.aload_n 1, 1) := by decide +kernel
theorem dX7_copyFrom_180 : decode cX7_copyFrom 180 = .ok (.getfield 61, 3) := by decide +kernel
theorem dX7_copyFrom_183 : decode cX7_copyFrom 183 = .ok (.putfield 61, 3) := by decide +kernel
theorem dX7_copyFrom_186 : decode cX7_copyFrom 186 = .ok (.aload_n 0, 1) := by decide +kernel
theorem dX7_copyFrom_187 : decode cX7_copyFrom 187 = .ok (.aload_n 1, 1) := by decide +kernel
theorem dX7_copyFrom_188 : decode cX7_copyFrom 188 = .ok (.getfield 64, 3) := by decide +kernel
theorem dX7_copyFrom_191 : decode cX7_copyFrom 191 = .ok (.putfield 64, 3) := by decide +kernel
theorem dX7_copyFrom_194 : decode cX7_copyFrom 194 = .ok (.aload_n 0, 1) := by decide +kernel
theorem dX7_copyFrom_195 : decode cX7_copyFrom 195 = .ok (.aload_n 1, 1) := by decide +kernel
theorem dX7_copyFrom_196 : decode cX7_copyFrom 196 = .ok (.getfield 67, 3) := by decide +kernel
theorem dX7_copyFrom_199 : decode cX7_copyFrom 199 = .ok (.putfield 67, 3) := by decide +kernel
theorem dX7_copyFrom_202 : decode cX7_copyFrom 202 = .ok (.return_, 1) := by decide +kernel
theorem dX7_copyRow_0 : decode cX7_copyRow 0 = .ok (.aload_n 0, 1) := by decide +kernel
theorem dX7_copyRow_1 : decode cX7_copyRow 1 = .ok (.iconst 0, 1) := by decide +kernel
theorem dX7_copyRow_2 : decode cX7_copyRow 2 = .ok (.aload_n 1, 1) := by decide +kernel
theorem dX7_copyRow_3 : decode cX7_copyRow 3 = .ok (.iconst 0, 1) := by decide +kernel
theorem dX7_copyRow_4 : decode cX7_copyRow 4 = .ok (.aload_n 0, 1) := by decide +kernel
theorem dX7_copyRow_5 : decode cX7_copyRow 5 = .ok (.arraylength, 1) := by decide +kernel
theorem dX7_copyRow_6 : decode cX7_copyRow 6 = .ok (.aload_n 1, 1) := by decide +kernel
theorem dX7_copyRow_7 : decode cX7_copyRow 7 = .ok (.arraylength, 1) := by decide +kernel
theorem dX7_copyRow_8 : decode cX7_copyRow 8 = .ok (.invokestatic 111, 3) := by decide +kernel
theorem dX7_copyRow_11 : decode cX7_copyRow 11 = .ok (.invokestatic 117, 3) := by decide +kernel
theorem dX7_copyRow_14 : decode cX7_copyRow 14 = .ok (.return_, 1) := by decide +kernel
theorem dX7_isShut_0 : decode cX7_isShut 0 = .ok (.aload_n 0, 1) := by decide +kernel
theorem dX7_isShut_1 : decode cX7_isShut 1 = .ok (.getfield 34, 3) := by decide +kernel
theorem dX7_isShut_4 : decode cX7_isShut 4 = .ok (.iload_n 1, 1) := by decide +kernel
theorem dX7_isShut_5 : decode cX7_isShut 5 = .ok (.iaload, 1) := by decide +kernel
theorem dX7_isShut_6 : decode cX7_isShut 6 = .ok (.ifCond .eq 7, 3) := by decide +kernel
theorem dX7_isShut_9 : decode cX7_isShut 9 = .ok (.iconst 1, 1) := by decide +kernel
theorem dX7_isShut_10 : decode cX7_isShut 10 = .ok (.goto 4, 3) := by decide +kernel
theorem dX7_isShut_13 : decode cX7_isShut 13 = .ok (.iconst 0, 1) := by decide +kernel
theorem dX7_isShut_14 : decode cX7_isShut 14 = .ok (.ireturn, 1) := by decide +kernel
theorem dX7_shutBits_0 : decode cX7_shutBits 0 = .ok (.iconst 0, 1) := by decide +kernel
theorem dX7_shutBits_1 : decode cX7_shutBits 1 = .ok (.istore_n 1, 1) := by decide +kernel
theorem dX7_shutBits_2 : decode cX7_shutBits 2 = .ok (.iconst 0, 1) := by decide +kernel
theorem dX7_shutBits_3 : decode cX7_shutBits 3 = .ok (.istore_n 2, 1) := by decide +kernel
theorem dX7_shutBits_4 : decode cX7_shutBits 4 = .ok (.iload_n 2, 1) := by decide +kernel
theorem dX7_shutBits_5 : decode cX7_shutBits 5 = .ok (.aload_n 0, 1) := by decide +kernel
theorem dX7_shutBits_6 : decode cX7_shutBits 6 = .ok (.getfield 70, 3) := by decide +kernel
theorem dX7_shutBits_9 : decode cX7_shutBits 9 = .ok (.getfield 77, 3) := by decide +kernel
theorem dX7_shutBits_12 : decode cX7_shutBits 12 = .ok (.if_icmp .ge 27, 3) := by decide +kernel
theorem dX7_shutBits_15 : decode cX7_shutBits 15 = .ok (.iload_n 1, 1) := by decide +kernel
theorem dX7_shutBits_16 : decode cX7_shutBits 16 = .ok (.aload_n 0, 1) := by decide +kernel
theorem dX7_shutBits_17 : decode cX7_shutBits 17 = .ok (.iload_n 2, 1) := by decide +kernel
theorem dX7_shutBits_18 : decode cX7_shutBits 18 = .ok (.invokevirtual 123, 3) := by decide +kernel
theorem dX7_shutBits_21 : decode cX7_shutBits 21 = .ok (.ifCond .eq 9, 3) := by decide +kernel
theorem dX7_shutBits_24 : decode cX7_shutBits 24 = .ok (.iconst 1, 1) := by decide +kernel
theorem dX7_shutBits_25 : decode cX7_shutBits 25 = .ok (.iload_n 2, 1) := by decide +kernel
theorem dX7_shutBits_26 : decode cX7_shutBits 26 = .ok (.ishl, 1) := by decide +kernel
theorem dX7_shutBits_27 : decode cX7_shutBits 27 = .ok (.goto 4, 3) := by decide +kernel
theorem dX7_shutBits_30 : decode cX7_shutBits 30 = .ok (.iconst 0, 1) := by decide +kernel
theorem dX7_shutBits_31 : decode cX7_shutBits 31 = .ok (.ior, 1) := by decide +kernel
theorem dX7_shutBits_32 : decode cX7_shutBits 32 = .ok (.istore_n 1, 1) := by decide +kernel
theorem dX7_shutBits_33 : decode cX7_shutBits 33 = .ok (.iinc 2 1, 3) := by decide +kernel
theorem dX7_shutBits_36 : decode cX7_shutBits 36 = .ok (.goto (-32), 3) := by decide +kernel
theorem dX7_shutBits_39 : decode cX7_shutBits 39 = .ok (.iload_n 1, 1) := by decide +kernel
theorem dX7_shutBits_40 : decode cX7_shutBits 40 = .ok (.ireturn, 1) := by decide +kernel
theorem dX7_onBits_0 : decode cX7_onBits 0 = .ok (.iconst 0, 1) := by decide +kernel
theorem dX7_onBits_1 : decode cX7_onBits 1 = .ok (.istore_n 1, 1) := by decide +kernel
theorem dX7_onBits_2 : decode cX7_onBits 2 = .ok (.iconst 0, 1) := by decide +kernel
theorem dX7_onBits_3 : decode cX7_onBits 3 = .ok (.istore_n 2, 1) := by decide +kernel
theorem dX7_onBits_4 : decode cX7_onBits 4 = .ok (.iload_n 2, 1) := by decide +kernel
theorem dX7_onBits_5 : decode cX7_onBits 5 = .ok (.aload_n 0, 1) := by decide +kernel
theorem dX7_onBits_6 : decode cX7_onBits 6 = .ok (.getfield 70, 3) := by decide +kernel
theorem dX7_onBits_9 : decode cX7_onBits 9 = .ok (.getfield 127, 3) := by decide +kernel
theorem dX7_onBits_12 : decode cX7_onBits 12 = .ok (.if_icmp .ge 20, 3) := by decide +kernel
theorem dX7_onBits_15 : decode cX7_onBits 15 = .ok (.iload_n 1, 1) := by decide +kernel
theorem dX7_onBits_16 : decode cX7_onBits 16 = .ok (.aload_n 0, 1) := by decide +kernel
theorem dX7_onBits_17 : decode cX7_onBits 17 = .ok (.getfield 40, 3) := by decide +kernel
theorem dX7_onBits_20 : decode cX7_onBits 20 = .ok (.iload_n 2, 1) := by decide +kernel
theorem dX7_onBits_21 : decode cX7_onBits 21 = .ok (.iaload, 1) := by decide +kernel
theorem dX7_onBits_22 : decode cX7_onBits 22 = .ok (.iload_n 2, 1) := by decide +kernel
theorem dX7_onBits_23 : decode cX7_onBits 23 = .ok (.ishl, 1) := by decide +kernel
theorem dX7_onBits_24 : decode cX7_onBits 24 = .ok (.ior, 1) := by decide +kernel
theorem dX7_onBits_25 : decode cX7_onBits 25 = .ok (.istore_n 1, 1) := by decide +kernel
theorem dX7_onBits_26 : decode cX7_onBits 26 = .ok (.iinc 2 1, 3) := by decide +kernel
theorem dX7_onBits_29 : decode cX7_onBits 29 = .ok (.goto (-25), 3) := by decide +kernel
theorem dX7_onBits_32 : decode cX7_onBits 32 = .ok (.iload_n 1, 1) := by decide +kernel
theorem dX7_onBits_33 : decode cX7_onBits 33 = .ok (.ireturn, 1) := by decide +kernel
theorem dX7_isCriticalOn_0 : decode cX7_isCriticalOn 0 = .ok (.aload_n 0, 1) := by decide +kernel
theorem dX7_isCriticalOn_1 : decode cX7_isCriticalOn 1 = .ok (.getfield 70, 3) := by decide +kernel
theorem dX7_isCriticalOn_4 : decode cX7_isCriticalOn 4 = .ok (.iload_n 1, 1) := by decide +kernel
theorem dX7_isCriticalOn_5 : decode cX7_isCriticalOn 5 = .ok (.invokevirtual 130, 3) := by decide +kernel
theorem dX7_isCriticalOn_8 : decode cX7_isCriticalOn 8 = .ok (.istore_n 2, 1) := by decide +kernel
theorem dX7_isCriticalOn_9 : decode cX7_isCriticalOn 9 = .ok (.iload_n 2, 1) := by decide +kernel
theorem dX7_isCriticalOn_10 : decode cX7_isCriticalOn 10 = .ok (.iconst (-1), 1) := by decide +kernel
theorem dX7_isCriticalOn_11 : decode cX7_isCriticalOn 11 = .ok (.if_icmp .eq 17, 3) := by decide +kernel
theorem dX7_isCriticalOn_14 : decode cX7_isCriticalOn 14 = .ok (.aload_n 0, 1) := by decide +kernel
theorem dX7_isCriticalOn_15 : decode cX7_isCriticalOn 15 = .ok (.getfield 40, 3) := by decide +kernel
theorem dX7_isCriticalOn_18 : decode cX7_isCriticalOn 18 = .ok (.iload_n 2, 1) := by decide +kernel
theorem dX7_isCriticalOn_19 : decode cX7_isCriticalOn 19 = .ok (.iaload, 1) := by decide +kernel
theorem dX7_isCriticalOn_20 : decode cX7_isCriticalOn 20 = .ok (.iconst 1, 1) := by decide +kernel
theorem dX7_isCriticalOn_21 : decode cX7_isCriticalOn 21 = .ok (.if_icmp .ne 7, 3) := by decide +kernel
theorem dX7_isCriticalOn_24 : decode cX7_isCriticalOn 24 = .ok (.iconst 1, 1) := by decide +kernel
theorem dX7_isCriticalOn_25 : decode cX7_isCriticalOn 25 = .ok (.goto 4, 3) := by decide +kernel
theorem dX7_isCriticalOn_28 : decode cX7_isCriticalOn 28 = .ok (.iconst 0, 1) := by decide +kernel
theorem dX7_isCriticalOn_29 : decode cX7_isCriticalOn 29 = .ok (.ireturn, 1) := by decide +kernel
theorem dX7_margin_0 : decode cX7_margin 0 = .ok (.iconst (-1), 1) := by decide +kernel
theorem dX7_margin_1 : decode cX7_margin 1 = .ok (.istore_n 2, 1) := by decide +kernel
theorem dX7_margin_2 : decode cX7_margin 2 = .ok (.iconst 0, 1) := by decide +kernel
theorem dX7_margin_3 : decode cX7_margin 3 = .ok (.istore_n 3, 1) := by decide +kernel
theorem dX7_margin_4 : decode cX7_margin 4 = .ok (.iload_n 3, 1) := by decide +kernel
theorem dX7_margin_5 : decode cX7_margin 5 = .ok (.aload_n 0, 1) := by decide +kernel
theorem dX7_margin_6 : decode cX7_margin 6 = .ok (.getfield 70, 3) := by decide +kernel
theorem dX7_margin_9 : decode cX7_margin 9 = .ok (.getfield 127, 3) := by decide +kernel
theorem dX7_margin_12 : decode cX7_margin 12 = .ok (.if_icmp .ge 69, 3) := by decide +kernel
theorem dX7_margin_15 : decode cX7_margin 15 = .ok (.aload_n 0, 1) := by decide +kernel
theorem dX7_margin_16 : decode cX7_margin 16 = .ok (.getfield 70, 3) := by decide +kernel
theorem dX7_margin_19 : decode cX7_margin 19 = .ok (.getfield 134, 3) := by decide +kernel
theorem dX7_margin_22 : decode cX7_margin 22 = .ok (.iload_n 3, 1) := by decide +kernel
theorem dX7_margin_23 : decode cX7_margin 23 = .ok (.aaload, 1) := by decide +kernel
theorem dX7_margin_24 : decode cX7_margin 24 = .ok (.astore 4, 2) := by decide +kernel
theorem dX7_margin_26 : decode cX7_margin 26 = .ok (.aload 4, 2) := by decide +kernel
theorem dX7_margin_28 : decode cX7_margin 28 = .ok (.getfield 138, 3) := by decide +kernel
theorem dX7_margin_31 : decode cX7_margin 31 = .ok (.iload_n 1, 1) := by decide +kernel
theorem dX7_margin_32 : decode cX7_margin 32 = .ok (.if_icmp .ne 43, 3) := by decide +kernel
theorem dX7_margin_35 : decode cX7_margin 35 = .ok (.aload_n 0, 1) := by decide +kernel
theorem dX7_margin_36 : decode cX7_margin 36 = .ok (.getfield 40, 3) := by decide +kernel
theorem dX7_margin_39 : decode cX7_margin 39 = .ok (.iload_n 3, 1) := by decide +kernel
theorem dX7_margin_40 : decode cX7_margin 40 = .ok (.iaload, 1) := by decide +kernel
theorem dX7_margin_41 : decode cX7_margin 41 = .ok (.ifCond .ne 34, 3) := by decide +kernel
theorem dX7_margin_44 : decode cX7_margin 44 = .ok (.aload 4, 2) := by decide +kernel
theorem dX7_margin_46 : decode cX7_margin 46 = .ok (.getfield 143, 3) := by decide +kernel
theorem dX7_margin_49 : decode cX7_margin 49 = .ok (.aload_n 0, 1) := by decide +kernel
theorem dX7_margin_50 : decode cX7_margin 50 = .ok (.getfield 28, 3) := by decide +kernel
theorem dX7_margin_53 : decode cX7_margin 53 = .ok (.iload_n 1, 1) := by decide +kernel
theorem dX7_margin_54 : decode cX7_margin 54 = .ok (.iaload, 1) := by decide +kernel
theorem dX7_margin_55 : decode cX7_margin 55 = .ok (.isub, 1) := by decide +kernel
theorem dX7_margin_56 : decode cX7_margin 56 = .ok (.istore 5, 2) := by decide +kernel
theorem dX7_margin_58 : decode cX7_margin 58 = .ok (.iload_n 2, 1) := by decide +kernel
theorem dX7_margin_59 : decode cX7_margin 59 = .ok (.iconst (-1), 1) := by decide +kernel
theorem dX7_margin_60 : decode cX7_margin 60 = .ok (.if_icmp .ne 8, 3) := by decide +kernel
theorem dX7_margin_63 : decode cX7_margin 63 = .ok (.iload 5, 2) := by decide +kernel
theorem dX7_margin_65 : decode cX7_margin 65 = .ok (.goto 9, 3) := by decide +kernel
theorem dX7_margin_68 : decode cX7_margin 68 = .ok (.iload_n 2, 1) := by decide +kernel
theorem dX7_margin_69 : decode cX7_margin 69 = .ok (.iload 5, 2) := by decide +kernel
theorem dX7_margin_71 : decode cX7_margin 71 = .ok (.invokestatic 111, 3) := by decide +kernel
theorem dX7_margin_74 : decode cX7_margin 74 = .ok (.istore_n 2, 1) := by decide +kernel
theorem dX7_margin_75 : decode cX7_margin 75 = .ok (.iinc 3 1, 3) := by decide +kernel
theorem dX7_margin_78 : decode cX7_margin 78 = .ok (.goto (-74), 3) := by decide +kernel
theorem dX7_margin_81 : decode cX7_margin 81 = .ok (.iload_n 2, 1) := by decide +kernel
theorem dX7_margin_82 : decode cX7_margin 82 = .ok (.ireturn, 1) := by decide +kernel
theorem dX7_cooling_0 : decode cX7_cooling 0 = .ok (.iconst 0, 1) := by decide +kernel
theorem dX7_cooling_1 : decode cX7_cooling 1 = .ok (.istore_n 2, 1) := by decide +kernel
theorem dX7_cooling_2 : decode cX7_cooling 2 = .ok (.iconst 0, 1) := by decide +kernel
theorem dX7_cooling_3 : decode cX7_cooling 3 = .ok (.istore_n 3, 1) := by decide +kernel
theorem dX7_cooling_4 : decode cX7_cooling 4 = .ok (.iload_n 3, 1) := by decide +kernel
theorem dX7_cooling_5 : decode cX7_cooling 5 = .ok (.aload_n 0, 1) := by decide +kernel
theorem dX7_cooling_6 : decode cX7_cooling 6 = .ok (.getfield 70, 3) := by decide +kernel
theorem dX7_cooling_9 : decode cX7_cooling 9 = .ok (.getfield 96, 3) := by decide +kernel
theorem dX7_cooling_12 : decode cX7_cooling 12 = .ok (.if_icmp .ge 45, 3) := by decide +kernel
theorem dX7_cooling_15 : decode cX7_cooling 15 = .ok (.iload_n 2, 1) := by decide +kernel
theorem dX7_cooling_16 : decode cX7_cooling 16 = .ok (.aload_n 0, 1) := by decide +kernel
theorem dX7_cooling_17 : decode cX7_cooling 17 = .ok (.getfield 70, 3) := by decide +kernel
theorem dX7_cooling_20 : decode cX7_cooling 20 = .ok (.getfield 99, 3) := by decide +kernel
theorem dX7_cooling_23 : decode cX7_cooling 23 = .ok (.iload_n 3, 1) := by decide +kernel
theorem dX7_cooling_24 : decode cX7_cooling 24 = .ok (.aaload, 1) := by decide +kernel
theorem dX7_cooling_25 : decode cX7_cooling 25 = .ok (.getfield 146, 3) := by decide +kernel
theorem dX7_cooling_28 : decode cX7_cooling 28 = .ok (.iload_n 1, 1) := by decide +kernel
theorem dX7_cooling_29 : decode cX7_cooling 29 = .ok (.if_icmp .ne 19, 3) := by decide +kernel
theorem dX7_cooling_32 : decode cX7_cooling 32 = .ok (.aload_n 0, 1) := by decide +kernel
theorem dX7_cooling_33 : decode cX7_cooling 33 = .ok (.getfield 46, 3) := by decide +kernel
theorem dX7_cooling_36 : decode cX7_cooling 36 = .ok (.iload_n 3, 1) := by decide +kernel
theorem dX7_cooling_37 : decode cX7_cooling 37 = .ok (.iaload, 1) := by decide +kernel
theorem dX7_cooling_38 : decode cX7_cooling 38 = .ok (.aload_n 0, 1) := by decide +kernel
theorem dX7_cooling_39 : decode cX7_cooling 39 = .ok (.getfield 52, 3) := by decide +kernel
theorem dX7_cooling_42 : decode cX7_cooling 42 = .ok (.iload_n 3, 1) := by decide +kernel
theorem dX7_cooling_43 : decode cX7_cooling 43 = .ok (.iaload, 1) := by decide +kernel
theorem dX7_cooling_44 : decode cX7_cooling 44 = .ok (.imul, 1) := by decide +kernel
theorem dX7_cooling_45 : decode cX7_cooling 45 = .ok (.goto 4, 3) := by decide +kernel
theorem dX7_cooling_48 : decode cX7_cooling 48 = .ok (.iconst 0, 1) := by decide +kernel
theorem dX7_cooling_49 : decode cX7_cooling 49 = .ok (.iadd, 1) := by decide +kernel
theorem dX7_cooling_50 : decode cX7_cooling 50 = .ok (.istore_n 2, 1) := by decide +kernel
theorem dX7_cooling_51 : decode cX7_cooling 51 = .ok (.iinc 3 1, 3) := by decide +kernel
theorem dX7_cooling_54 : decode cX7_cooling 54 = .ok (.goto (-50), 3) := by decide +kernel
theorem dX7_cooling_57 : decode cX7_cooling 57 = .ok (.iload_n 2, 1) := by decide +kernel
theorem dX7_cooling_58 : decode cX7_cooling 58 = .ok (.ireturn, 1) := by decide +kernel
theorem dX7_allAtMost_0 : decode cX7_allAtMost 0 = .ok (.iconst 0, 1) := by decide +kernel
theorem dX7_allAtMost_1 : decode cX7_allAtMost 1 = .ok (.istore_n 2, 1) := by decide +kernel
theorem dX7_allAtMost_2 : decode cX7_allAtMost 2 = .ok (.iload_n 2, 1) := by decide +kernel
theorem dX7_allAtMost_3 : decode cX7_allAtMost 3 = .ok (.aload_n 0, 1) := by decide +kernel
theorem dX7_allAtMost_4 : decode cX7_allAtMost 4 = .ok (.getfield 70, 3) := by decide +kernel
theorem dX7_allAtMost_7 : decode cX7_allAtMost 7 = .ok (.getfield 96, 3) := by decide +kernel
theorem dX7_allAtMost_10 : decode cX7_allAtMost 10 = .ok (.if_icmp .ge 42, 3) := by decide +kernel
theorem dX7_allAtMost_13 : decode cX7_allAtMost 13 = .ok (.aload_n 0, 1) := by decide +kernel
theorem dX7_allAtMost_14 : decode cX7_allAtMost 14 = .ok (.getfield 70, 3) := by decide +kernel
theorem dX7_allAtMost_17 : decode cX7_allAtMost 17 = .ok (.getfield 99, 3) := by decide +kernel
theorem dX7_allAtMost_20 : decode cX7_allAtMost 20 = .ok (.iload_n 2, 1) := by decide +kernel
theorem dX7_allAtMost_21 : decode cX7_allAtMost 21 = .ok (.aaload, 1) := by decide +kernel
theorem dX7_allAtMost_22 : decode cX7_allAtMost 22 = .ok (.astore_n 3, 1) := by decide +kernel
theorem dX7_allAtMost_23 : decode cX7_allAtMost 23 = .ok (.aload_n 3, 1) := by decide +kernel
theorem dX7_allAtMost_24 : decode cX7_allAtMost 24 = .ok (.getfield 146, 3) := by decide +kernel
theorem dX7_allAtMost_27 : decode cX7_allAtMost 27 = .ok (.iload_n 1, 1) := by decide +kernel
theorem dX7_allAtMost_28 : decode cX7_allAtMost 28 = .ok (.if_icmp .ne 18, 3) := by decide +kernel
theorem dX7_allAtMost_31 : decode cX7_allAtMost 31 = .ok (.aload_n 0, 1) := by decide +kernel
theorem dX7_allAtMost_32 : decode cX7_allAtMost 32 = .ok (.getfield 46, 3) := by decide +kernel
theorem dX7_allAtMost_35 : decode cX7_allAtMost 35 = .ok (.iload_n 2, 1) := by decide +kernel
theorem dX7_allAtMost_36 : decode cX7_allAtMost 36 = .ok (.iaload, 1) := by decide +kernel
theorem dX7_allAtMost_37 : decode cX7_allAtMost 37 = .ok (.aload_n 3, 1) := by decide +kernel
theorem dX7_allAtMost_38 : decode cX7_allAtMost 38 = .ok (.getfield 147, 3) := by decide +kernel
theorem dX7_allAtMost_41 : decode cX7_allAtMost 41 = .ok (.if_icmp .ge 5, 3) := by decide +kernel
theorem dX7_allAtMost_44 : decode cX7_allAtMost 44 = .ok (.iconst 0, 1) := by decide +kernel
theorem dX7_allAtMost_45 : decode cX7_allAtMost 45 = .ok (.ireturn, 1) := by decide +kernel
theorem dX7_allAtMost_46 : decode cX7_allAtMost 46 = .ok (.iinc 2 1, 3) := by decide +kernel
theorem dX7_allAtMost_49 : decode cX7_allAtMost 49 = .ok (.goto (-47), 3) := by decide +kernel
theorem dX7_allAtMost_52 : decode cX7_allAtMost 52 = .ok (.iconst 1, 1) := by decide +kernel
theorem dX7_allAtMost_53 : decode cX7_allAtMost 53 = .ok (.ireturn, 1) := by decide +kernel
theorem dX7_asked_0 : decode cX7_asked 0 = .ok (.aload_n 0, 1) := by decide +kernel
theorem dX7_asked_1 : decode cX7_asked 1 = .ok (.getfield 70, 3) := by decide +kernel
theorem dX7_asked_4 : decode cX7_asked 4 = .ok (.getfield 134, 3) := by decide +kernel
theorem dX7_asked_7 : decode cX7_asked 7 = .ok (.iload_n 1, 1) := by decide +kernel
theorem dX7_asked_8 : decode cX7_asked 8 = .ok (.aaload, 1) := by decide +kernel
theorem dX7_asked_9 : decode cX7_asked 9 = .ok (.astore_n 2, 1) := by decide +kernel
theorem dX7_asked_10 : decode cX7_asked 10 = .ok (.aload_n 2, 1) := by decide +kernel
theorem dX7_asked_11 : decode cX7_asked 11 = .ok (.getfield 150, 3) := by decide +kernel
theorem dX7_asked_14 : decode cX7_asked 14 = .ok (.iconst 1, 1) := by decide +kernel
theorem dX7_asked_15 : decode cX7_asked 15 = .ok (.if_icmp .ne 12, 3) := by decide +kernel
theorem dX7_asked_18 : decode cX7_asked 18 = .ok (.aload_n 0, 1) := by decide +kernel
theorem dX7_asked_19 : decode cX7_asked 19 = .ok (.getfield 40, 3) := by decide +kernel
theorem dX7_asked_22 : decode cX7_asked 22 = .ok (.iload_n 1, 1) := by decide +kernel
theorem dX7_asked_23 : decode cX7_asked 23 = .ok (.iaload, 1) := by decide +kernel
theorem dX7_asked_24 : decode cX7_asked 24 = .ok (.ifCond .ne 5, 3) := by decide +kernel
theorem dX7_asked_27 : decode cX7_asked 27 = .ok (.iconst 0, 1) := by decide +kernel
theorem dX7_asked_28 : decode cX7_asked 28 = .ok (.ireturn, 1) := by decide +kernel
theorem dX7_asked_29 : decode cX7_asked 29 = .ok (.iconst 0, 1) := by decide +kernel
theorem dX7_asked_30 : decode cX7_asked 30 = .ok (.istore_n 3, 1) := by decide +kernel
theorem dX7_asked_31 : decode cX7_asked 31 = .ok (.aload_n 2, 1) := by decide +kernel
theorem dX7_asked_32 : decode cX7_asked 32 = .ok (.getfield 153, 3) := by decide +kernel
theorem dX7_asked_35 : decode cX7_asked 35 = .ok (.istore 4, 2) := by decide +kernel
theorem dX7_asked_37 : decode cX7_asked 37 = .ok (.iload 4, 2) := by decide +kernel
theorem dX7_asked_39 : decode cX7_asked 39 = .ok (.aload_n 2, 1) := by decide +kernel
theorem dX7_asked_40 : decode cX7_asked 40 = .ok (.getfield 156, 3) := by decide +kernel
theorem dX7_asked_43 : decode cX7_asked 43 = .ok (.if_icmp .ge 36, 3) := by decide +kernel
theorem dX7_asked_46 : decode cX7_asked 46 = .ok (.iload_n 3, 1) := by decide +kernel
theorem dX7_asked_47 : decode cX7_asked 47 = .ok (.aload_n 0, 1) := by decide +kernel
theorem dX7_asked_48 : decode cX7_asked 48 = .ok (.getfield 70, 3) := by decide +kernel
theorem dX7_asked_51 : decode cX7_asked 51 = .ok (.getfield 99, 3) := by decide +kernel
theorem dX7_asked_54 : decode cX7_asked 54 = .ok (.aload_n 0, 1) := by decide +kernel
theorem dX7_asked_55 : decode cX7_asked 55 = .ok (.getfield 70, 3) := by decide +kernel
theorem dX7_asked_58 : decode cX7_asked 58 = .ok (.getfield 159, 3) := by decide +kernel
theorem dX7_asked_61 : decode cX7_asked 61 = .ok (.iload 4, 2) := by decide +kernel
theorem dX7_asked_63 : decode cX7_asked 63 = .ok (.aaload, 1) := by decide +kernel
theorem dX7_asked_64 : decode cX7_asked 64 = .ok (.getfield 163, 3) := by decide +kernel
theorem dX7_asked_67 : decode cX7_asked 67 = .ok (.aaload, 1) := by decide +kernel
theorem dX7_asked_68 : decode cX7_asked 68 = .ok (.getfield 147, 3) := by decide +kernel
theorem dX7_asked_71 : decode cX7_asked 71 = .ok (.iadd, 1) := by decide +kernel
theorem dX7_asked_72 : decode cX7_asked 72 = .ok (.istore_n 3, 1) := by decide +kernel
theorem dX7_asked_73 : decode cX7_asked 73 = .ok (.iinc 4 1, 3) := by decide +kernel
theorem dX7_asked_76 : decode cX7_asked 76 = .ok (.goto (-39), 3) := by decide +kernel
theorem dX7_asked_79 : decode cX7_asked 79 = .ok (.iload_n 3, 1) := by decide +kernel
theorem dX7_asked_80 : decode cX7_asked 80 = .ok (.iconst 1, 1) := by decide +kernel
theorem dX7_asked_81 : decode cX7_asked 81 = .ok (.aload_n 0, 1) := by decide +kernel
theorem dX7_asked_82 : decode cX7_asked 82 = .ok (.getfield 28, 3) := by decide +kernel
theorem dX7_asked_85 : decode cX7_asked 85 = .ok (.aload_n 2, 1) := by decide +kernel
theorem dX7_asked_86 : decode cX7_asked 86 = .ok (.getfield 138, 3) := by decide +kernel
theorem dX7_asked_89 : decode cX7_asked 89 = .ok (.iaload, 1) := by decide +kernel
theorem dX7_asked_90 : decode cX7_asked 90 = .ok (.aload_n 2, 1) := by decide +kernel
theorem dX7_asked_91 : decode cX7_asked 91 = .ok (.getfield 143, 3) := by decide +kernel
theorem dX7_asked_94 : decode cX7_asked 94 = .ok (.isub, 1) := by decide +kernel
theorem dX7_asked_95 : decode cX7_asked 95 = .ok (.bipush 10, 2) := by decide +kernel
theorem dX7_asked_97 : decode cX7_asked 97 = .ok (.invokestatic 168, 3) := by decide +kernel
theorem dX7_asked_100 : decode cX7_asked 100 = .ok (.iconst 1, 1) := by decide +kernel
theorem dX7_asked_101 : decode cX7_asked 101 = .ok (.iadd, 1) := by decide +kernel
theorem dX7_asked_102 : decode cX7_asked 102 = .ok (.invokestatic 171, 3) := by decide +kernel
theorem dX7_asked_105 : decode cX7_asked 105 = .ok (.invokestatic 111, 3) := by decide +kernel
theorem dX7_asked_108 : decode cX7_asked 108 = .ok (.ireturn, 1) := by decide +kernel
theorem dX7_greatestWanted_0 : decode cX7_greatestWanted 0 = .ok (.iconst 0, 1) := by decide +kernel
theorem dX7_greatestWanted_1 : decode cX7_greatestWanted 1 = .ok (.istore_n 2, 1) := by decide +kernel
theorem dX7_greatestWanted_2 : decode cX7_greatestWanted 2 = .ok (.iconst 0, 1) := by decide +kernel
theorem dX7_greatestWanted_3 : decode cX7_greatestWanted 3 = .ok (.istore_n 3, 1) := by decide +kernel
theorem dX7_greatestWanted_4 : decode cX7_greatestWanted 4 = .ok (.iload_n 3, 1) := by decide +kernel
theorem dX7_greatestWanted_5 : decode cX7_greatestWanted 5 = .ok (.aload_n 0, 1) := by decide +kernel
theorem dX7_greatestWanted_6 : decode cX7_greatestWanted 6 = .ok (.getfield 70, 3) := by decide +kernel
theorem dX7_greatestWanted_9 : decode cX7_greatestWanted 9 = .ok (.getfield 174, 3) := by decide +kernel
theorem dX7_greatestWanted_12 : decode cX7_greatestWanted 12 = .ok (.if_icmp .ge 36, 3) := by decide +kernel
theorem dX7_greatestWanted_15 : decode cX7_greatestWanted 15 = .ok (.aload_n 0, 1) := by decide +kernel
theorem dX7_greatestWanted_16 : decode cX7_greatestWanted 16 = .ok (.getfield 70, 3) := by decide +kernel
theorem dX7_greatestWanted_19 : decode cX7_greatestWanted 19 = .ok (.getfield 159, 3) := by decide +kernel
theorem dX7_greatestWanted_22 : decode cX7_greatestWanted 22 = .ok (.iload_n 3, 1) := by decide +kernel
theorem dX7_greatestWanted_23 : decode cX7_greatestWanted 23 = .ok (.aaload, 1) := by decide +kernel
theorem dX7_greatestWanted_24 : decode cX7_greatestWanted 24 = .ok (.getfield 163, 3) := by decide +kernel
theorem dX7_greatestWanted_27 : decode cX7_greatestWanted 27 = .ok (.iload_n 1, 1) := by decide +kernel
theorem dX7_greatestWanted_28 : decode cX7_greatestWanted 28 = .ok (.if_icmp .ne 14, 3) := by decide +kernel
theorem dX7_greatestWanted_31 : decode cX7_greatestWanted 31 = .ok (.iload_n 2, 1) := by decide +kernel
theorem dX7_greatestWanted_32 : decode cX7_greatestWanted 32 = .ok (.aload_n 0, 1) := by decide +kernel
theorem dX7_greatestWanted_33 : decode cX7_greatestWanted 33 = .ok (.getfield 55, 3) := by decide +kernel
theorem dX7_greatestWanted_36 : decode cX7_greatestWanted 36 = .ok (.iload_n 3, 1) := by decide +kernel
theorem dX7_greatestWanted_37 : decode cX7_greatestWanted 37 = .ok (.iaload, 1) := by decide +kernel
theorem dX7_greatestWanted_38 : decode cX7_greatestWanted 38 = .ok (.invokestatic 171, 3) := by decide +kernel
theorem dX7_greatestWanted_41 : decode cX7_greatestWanted 41 = .ok (.istore_n 2, 1) := by decide +kernel
theorem dX7_greatestWanted_42 : decode cX7_greatestWanted 42 = .ok (.iinc 3 1, 3) := by decide +kernel
theorem dX7_greatestWanted_45 : decode cX7_greatestWanted 45 = .ok (.goto (-41), 3) := by decide +kernel
theorem dX7_greatestWanted_48 : decode cX7_greatestWanted 48 = .ok (.iload_n 2, 1) := by decide +kernel
theorem dX7_greatestWanted_49 : decode cX7_greatestWanted 49 = .ok (.ireturn, 1) := by decide +kernel
theorem dX7_shutZone_0 : decode cX7_shutZone 0 = .ok (.aload_n 0, 1) := by decide +kernel
theorem dX7_shutZone_1 : decode cX7_shutZone 1 = .ok (.getfield 34, 3) := by decide +kernel
theorem dX7_shutZone_4 : decode cX7_shutZone 4 = .ok (.iload_n 1, 1) := by decide +kernel
theorem dX7_shutZone_5 : decode cX7_shutZone 5 = .ok (.iload_n 3, 1) := by decide +kernel
theorem dX7_shutZone_6 : decode cX7_shutZone 6 = .ok (.iastore, 1) := by decide +kernel
theorem dX7_shutZone_7 : decode cX7_shutZone 7 = .ok (.aload_n 0, 1) := by decide +kernel
theorem dX7_shutZone_8 : decode cX7_shutZone 8 = .ok (.iload_n 3, 1) := by decide +kernel
theorem dX7_shutZone_9 : decode cX7_shutZone 9 = .ok (.iconst 1, 1) := by decide +kernel
theorem dX7_shutZone_10 : decode cX7_shutZone 10 = .ok (.if_icmp .ne 7, 3) := by decide +kernel
theorem dX7_shutZone_13 : decode cX7_shutZone 13 = .ok (.iconst 3, 1) := by decide +kernel
theorem dX7_shutZone_14 : decode cX7_shutZone 14 = .ok (.goto 4, 3) := by decide +kernel
theorem dX7_shutZone_17 : decode cX7_shutZone 17 = .ok (.iconst 4, 1) := by decide +kernel
theorem dX7_shutZone_18 : decode cX7_shutZone 18 = .ok (.iload_n 1, 1) := by decide +kernel
theorem dX7_shutZone_19 : decode cX7_shutZone 19 = .ok (.iload_n 2, 1) := by decide +kernel
theorem dX7_shutZone_20 : decode cX7_shutZone 20 = .ok (.invokevirtual 177, 3) := by decide +kernel
theorem dX7_shutZone_23 : decode cX7_shutZone 23 = .ok (.return_, 1) := by decide +kernel
theorem dX7_addLogRow_0 : decode cX7_addLogRow 0 = .ok (.aload_n 0, 1) := by decide +kernel
theorem dX7_addLogRow_1 : decode cX7_addLogRow 1 = .ok (.getfield 61, 3) := by decide +kernel
theorem dX7_addLogRow_4 : decode cX7_addLogRow 4 = .ok (.iconst 4, 1) := by decide +kernel
theorem dX7_addLogRow_5 : decode cX7_addLogRow 5 = .ok (.imul, 1) := by decide +kernel
theorem dX7_addLogRow_6 : decode cX7_addLogRow 6 = .ok (.istore 4, 2) := by decide +kernel
theorem dX7_addLogRow_8 : decode cX7_addLogRow 8 = .ok (.aload_n 0, 1) := by decide +kernel
theorem dX7_addLogRow_9 : decode cX7_addLogRow 9 = .ok (.getfield 58, 3) := by decide +kernel
theorem dX7_addLogRow_12 : decode cX7_addLogRow 12 = .ok (.iload 4, 2) := by decide +kernel
theorem dX7_addLogRow_14 : decode cX7_addLogRow 14 = .ok (.aload_n 0, 1) := by decide +kernel
theorem dX7_addLogRow_15 : decode cX7_addLogRow 15 = .ok (.getfield 9, 3) := by decide +kernel
theorem dX7_addLogRow_18 : decode cX7_addLogRow 18 = .ok (.iastore, 1) := by decide +kernel
theorem dX7_addLogRow_19 : decode cX7_addLogRow 19 = .ok (.aload_n 0, 1) := by decide +kernel
theorem dX7_addLogRow_20 : decode cX7_addLogRow 20 = .ok (.getfield 58, 3) := by decide +kernel
theorem dX7_addLogRow_23 : decode cX7_addLogRow 23 = .ok (.iload 4, 2) := by decide +kernel
theorem dX7_addLogRow_25 : decode cX7_addLogRow 25 = .ok (.iconst 1, 1) := by decide +kernel
theorem dX7_addLogRow_26 : decode cX7_addLogRow 26 = .ok (.iadd, 1) := by decide +kernel
theorem dX7_addLogRow_27 : decode cX7_addLogRow 27 = .ok (.iload_n 1, 1) := by decide +kernel
theorem dX7_addLogRow_28 : decode cX7_addLogRow 28 = .ok (.iastore, 1) := by decide +kernel
theorem dX7_addLogRow_29 : decode cX7_addLogRow 29 = .ok (.aload_n 0, 1) := by decide +kernel
theorem dX7_addLogRow_30 : decode cX7_addLogRow 30 = .ok (.getfield 58, 3) := by decide +kernel
theorem dX7_addLogRow_33 : decode cX7_addLogRow 33 = .ok (.iload 4, 2) := by decide +kernel
theorem dX7_addLogRow_35 : decode cX7_addLogRow 35 = .ok (.iconst 2, 1) := by decide +kernel
theorem dX7_addLogRow_36 : decode cX7_addLogRow 36 = .ok (.iadd, 1) := by decide +kernel
theorem dX7_addLogRow_37 : decode cX7_addLogRow 37 = .ok (.iload_n 2, 1) := by decide +kernel
theorem dX7_addLogRow_38 : decode cX7_addLogRow 38 = .ok (.iastore, 1) := by decide +kernel
theorem dX7_addLogRow_39 : decode cX7_addLogRow 39 = .ok (.aload_n 0, 1) := by decide +kernel
theorem dX7_addLogRow_40 : decode cX7_addLogRow 40 = .ok (.getfield 58, 3) := by decide +kernel
theorem dX7_addLogRow_43 : decode cX7_addLogRow 43 = .ok (.iload 4, 2) := by decide +kernel
theorem dX7_addLogRow_45 : decode cX7_addLogRow 45 = .ok (.iconst 3, 1) := by decide +kernel
theorem dX7_addLogRow_46 : decode cX7_addLogRow 46 = .ok (.iadd, 1) := by decide +kernel
theorem dX7_addLogRow_47 : decode cX7_addLogRow 47 = .ok (.iload_n 3, 1) := by decide +kernel
theorem dX7_addLogRow_48 : decode cX7_addLogRow 48 = .ok (.iastore, 1) := by decide +kernel
theorem dX7_addLogRow_49 : decode cX7_addLogRow 49 = .ok (.aload_n 0, 1) := by decide +kernel
theorem dX7_addLogRow_50 : decode cX7_addLogRow 50 = .ok (.aload_n 0, 1) := by decide +kernel
theorem dX7_addLogRow_51 : decode cX7_addLogRow 51 = .ok (.getfield 61, 3) := by decide +kernel
theorem dX7_addLogRow_54 : decode cX7_addLogRow 54 = .ok (.iconst 1, 1) := by decide +kernel
theorem dX7_addLogRow_55 : decode cX7_addLogRow 55 = .ok (.iadd, 1) := by decide +kernel
theorem dX7_addLogRow_56 : decode cX7_addLogRow 56 = .ok (.bipush 40, 2) := by decide +kernel
theorem dX7_addLogRow_58 : decode cX7_addLogRow 58 = .ok (.irem, 1) := by decide +kernel
theorem dX7_addLogRow_59 : decode cX7_addLogRow 59 = .ok (.putfield 61, 3) := by decide +kernel
theorem dX7_addLogRow_62 : decode cX7_addLogRow 62 = .ok (.aload_n 0, 1) := by decide +kernel
theorem dX7_addLogRow_63 : decode cX7_addLogRow 63 = .ok (.aload_n 0, 1) := by decide +kernel
theorem dX7_addLogRow_64 : decode cX7_addLogRow 64 = .ok (.getfield 64, 3) := by decide +kernel
theorem dX7_addLogRow_67 : decode cX7_addLogRow 67 = .ok (.iconst 1, 1) := by decide +kernel
theorem dX7_addLogRow_68 : decode cX7_addLogRow 68 = .ok (.iadd, 1) := by decide +kernel
theorem dX7_addLogRow_69 : decode cX7_addLogRow 69 = .ok (.bipush 40, 2) := by decide +kernel
theorem dX7_addLogRow_71 : decode cX7_addLogRow 71 = .ok (.invokestatic 111, 3) := by decide +kernel
theorem dX7_addLogRow_74 : decode cX7_addLogRow 74 = .ok (.putfield 64, 3) := by decide +kernel
theorem dX7_addLogRow_77 : decode cX7_addLogRow 77 = .ok (.aload_n 0, 1) := by decide +kernel
theorem dX7_addLogRow_78 : decode cX7_addLogRow 78 = .ok (.dup, 1) := by decide +kernel
theorem dX7_addLogRow_79 : decode cX7_addLogRow 79 = .ok (.getfield 67, 3) := by decide +kernel
theorem dX7_addLogRow_82 : decode cX7_addLogRow 82 = .ok (.iconst 1, 1) := by decide +kernel
theorem dX7_addLogRow_83 : decode cX7_addLogRow 83 = .ok (.iadd, 1) := by decide +kernel
theorem dX7_addLogRow_84 : decode cX7_addLogRow 84 = .ok (.putfield 67, 3) := by decide +kernel
theorem dX7_addLogRow_87 : decode cX7_addLogRow 87 = .ok (.return_, 1) := by decide +kernel
theorem dX7_logCell_0 : decode cX7_logCell 0 = .ok (.aload_n 0, 1) := by decide +kernel
theorem dX7_logCell_1 : decode cX7_logCell 1 = .ok (.getfield 61, 3) := by decide +kernel
theorem dX7_logCell_4 : decode cX7_logCell 4 = .ok (.iconst 1, 1) := by decide +kernel
theorem dX7_logCell_5 : decode cX7_logCell 5 = .ok (.isub, 1) := by decide +kernel
theorem dX7_logCell_6 : decode cX7_logCell 6 = .ok (.iload_n 1, 1) := by decide +kernel
theorem dX7_logCell_7 : decode cX7_logCell 7 = .ok (.isub, 1) := by decide +kernel
theorem dX7_logCell_8 : decode cX7_logCell 8 = .ok (.bipush 40, 2) := by decide +kernel
theorem dX7_logCell_10 : decode cX7_logCell 10 = .ok (.invokestatic 181, 3) := by decide +kernel
theorem dX7_logCell_13 : decode cX7_logCell 13 = .ok (.istore_n 3, 1) := by decide +kernel
theorem dX7_logCell_14 : decode cX7_logCell 14 = .ok (.aload_n 0, 1) := by decide +kernel
theorem dX7_logCell_15 : decode cX7_logCell 15 = .ok (.getfield 58, 3) := by decide +kernel
theorem dX7_logCell_18 : decode cX7_logCell 18 = .ok (.iload_n 3, 1) := by decide +kernel
theorem dX7_logCell_19 : decode cX7_logCell 19 = .ok (.iconst 4, 1) := by decide +kernel
theorem dX7_logCell_20 : decode cX7_logCell 20 = .ok (.imul, 1) := by decide +kernel
theorem dX7_logCell_21 : decode cX7_logCell 21 = .ok (.iload_n 2, 1) := by decide +kernel
theorem dX7_logCell_22 : decode cX7_logCell 22 = .ok (.iadd, 1) := by decide +kernel
theorem dX7_logCell_23 : decode cX7_logCell 23 = .ok (.iaload, 1) := by decide +kernel
theorem dX7_logCell_24 : decode cX7_logCell 24 = .ok (.ireturn, 1) := by decide +kernel
theorem dX7_isLike_0 : decode cX7_isLike 0 = .ok (.aload_n 0, 1) := by decide +kernel
theorem dX7_isLike_1 : decode cX7_isLike 1 = .ok (.aload_n 1, 1) := by decide +kernel
theorem dX7_isLike_2 : decode cX7_isLike 2 = .ok (.invokevirtual 184, 3) := by decide +kernel
theorem dX7_isLike_5 : decode cX7_isLike 5 = .ok (.ifCond .eq 70, 3) := by decide +kernel
theorem dX7_isLike_8 : decode cX7_isLike 8 = .ok (.aload_n 0, 1) := by decide +kernel
theorem dX7_isLike_9 : decode cX7_isLike 9 = .ok (.getfield 40, 3) := by decide +kernel
theorem dX7_isLike_12 : decode cX7_isLike 12 = .ok (.aload_n 1, 1) := by decide +kernel
theorem dX7_isLike_13 : decode cX7_isLike 13 = .ok (.getfield 40, 3) := by decide +kernel
theorem dX7_isLike_16 : decode cX7_isLike 16 = .ok (.aload_n 0, 1) := by decide +kernel
theorem dX7_isLike_17 : decode cX7_isLike 17 = .ok (.getfield 70, 3) := by decide +kernel
theorem dX7_isLike_20 : decode cX7_isLike 20 = .ok (.getfield 127, 3) := by decide +kernel
theorem dX7_isLike_23 : decode cX7_isLike 23 = .ok (.invokestatic 188, 3) := by decide +kernel
theorem dX7_isLike_26 : decode cX7_isLike 26 = .ok (.ifCond .eq 49, 3) := by decide +kernel
theorem dX7_isLike_29 : decode cX7_isLike 29 = .ok (.aload_n 0, 1) := by decide +kernel
theorem dX7_isLike_30 : decode cX7_isLike 30 = .ok (.getfield 46, 3) := by decide +kernel
theorem dX7_isLike_33 : decode cX7_isLike 33 = .ok (.aload_n 1, 1) := by decide +kernel
theorem dX7_isLike_34 : decode cX7_isLike 34 = .ok (.getfield 46, 3) := by decide +kernel
theorem dX7_isLike_37 : decode cX7_isLike 37 = .ok (.aload_n 0, 1) := by decide +kernel
theorem dX7_isLike_38 : decode cX7_isLike 38 = .ok (.getfield 70, 3) := by decide +kernel
theorem dX7_isLike_41 : decode cX7_isLike 41 = .ok (.getfield 96, 3) := by decide +kernel
theorem dX7_isLike_44 : decode cX7_isLike 44 = .ok (.invokestatic 188, 3) := by decide +kernel
theorem dX7_isLike_47 : decode cX7_isLike 47 = .ok (.ifCond .eq 28, 3) := by decide +kernel
theorem dX7_isLike_50 : decode cX7_isLike 50 = .ok (.aload_n 0, 1) := by decide +kernel
theorem dX7_isLike_51 : decode cX7_isLike 51 = .ok (.getfield 55, 3) := by decide +kernel
theorem dX7_isLike_54 : decode cX7_isLike 54 = .ok (.aload_n 1, 1) := by decide +kernel
theorem dX7_isLike_55 : decode cX7_isLike 55 = .ok (.getfield 55, 3) := by decide +kernel
theorem dX7_isLike_58 : decode cX7_isLike 58 = .ok (.aload_n 0, 1) := by decide +kernel
theorem dX7_isLike_59 : decode cX7_isLike 59 = .ok (.getfield 70, 3) := by decide +kernel
theorem dX7_isLike_62 : decode cX7_isLike 62 = .ok (.getfield 174, 3) := by decide +kernel
theorem dX7_isLike_65 : decode cX7_isLike 65 = .ok (.invokestatic 188, 3) := by decide +kernel
theorem dX7_isLike_68 : decode cX7_isLike 68 = .ok (.ifCond .eq 7, 3) := by decide +kernel
theorem dX7_isLike_71 : decode cX7_isLike 71 = .ok (.iconst 1, 1) := by decide +kernel
theorem dX7_isLike_72 : decode cX7_isLike 72 = .ok (.goto 4, 3) := by decide +kernel
theorem dX7_isLike_75 : decode cX7_isLike 75 = .ok (.iconst 0, 1) := by decide +kernel
theorem dX7_isLike_76 : decode cX7_isLike 76 = .ok (.ireturn, 1) := by decide +kernel
theorem dX7_zonesLike_0 : decode cX7_zonesLike 0 = .ok (.aload_n 0, 1) := by decide +kernel
theorem dX7_zonesLike_1 : decode cX7_zonesLike 1 = .ok (.getfield 18, 3) := by decide +kernel
theorem dX7_zonesLike_4 : decode cX7_zonesLike 4 = .ok (.aload_n 1, 1) := by decide +kernel
theorem dX7_zonesLike_5 : decode cX7_zonesLike 5 = .ok (.getfield 18, 3) := by decide +kernel
theorem dX7_zonesLike_8 : decode cX7_zonesLike 8 = .ok (.aload_n 0, 1) := by decide +kernel
theorem dX7_zonesLike_9 : decode cX7_zonesLike 9 = .ok (.getfield 70, 3) := by decide +kernel
theorem dX7_zonesLike_12 : decode cX7_zonesLike 12 = .ok (.getfield 77, 3) := by decide +kernel
theorem dX7_zonesLike_15 : decode cX7_zonesLike 15 = .ok (.invokestatic 188, 3) := by decide +kernel
theorem dX7_zonesLike_18 : decode cX7_zonesLike 18 = .ok (.ifCond .eq 24, 3) := by decide +kernel
theorem dX7_zonesLike_21 : decode cX7_zonesLike 21 = .ok (.aload_n 0, 1) := by decide +kernel
theorem dX7_zonesLike_22 : decode cX7_zonesLike 22 = .ok (.getfield 28, 3) := by decide +kernel
theorem dX7_zonesLike_25 : decode cX7_zonesLike 25 = .ok (.aload_n 1, 1) := by decide +kernel
theorem dX7_zonesLike_26 : decode cX7_zonesLike 26 = .ok (.getfield 28, 3) := by decide +kernel
theorem dX7_zonesLike_29 : decode cX7_zonesLike 29 = .ok (.aload_n 0, 1) := by decide +kernel
theorem dX7_zonesLike_30 : decode cX7_zonesLike 30 = .ok (.getfield 70, 3) := by decide +kernel
theorem dX7_zonesLike_33 : decode cX7_zonesLike 33 = .ok (.getfield 77, 3) := by decide +kernel
theorem dX7_zonesLike_36 : decode cX7_zonesLike 36 = .ok (.invokestatic 188, 3) := by decide +kernel
theorem dX7_zonesLike_39 : decode cX7_zonesLike 39 = .ok (.ifCond .ne 5, 3) := by decide +kernel
theorem dX7_zonesLike_42 : decode cX7_zonesLike 42 = .ok (.iconst 0, 1) := by decide +kernel
theorem dX7_zonesLike_43 : decode cX7_zonesLike 43 = .ok (.ireturn, 1) := by decide +kernel
theorem dX7_zonesLike_44 : decode cX7_zonesLike 44 = .ok (.iconst 0, 1) := by decide +kernel
theorem dX7_zonesLike_45 : decode cX7_zonesLike 45 = .ok (.istore_n 2, 1) := by decide +kernel
theorem dX7_zonesLike_46 : decode cX7_zonesLike 46 = .ok (.iload_n 2, 1) := by decide +kernel
theorem dX7_zonesLike_47 : decode cX7_zonesLike 47 = .ok (.aload_n 0, 1) := by decide +kernel
theorem dX7_zonesLike_48 : decode cX7_zonesLike 48 = .ok (.getfield 70, 3) := by decide +kernel
theorem dX7_zonesLike_51 : decode cX7_zonesLike 51 = .ok (.getfield 77, 3) := by decide +kernel
theorem dX7_zonesLike_54 : decode cX7_zonesLike 54 = .ok (.if_icmp .ge 33, 3) := by decide +kernel
theorem dX7_zonesLike_57 : decode cX7_zonesLike 57 = .ok (.aload_n 0, 1) := by decide +kernel
theorem dX7_zonesLike_58 : decode cX7_zonesLike 58 = .ok (.iload_n 2, 1) := by decide +kernel
theorem dX7_zonesLike_59 : decode cX7_zonesLike 59 = .ok (.invokevirtual 123, 3) := by decide +kernel
theorem dX7_zonesLike_62 : decode cX7_zonesLike 62 = .ok (.aload_n 1, 1) := by decide +kernel
theorem dX7_zonesLike_63 : decode cX7_zonesLike 63 = .ok (.iload_n 2, 1) := by decide +kernel
theorem dX7_zonesLike_64 : decode cX7_zonesLike 64 = .ok (.invokevirtual 123, 3) := by decide +kernel
theorem dX7_zonesLike_67 : decode cX7_zonesLike 67 = .ok (.if_icmp .ne 12, 3) := by decide +kernel
theorem dX7_zonesLike_70 : decode cX7_zonesLike 70 = .ok (.aload_n 0, 1) := by decide +kernel
theorem dX7_zonesLike_71 : decode cX7_zonesLike 71 = .ok (.aload_n 1, 1) := by decide +kernel
theorem dX7_zonesLike_72 : decode cX7_zonesLike 72 = .ok (.iload_n 2, 1) := by decide +kernel
theorem dX7_zonesLike_73 : decode cX7_zonesLike 73 = .ok (.invokevirtual 192, 3) := by decide +kernel
theorem dX7_zonesLike_76 : decode cX7_zonesLike 76 = .ok (.ifCond .ne 5, 3) := by decide +kernel
theorem dX7_zonesLike_79 : decode cX7_zonesLike 79 = .ok (.iconst 0, 1) := by decide +kernel
theorem dX7_zonesLike_80 : decode cX7_zonesLike 80 = .ok (.ireturn, 1) := by decide +kernel
theorem dX7_zonesLike_81 : decode cX7_zonesLike 81 = .ok (.iinc 2 1, 3) := by decide +kernel
theorem dX7_zonesLike_84 : decode cX7_zonesLike 84 = .ok (.goto (-38), 3) := by decide +kernel
theorem dX7_zonesLike_87 : decode cX7_zonesLike 87 = .ok (.iconst 1, 1) := by decide +kernel
theorem dX7_zonesLike_88 : decode cX7_zonesLike 88 = .ok (.ireturn, 1) := by decide +kernel
theorem dX7_readingsLike_0 : decode cX7_readingsLike 0 = .ok (.iload_n 2, 1) := by decide +kernel
theorem dX7_readingsLike_1 : decode cX7_readingsLike 1 = .ok (.iconst 4, 1) := by decide +kernel
theorem dX7_readingsLike_2 : decode cX7_readingsLike 2 = .ok (.imul, 1) := by decide +kernel
theorem dX7_readingsLike_3 : decode cX7_readingsLike 3 = .ok (.istore_n 3, 1) := by decide +kernel
theorem dX7_readingsLike_4 : decode cX7_readingsLike 4 = .ok (.iload_n 3, 1) := by decide +kernel
theorem dX7_readingsLike_5 : decode cX7_readingsLike 5 = .ok (.istore 4, 2) := by decide +kernel
theorem dX7_readingsLike_7 : decode cX7_readingsLike 7 = .ok (.iload 4, 2) := by decide +kernel
theorem dX7_readingsLike_9 : decode cX7_readingsLike 9 = .ok (.iload_n 3, 1) := by decide +kernel
theorem dX7_readingsLike_10 : decode cX7_readingsLike 10 = .ok (.aload_n 0, 1) := by decide +kernel
theorem dX7_readingsLike_11 : decode cX7_readingsLike 11 = .ok (.getfield 70, 3) := by decide +kernel
theorem dX7_readingsLike_14 : decode cX7_readingsLike 14 = .ok (.getfield 80, 3) := by decide +kernel
theorem dX7_readingsLike_17 : decode cX7_readingsLike 17 = .ok (.iload_n 2, 1) := by decide +kernel
theorem dX7_readingsLike_18 : decode cX7_readingsLike 18 = .ok (.aaload, 1) := by decide +kernel
theorem dX7_readingsLike_19 : decode cX7_readingsLike 19 = .ok (.invokevirtual 196, 3) := by decide +kernel
theorem dX7_readingsLike_22 : decode cX7_readingsLike 22 = .ok (.iadd, 1) := by decide +kernel
theorem dX7_readingsLike_23 : decode cX7_readingsLike 23 = .ok (.if_icmp .ge 28, 3) := by decide +kernel
theorem dX7_readingsLike_26 : decode cX7_readingsLike 26 = .ok (.aload_n 0, 1) := by decide +kernel
theorem dX7_readingsLike_27 : decode cX7_readingsLike 27 = .ok (.getfield 37, 3) := by decide +kernel
theorem dX7_readingsLike_30 : decode cX7_readingsLike 30 = .ok (.iload 4, 2) := by decide +kernel
theorem dX7_readingsLike_32 : decode cX7_readingsLike 32 = .ok (.iaload, 1) := by decide +kernel
theorem dX7_readingsLike_33 : decode cX7_readingsLike 33 = .ok (.aload_n 1, 1) := by decide +kernel
theorem dX7_readingsLike_34 : decode cX7_readingsLike 34 = .ok (.getfield 37, 3) := by decide +kernel
theorem dX7_readingsLike_37 : decode cX7_readingsLike 37 = .ok (.iload 4, 2) := by decide +kernel
theorem dX7_readingsLike_39 : decode cX7_readingsLike 39 = .ok (.iaload, 1) := by decide +kernel
theorem dX7_readingsLike_40 : decode cX7_readingsLike 40 = .ok (.if_icmp .eq 5, 3) := by decide +kernel
theorem dX7_readingsLike_43 : decode cX7_readingsLike 43 = .ok (.iconst 0, 1) := by decide +kernel
theorem dX7_readingsLike_44 : decode cX7_readingsLike 44 = .ok (.ireturn, 1) := by decide +kernel
theorem dX7_readingsLike_45 : decode cX7_readingsLike 45 = .ok (.iinc 4 1, 3) := by decide +kernel
theorem dX7_readingsLike_48 : decode cX7_readingsLike 48 = .ok (.goto (-41), 3) := by decide +kernel
theorem dX7_readingsLike_51 : decode cX7_readingsLike 51 = .ok (.iconst 1, 1) := by decide +kernel
theorem dX7_readingsLike_52 : decode cX7_readingsLike 52 = .ok (.ireturn, 1) := by decide +kernel
theorem dX7_sameRows_0 : decode cX7_sameRows 0 = .ok (.iconst 0, 1) := by decide +kernel
theorem dX7_sameRows_1 : decode cX7_sameRows 1 = .ok (.istore_n 3, 1) := by decide +kernel
theorem dX7_sameRows_2 : decode cX7_sameRows 2 = .ok (.iload_n 3, 1) := by decide +kernel
theorem dX7_sameRows_3 : decode cX7_sameRows 3 = .ok (.iload_n 2, 1) := by decide +kernel
theorem dX7_sameRows_4 : decode cX7_sameRows 4 = .ok (.if_icmp .ge 20, 3) := by decide +kernel
theorem dX7_sameRows_7 : decode cX7_sameRows 7 = .ok (.aload_n 0, 1) := by decide +kernel
theorem dX7_sameRows_8 : decode cX7_sameRows 8 = .ok (.iload_n 3, 1) := by decide +kernel
theorem dX7_sameRows_9 : decode cX7_sameRows 9 = .ok (.iaload, 1) := by decide +kernel
theorem dX7_sameRows_10 : decode cX7_sameRows 10 = .ok (.aload_n 1, 1) := by decide +kernel
theorem dX7_sameRows_11 : decode cX7_sameRows 11 = .ok (.iload_n 3, 1) := by decide +kernel
theorem dX7_sameRows_12 : decode cX7_sameRows 12 = .ok (.iaload, 1) := by decide +kernel
theorem dX7_sameRows_13 : decode cX7_sameRows 13 = .ok (.if_icmp .eq 5, 3) := by decide +kernel
theorem dX7_sameRows_16 : decode cX7_sameRows 16 = .ok (.iconst 0, 1) := by decide +kernel
theorem dX7_sameRows_17 : decode cX7_sameRows 17 = .ok (.ireturn, 1) := by decide +kernel
theorem dX7_sameRows_18 : decode cX7_sameRows 18 = .ok (.iinc 3 1, 3) := by decide +kernel
theorem dX7_sameRows_21 : decode cX7_sameRows 21 = .ok (.goto (-19), 3) := by decide +kernel
theorem dX7_sameRows_24 : decode cX7_sameRows 24 = .ok (.iconst 1, 1) := by decide +kernel
theorem dX7_sameRows_25 : decode cX7_sameRows 25 = .ok (.ireturn, 1) := by decide +kernel
theorem dX8_init_0 : decode cX8_init 0 = .ok (.aload_n 0, 1) := by decide +kernel
theorem dX8_init_1 : decode cX8_init 1 = .ok (.invokespecial 3, 3) := by decide +kernel
theorem dX8_init_4 : decode cX8_init 4 = .ok (.aload_n 0, 1) := by decide +kernel
theorem dX8_init_5 : decode cX8_init 5 = .ok (.iconst 0, 1) := by decide +kernel
theorem dX8_init_6 : decode cX8_init 6 = .ok (.putfield 9, 3) := by decide +kernel
theorem dX8_init_9 : decode cX8_init 9 = .ok (.aload_n 0, 1) := by decide +kernel
theorem dX8_init_10 : decode cX8_init 10 = .ok (.iconst 0, 1) := by decide +kernel
theorem dX8_init_11 : decode cX8_init 11 = .ok (.putfield 15, 3) := by decide +kernel
theorem dX8_init_14 : decode cX8_init 14 = .ok (.aload_n 0, 1) := by decide +kernel
theorem dX8_init_15 : decode cX8_init 15 = .ok (.sipush 200, 3) := by decide +kernel
theorem dX8_init_18 : decode cX8_init 18 = .ok (.putfield 18, 3) := by decide +kernel
theorem dX8_init_21 : decode cX8_init 21 = .ok (.aload_n 0, 1) := by decide +kernel
theorem dX8_init_22 : decode cX8_init 22 = .ok (.iconst 0, 1) := by decide +kernel
theorem dX8_init_23 : decode cX8_init 23 = .ok (.putfield 21, 3) := by decide +kernel
theorem dX8_init_26 : decode cX8_init 26 = .ok (.aload_n 0, 1) := by decide +kernel
theorem dX8_init_27 : decode cX8_init 27 = .ok (.iconst 0, 1) := by decide +kernel
theorem dX8_init_28 : decode cX8_init 28 = .ok (.putfield 24, 3) := by decide +kernel
theorem dX8_init_31 : decode cX8_init 31 = .ok (.aload_n 0, 1) := by decide +kernel
theorem dX8_init_32 : decode cX8_init 32 = .ok (.iconst 0, 1) := by decide +kernel
theorem dX8_init_33 : decode cX8_init 33 = .ok (.putfield 27, 3) := by decide +kernel
theorem dX8_init_36 : decode cX8_init 36 = .ok (.return_, 1) := by decide +kernel
theorem dX9_init_0 : decode cX9_init 0 = .ok (.aload_n 0, 1) := by decide +kernel
theorem dX9_init_1 : decode cX9_init 1 = .ok (.invokespecial 1, 3) := by decide +kernel
theorem dX9_init_4 : decode cX9_init 4 = .ok (.aload_n 0, 1) := by decide +kernel
theorem dX9_init_5 : decode cX9_init 5 = .ok (.iconst 0, 1) := by decide +kernel
theorem dX9_init_6 : decode cX9_init 6 = .ok (.putfield 7, 3) := by decide +kernel
theorem dX9_init_9 : decode cX9_init 9 = .ok (.aload_n 0, 1) := by decide +kernel
theorem dX9_init_10 : decode cX9_init 10 = .ok (.iconst 0, 1) := by decide +kernel
theorem dX9_init_11 : decode cX9_init 11 = .ok (.putfield 13, 3) := by decide +kernel
theorem dX9_init_14 : decode cX9_init 14 = .ok (.aload_n 0, 1) := by decide +kernel
theorem dX9_init_15 : decode cX9_init 15 = .ok (.iconst 1, 1) := by decide +kernel
theorem dX9_init_16 : decode cX9_init 16 = .ok (.putfield 16, 3) := by decide +kernel
theorem dX9_init_19 : decode cX9_init 19 = .ok (.return_, 1) := by decide +kernel
theorem dX10_init_0 : decode cX10_init 0 = .ok (.aload_n 0, 1) := by decide +kernel
theorem dX10_init_1 : decode cX10_init 1 = .ok (.invokespecial 3, 3) := by decide +kernel
theorem dX10_init_4 : decode cX10_init 4 = .ok (.aload_n 0, 1) := by decide +kernel
theorem dX10_init_5 : decode cX10_init 5 = .ok (.iconst 0, 1) := by decide +kernel
theorem dX10_init_6 : decode cX10_init 6 = .ok (.putfield 9, 3) := by decide +kernel
theorem dX10_init_9 : decode cX10_init 9 = .ok (.aload_n 0, 1) := by decide +kernel
theorem dX10_init_10 : decode cX10_init 10 = .ok (.iconst 1, 1) := by decide +kernel
theorem dX10_init_11 : decode cX10_init 11 = .ok (.putfield 15, 3) := by decide +kernel
theorem dX10_init_14 : decode cX10_init 14 = .ok (.aload_n 0, 1) := by decide +kernel
theorem dX10_init_15 : decode cX10_init 15 = .ok (.iconst 0, 1) := by decide +kernel
theorem dX10_init_16 : decode cX10_init 16 = .ok (.putfield 18, 3) := by decide +kernel
theorem dX10_init_19 : decode cX10_init 19 = .ok (.aload_n 0, 1) := by decide +kernel
theorem dX10_init_20 : decode cX10_init 20 = .ok (.iconst 1, 1) := by decide +kernel
theorem dX10_init_21 : decode cX10_init 21 = .ok (.putfield 21, 3) := by decide +kernel
theorem dX10_init_24 : decode cX10_init 24 = .ok (.return_, 1) := by decide +kernel
theorem dX10_window_0 : decode cX10_window 0 = .ok (.aload_n 0, 1) := by decide +kernel
theorem dX10_window_1 : decode cX10_window 1 = .ok (.getfield 18, 3) := by decide +kernel
theorem dX10_window_4 : decode cX10_window 4 = .ok (.iconst 1, 1) := by decide +kernel
theorem dX10_window_5 : decode cX10_window 5 = .ok (.if_icmp .eq 11, 3) := by decide +kernel
theorem dX10_window_8 : decode cX10_window 8 = .ok (.aload_n 0, 1) := by decide +kernel
theorem dX10_window_9 : decode cX10_window 9 = .ok (.getfield 18, 3) := by decide +kernel
theorem dX10_window_12 : decode cX10_window 12 = .ok (.iconst 2, 1) := by decide +kernel
theorem dX10_window_13 : decode cX10_window 13 = .ok (.if_icmp .ne 10, 3) := by decide +kernel
theorem dX10_window_16 : decode cX10_window 16 = .ok (.aload_n 0, 1) := by decide +kernel
theorem dX10_window_17 : decode cX10_window 17 = .ok (.getfield 21, 3) := by decide +kernel
theorem dX10_window_20 : decode cX10_window 20 = .ok (.goto 4, 3) := by decide +kernel
theorem dX10_window_23 : decode cX10_window 23 = .ok (.iconst 1, 1) := by decide +kernel
theorem dX10_window_24 : decode cX10_window 24 = .ok (.ireturn, 1) := by decide +kernel
theorem dX11_init_0 : decode cX11_init 0 = .ok (.aload_n 0, 1) := by decide +kernel
theorem dX11_init_1 : decode cX11_init 1 = .ok (.invokespecial 3, 3) := by decide +kernel
theorem dX11_init_4 : decode cX11_init 4 = .ok (.aload_n 0, 1) := by decide +kernel
theorem dX11_init_5 : decode cX11_init 5 = .ok (.sipush 700, 3) := by decide +kernel
theorem dX11_init_8 : decode cX11_init 8 = .ok (.newarray .byte, 2) := by decide +kernel
theorem dX11_init_10 : decode cX11_init 10 = .ok (.putfield 9, 3) := by decide +kernel
theorem dX11_init_13 : decode cX11_init 13 = .ok (.aload_n 0, 1) := by decide +kernel
theorem dX11_init_14 : decode cX11_init 14 = .ok (.iconst 0, 1) := by decide +kernel
theorem dX11_init_15 : decode cX11_init 15 = .ok (.putfield 13, 3) := by decide +kernel
theorem dX11_init_18 : decode cX11_init 18 = .ok (.aload_n 0, 1) := by decide +kernel
theorem dX11_init_19 : decode cX11_init 19 = .ok (.iconst (-1), 1) := by decide +kernel
theorem dX11_init_20 : decode cX11_init 20 = .ok (.putfield 17, 3) := by decide +kernel
theorem dX11_init_23 : decode cX11_init 23 = .ok (.aload_n 0, 1) := by decide +kernel
theorem dX11_init_24 : decode cX11_init 24 = .ok (.new 20, 3) := by decide +kernel
theorem dX11_init_27 : decode cX11_init 27 = .ok (.dup, 1) := by decide +kernel
theorem dX11_init_28 : decode cX11_init 28 = .ok (.aload_n 0, 1) := by decide +kernel
theorem dX11_init_29 : decode cX11_init 29 = .ok (.getfield 9, 3) := by decide +kernel
theorem dX11_init_32 : decode cX11_init 32 = .ok (.invokespecial 22, 3) := by decide +kernel
theorem dX11_init_35 : decode cX11_init 35 = .ok (.putfield 25, 3) := by decide +kernel
theorem dX11_init_38 : decode cX11_init 38 = .ok (.aload_n 0, 1) := by decide +kernel
theorem dX11_init_39 : decode cX11_init 39 = .ok (.new 29, 3) := by decide +kernel
theorem dX11_init_42 : decode cX11_init 42 = .ok (.dup, 1) := by decide +kernel
theorem dX11_init_43 : decode cX11_init 43 = .ok (.invokespecial 31, 3) := by decide +kernel
theorem dX11_init_46 : decode cX11_init 46 = .ok (.putfield 32, 3) := by decide +kernel
theorem dX11_init_49 : decode cX11_init 49 = .ok (.aload_n 0, 1) := by decide +kernel
theorem dX11_init_50 : decode cX11_init 50 = .ok (.new 29, 3) := by decide +kernel
theorem dX11_init_53 : decode cX11_init 53 = .ok (.dup, 1) := by decide +kernel
theorem dX11_init_54 : decode cX11_init 54 = .ok (.invokespecial 31, 3) := by decide +kernel
theorem dX11_init_57 : decode cX11_init 57 = .ok (.putfield 36, 3) := by decide +kernel
theorem dX11_init_60 : decode cX11_init 60 = .ok (.aload_n 0, 1) := by decide +kernel
theorem dX11_init_61 : decode cX11_init 61 = .ok (.new 39, 3) := by decide +kernel
theorem dX11_init_64 : decode cX11_init 64 = .ok (.dup, 1) := by decide +kernel
theorem dX11_init_65 : decode cX11_init 65 = .ok (.aload_n 0, 1) := by decide +kernel
theorem dX11_init_66 : decode cX11_init 66 = .ok (.getfield 32, 3) := by decide +kernel
theorem dX11_init_69 : decode cX11_init 69 = .ok (.invokespecial 41, 3) := by decide +kernel
theorem dX11_init_72 : decode cX11_init 72 = .ok (.putfield 44, 3) := by decide +kernel
theorem dX11_init_75 : decode cX11_init 75 = .ok (.aload_n 0, 1) := by decide +kernel
theorem dX11_init_76 : decode cX11_init 76 = .ok (.new 39, 3) := by decide +kernel
theorem dX11_init_79 : decode cX11_init 79 = .ok (.dup, 1) := by decide +kernel
theorem dX11_init_80 : decode cX11_init 80 = .ok (.aload_n 0, 1) := by decide +kernel
theorem dX11_init_81 : decode cX11_init 81 = .ok (.getfield 32, 3) := by decide +kernel
theorem dX11_init_84 : decode cX11_init 84 = .ok (.invokespecial 41, 3) := by decide +kernel
theorem dX11_init_87 : decode cX11_init 87 = .ok (.putfield 48, 3) := by decide +kernel
theorem dX11_init_90 : decode cX11_init 90 = .ok (.aload_n 0, 1) := by decide +kernel
theorem dX11_init_91 : decode cX11_init 91 = .ok (.iconst 0, 1) := by decide +kernel
theorem dX11_init_92 : decode cX11_init 92 = .ok (.putfield 51, 3) := by decide +kernel
theorem dX11_init_95 : decode cX11_init 95 = .ok (.aload_n 0, 1) := by decide +kernel
theorem dX11_init_96 : decode cX11_init 96 = .ok (.new 55, 3) := by decide +kernel
theorem dX11_init_99 : decode cX11_init 99 = .ok (.dup, 1) := by decide +kernel
theorem dX11_init_100 : decode cX11_init 100 = .ok (.invokespecial 57, 3) := by decide +kernel
theorem dX11_init_103 : decode cX11_init 103 = .ok (.putfield 58, 3) := by decide +kernel
theorem dX11_init_106 : decode cX11_init 106 = .ok (.aload_n 0, 1) := by decide +kernel
theorem dX11_init_107 : decode cX11_init 107 = .ok (.new 62, 3) := by decide +kernel
theorem dX11_init_110 : decode cX11_init 110 = .ok (.dup, 1) := by decide +kernel
theorem dX11_init_111 : decode cX11_init 111 = .ok (.aload_n 0, 1) := by decide +kernel
theorem dX11_init_112 : decode cX11_init 112 = .ok (.getfield 32, 3) := by decide +kernel
theorem dX11_init_115 : decode cX11_init 115 = .ok (.aload_n 0, 1) := by decide +kernel
theorem dX11_init_116 : decode cX11_init 116 = .ok (.getfield 58, 3) := by decide +kernel
theorem dX11_init_119 : decode cX11_init 119 = .ok (.invokespecial 64, 3) := by decide +kernel
theorem dX11_init_122 : decode cX11_init 122 = .ok (.putfield 67, 3) := by decide +kernel
theorem dX11_init_125 : decode cX11_init 125 = .ok (.return_, 1) := by decide +kernel
theorem dX11_feed_0 : decode cX11_feed 0 = .ok (.aload_n 0, 1) := by decide +kernel
theorem dX11_feed_1 : decode cX11_feed 1 = .ok (.getfield 13, 3) := by decide +kernel
theorem dX11_feed_4 : decode cX11_feed 4 = .ok (.bipush 20, 2) := by decide +kernel
theorem dX11_feed_6 : decode cX11_feed 6 = .ok (.iadd, 1) := by decide +kernel
theorem dX11_feed_7 : decode cX11_feed 7 = .ok (.sipush 700, 3) := by decide +kernel
theorem dX11_feed_10 : decode cX11_feed 10 = .ok (.if_icmp .le 5, 3) := by decide +kernel
theorem dX11_feed_13 : decode cX11_feed 13 = .ok (.iconst (-1), 1) := by decide +kernel
theorem dX11_feed_14 : decode cX11_feed 14 = .ok (.ireturn, 1) := by decide +kernel
theorem dX11_feed_15 : decode cX11_feed 15 = .ok (.aload_n 0, 1) := by decide +kernel
theorem dX11_feed_16 : decode cX11_feed 16 = .ok (.iload_n 1, 1) := by decide +kernel
theorem dX11_feed_17 : decode cX11_feed 17 = .ok (.invokevirtual 71, 3) := by decide +kernel
theorem dX11_feed_20 : decode cX11_feed 20 = .ok (.aload_n 0, 1) := by decide +kernel
theorem dX11_feed_21 : decode cX11_feed 21 = .ok (.iload_n 2, 1) := by decide +kernel
theorem dX11_feed_22 : decode cX11_feed 22 = .ok (.invokevirtual 71, 3) := by decide +kernel
theorem dX11_feed_25 : decode cX11_feed 25 = .ok (.aload_n 0, 1) := by decide +kernel
theorem dX11_feed_26 : decode cX11_feed 26 = .ok (.iload_n 3, 1) := by decide +kernel
theorem dX11_feed_27 : decode cX11_feed 27 = .ok (.invokevirtual 71, 3) := by decide +kernel
theorem dX11_feed_30 : decode cX11_feed 30 = .ok (.aload_n 0, 1) := by decide +kernel
theorem dX11_feed_31 : decode cX11_feed 31 = .ok (.iload 4, 2) := by decide +kernel
theorem dX11_feed_33 : decode cX11_feed 33 = .ok (.invokevirtual 71, 3) := by decide +kernel
theorem dX11_feed_36 : decode cX11_feed 36 = .ok (.aload_n 0, 1) := by decide +kernel
theorem dX11_feed_37 : decode cX11_feed 37 = .ok (.iload 5, 2) := by decide +kernel
theorem dX11_feed_39 : decode cX11_feed 39 = .ok (.invokevirtual 71, 3) := by decide +kernel
theorem dX11_feed_42 : decode cX11_feed 42 = .ok (.aload_n 0, 1) := by decide +kernel
theorem dX11_feed_43 : decode cX11_feed 43 = .ok (.getfield 13, 3) := by decide +kernel
theorem dX11_feed_46 : decode cX11_feed 46 = .ok (.ireturn, 1) := by decide +kernel
theorem dX11_putNumber_0 : decode cX11_putNumber 0 = .ok (.bipush 24, 2) := by decide +kernel
theorem dX11_putNumber_2 : decode cX11_putNumber 2 = .ok (.istore_n 2, 1) := by decide +kernel
theorem dX11_putNumber_3 : decode cX11_putNumber 3 = .ok (.iload_n 2, 1) := by decide +kernel
theorem dX11_putNumber_4 : decode cX11_putNumber 4 = .ok (.ifCond .lt 42, 3) := by decide +kernel
theorem dX11_putNumber_7 : decode cX11_putNumber 7 = .ok (.aload_n 0, 1) := by decide +kernel
theorem dX11_putNumber_8 : decode cX11_putNumber 8 = .ok (.getfield 13, 3) := by decide +kernel
theorem dX11_putNumber_11 : decode cX11_putNumber 11 = .ok (.sipush 700, 3) := by decide +kernel
theorem dX11_putNumber_14 : decode cX11_putNumber 14 = .ok (.if_icmp .ge 32, 3) := by decide +kernel
theorem dX11_putNumber_17 : decode cX11_putNumber 17 = .ok (.aload_n 0, 1) := by decide +kernel
theorem dX11_putNumber_18 : decode cX11_putNumber 18 = .ok (.getfield 9, 3) := by decide +kernel
theorem dX11_putNumber_21 : decode cX11_putNumber 21 = .ok (.aload_n 0, 1) := by decide +kernel
theorem dX11_putNumber_22 : decode cX11_putNumber 22 = .ok (.getfield 13, 3) := by decide +kernel
theorem dX11_putNumber_25 : decode cX11_putNumber 25 = .ok (.iload_n 1, 1) := by decide +kernel
theorem dX11_putNumber_26 : decode cX11_putNumber 26 = .ok (.iload_n 2, 1) := by decide +kernel
theorem dX11_putNumber_27 : decode cX11_putNumber 27 = .ok (.iushr, 1) := by decide +kernel
theorem dX11_putNumber_28 : decode cX11_putNumber 28 = .ok (.i2b, 1) := by decide +kernel
theorem dX11_putNumber_29 : decode cX11_putNumber 29 = .ok (.bastore, 1) := by decide +kernel
theorem dX11_putNumber_30 : decode cX11_putNumber 30 = .ok (.aload_n 0, 1) := by decide +kernel
theorem dX11_putNumber_31 : decode cX11_putNumber 31 = .ok (.dup, 1) := by decide +kernel
theorem dX11_putNumber_32 : decode cX11_putNumber 32 = .ok (.getfield 13, 3) := by decide +kernel
theorem dX11_putNumber_35 : decode cX11_putNumber 35 = .ok (.iconst 1, 1) := by decide +kernel
theorem dX11_putNumber_36 : decode cX11_putNumber 36 = .ok (.iadd, 1) := by decide +kernel
theorem dX11_putNumber_37 : decode cX11_putNumber 37 = .ok (.putfield 13, 3) := by decide +kernel
theorem dX11_putNumber_40 : decode cX11_putNumber 40 = .ok (.iinc 2 (-8), 3) := by decide +kernel
theorem dX11_putNumber_43 : decode cX11_putNumber 43 = .ok (.goto (-40), 3) := by decide +kernel
theorem dX11_putNumber_46 : decode cX11_putNumber 46 = .ok (.return_, 1) := by decide +kernel
theorem dX11_plan_0 : decode cX11_plan 0 = .ok (.iload_n 1, 1) := by decide +kernel
theorem dX11_plan_1 : decode cX11_plan 1 = .ok (.ifCond .lt 11, 3) := by decide +kernel
theorem dX11_plan_4 : decode cX11_plan 4 = .ok (.iload_n 1, 1) := by decide +kernel
theorem dX11_plan_5 : decode cX11_plan 5 = .ok (.aload_n 0, 1) := by decide +kernel
theorem dX11_plan_6 : decode cX11_plan 6 = .ok (.getfield 13, 3) := by decide +kernel
theorem dX11_plan_9 : decode cX11_plan 9 = .ok (.if_icmp .le 13, 3) := by decide +kernel
theorem dX11_plan_12 : decode cX11_plan 12 = .ok (.new 75, 3) := by decide +kernel
theorem dX11_plan_15 : decode cX11_plan 15 = .ok (.dup, 1) := by decide +kernel
theorem dX11_plan_16 : decode cX11_plan 16 = .ok (.ldc 77, 2) := by decide +kernel
theorem dX11_plan_18 : decode cX11_plan 18 = .ok (.invokespecial 79, 3) := by decide +kernel
theorem dX11_plan_21 : decode cX11_plan 21 = .ok (.athrow, 1) := by decide +kernel
theorem dX11_plan_22 : decode cX11_plan 22 = .ok (.aload_n 0, 1) := by decide +kernel
theorem dX11_plan_23 : decode cX11_plan 23 = .ok (.iconst 0, 1) := by decide +kernel
theorem dX11_plan_24 : decode cX11_plan 24 = .ok (.putfield 13, 3) := by decide +kernel
theorem dX11_plan_27 : decode cX11_plan 27 = .ok (.aload_n 0, 1) := by decide +kernel
theorem dX11_plan_28 : decode cX11_plan 28 = .ok (.getfield 25, 3) := by decide +kernel
theorem dX11_plan_31 : decode cX11_plan 31 = .ok (.iload_n 1, 1) := by decide +kernel
theorem dX11_plan_32 : decode cX11_plan 32 = .ok (.aload_n 0, 1) := by decide +kernel
theorem dX11_plan_33 : decode cX11_plan 33 = .ok (.getfield 36, 3) := by decide +kernel
theorem dX11_plan_36 : decode cX11_plan 36 = .ok (.invokevirtual 82, 3) := by decide +kernel
theorem dX11_plan_39 : decode cX11_plan 39 = .ok (.istore_n 2, 1) := by decide +kernel
theorem dX11_plan_40 : decode cX11_plan 40 = .ok (.iload_n 2, 1) := by decide +kernel
theorem dX11_plan_41 : decode cX11_plan 41 = .ok (.ifCond .eq 29, 3) := by decide +kernel
theorem dX11_plan_44 : decode cX11_plan 44 = .ok (.aload_n 0, 1) := by decide +kernel
theorem dX11_plan_45 : decode cX11_plan 45 = .ok (.aload_n 0, 1) := by decide +kernel
theorem dX11_plan_46 : decode cX11_plan 46 = .ok (.getfield 25, 3) := by decide +kernel
theorem dX11_plan_49 : decode cX11_plan 49 = .ok (.invokevirtual 86, 3) := by decide +kernel
theorem dX11_plan_52 : decode cX11_plan 52 = .ok (.putfield 17, 3) := by decide +kernel
theorem dX11_plan_55 : decode cX11_plan 55 = .ok (.aload_n 0, 1) := by decide +kernel
theorem dX11_plan_56 : decode cX11_plan 56 = .ok (.getfield 44, 3) := by decide +kernel
theorem dX11_plan_59 : decode cX11_plan 59 = .ok (.getfield 89, 3) := by decide +kernel
theorem dX11_plan_62 : decode cX11_plan 62 = .ok (.iconst 0, 1) := by decide +kernel
theorem dX11_plan_63 : decode cX11_plan 63 = .ok (.dup2, 1) := by decide +kernel
theorem dX11_plan_64 : decode cX11_plan 64 = .ok (.iaload, 1) := by decide +kernel
theorem dX11_plan_65 : decode cX11_plan 65 = .ok (.iconst 1, 1) := by decide +kernel
theorem dX11_plan_66 : decode cX11_plan 66 = .ok (.iadd, 1) := by decide +kernel
theorem dX11_plan_67 : decode cX11_plan 67 = .ok (.iastore, 1) := by decide +kernel
theorem dX11_plan_68 : decode cX11_plan 68 = .ok (.iload_n 2, 1) := by decide +kernel
theorem dX11_plan_69 : decode cX11_plan 69 = .ok (.ireturn, 1) := by decide +kernel
theorem dX11_plan_70 : decode cX11_plan 70 = .ok (.aload_n 0, 1) := by decide +kernel
theorem dX11_plan_71 : decode cX11_plan 71 = .ok (.iconst (-1), 1) := by decide +kernel
theorem dX11_plan_72 : decode cX11_plan 72 = .ok (.putfield 17, 3) := by decide +kernel
theorem dX11_plan_75 : decode cX11_plan 75 = .ok (.aload_n 0, 1) := by decide +kernel
theorem dX11_plan_76 : decode cX11_plan 76 = .ok (.getfield 32, 3) := by decide +kernel
theorem dX11_plan_79 : decode cX11_plan 79 = .ok (.astore_n 3, 1) := by decide +kernel
theorem dX11_plan_80 : decode cX11_plan 80 = .ok (.aload_n 0, 1) := by decide +kernel
theorem dX11_plan_81 : decode cX11_plan 81 = .ok (.aload_n 0, 1) := by decide +kernel
theorem dX11_plan_82 : decode cX11_plan 82 = .ok (.getfield 36, 3) := by decide +kernel
theorem dX11_plan_85 : decode cX11_plan 85 = .ok (.putfield 32, 3) := by decide +kernel
theorem dX11_plan_88 : decode cX11_plan 88 = .ok (.aload_n 0, 1) := by decide +kernel
theorem dX11_plan_89 : decode cX11_plan 89 = .ok (.aload_n 3, 1) := by decide +kernel
theorem dX11_plan_90 : decode cX11_plan 90 = .ok (.putfield 36, 3) := by decide +kernel
theorem dX11_plan_93 : decode cX11_plan 93 = .ok (.aload_n 0, 1) := by decide +kernel
theorem dX11_plan_94 : decode cX11_plan 94 = .ok (.getfield 44, 3) := by decide +kernel
theorem dX11_plan_97 : decode cX11_plan 97 = .ok (.aload_n 0, 1) := by decide +kernel
theorem dX11_plan_98 : decode cX11_plan 98 = .ok (.getfield 32, 3) := by decide +kernel
theorem dX11_plan_101 : decode cX11_plan 101 = .ok (.invokevirtual 93, 3) := by decide +kernel
theorem dX11_plan_104 : decode cX11_plan 104 = .ok (.aload_n 0, 1) := by decide +kernel
theorem dX11_plan_105 : decode cX11_plan 105 = .ok (.iconst 0, 1) := by decide +kernel
theorem dX11_plan_106 : decode cX11_plan 106 = .ok (.putfield 51, 3) := by decide +kernel
theorem dX11_plan_109 : decode cX11_plan 109 = .ok (.iconst 0, 1) := by decide +kernel
theorem dX11_plan_110 : decode cX11_plan 110 = .ok (.ireturn, 1) := by decide +kernel
theorem dX11_fault_0 : decode cX11_fault 0 = .ok (.aload_n 0, 1) := by decide +kernel
theorem dX11_fault_1 : decode cX11_fault 1 = .ok (.getfield 17, 3) := by decide +kernel
theorem dX11_fault_4 : decode cX11_fault 4 = .ok (.ireturn, 1) := by decide +kernel
theorem dX11_count_0 : decode cX11_count 0 = .ok (.aload_n 0, 1) := by decide +kernel
theorem dX11_count_1 : decode cX11_count 1 = .ok (.getfield 44, 3) := by decide +kernel
theorem dX11_count_4 : decode cX11_count 4 = .ok (.getfield 96, 3) := by decide +kernel
theorem dX11_count_7 : decode cX11_count 7 = .ok (.astore_n 2, 1) := by decide +kernel
theorem dX11_count_8 : decode cX11_count 8 = .ok (.iload_n 1, 1) := by decide +kernel
theorem dX11_count_9 : decode cX11_count 9 = .ok (.tableswitch 247 0 19 #[95, 103, 111, 119, 127, 135, 140, 145, 150, 155, 164, 173, 182, 191, 196, 204, 212, 217, 227, 237], 95) := by decide +kernel
theorem dX11_count_104 : decode cX11_count 104 = .ok (.aload_n 0, 1) := by decide +kernel
theorem dX11_count_105 : decode cX11_count 105 = .ok (.getfield 32, 3) := by decide +kernel
theorem dX11_count_108 : decode cX11_count 108 = .ok (.getfield 100, 3) := by decide +kernel
theorem dX11_count_111 : decode cX11_count 111 = .ok (.ireturn, 1) := by decide +kernel
theorem dX11_count_112 : decode cX11_count 112 = .ok (.aload_n 0, 1) := by decide +kernel
theorem dX11_count_113 : decode cX11_count 113 = .ok (.getfield 32, 3) := by decide +kernel
theorem dX11_count_116 : decode cX11_count 116 = .ok (.getfield 103, 3) := by decide +kernel
theorem dX11_count_119 : decode cX11_count 119 = .ok (.ireturn, 1) := by decide +kernel
theorem dX11_count_120 : decode cX11_count 120 = .ok (.aload_n 0, 1) := by decide +kernel
theorem dX11_count_121 : decode cX11_count 121 = .ok (.getfield 32, 3) := by decide +kernel
theorem dX11_count_124 : decode cX11_count 124 = .ok (.getfield 106, 3) := by decide +kernel
theorem dX11_count_127 : decode cX11_count 127 = .ok (.ireturn, 1) := by decide +kernel
theorem dX11_count_128 : decode cX11_count 128 = .ok (.aload_n 0, 1) := by decide +kernel
theorem dX11_count_129 : decode cX11_count 129 = .ok (.getfield 32, 3) := by decide +kernel
theorem dX11_count_132 : decode cX11_count 132 = .ok (.getfield 109, 3) := by decide +kernel
theorem dX11_count_135 : decode cX11_count 135 = .ok (.ireturn, 1) := by decide +kernel
theorem dX11_count_136 : decode cX11_count 136 = .ok (.aload_n 0, 1) := by decide +kernel
theorem dX11_count_137 : decode cX11_count 137 = .ok (.getfield 32, 3) := by decide +kernel
theorem dX11_count_140 : decode cX11_count 140 = .ok (.getfield 112, 3) := by decide +kernel
theorem dX11_count_143 : decode cX11_count 143 = .ok (.ireturn, 1) := by decide +kernel
theorem dX11_count_144 : decode cX11_count 144 = .ok (.aload_n 2, 1) := by decide +kernel
theorem dX11_count_145 : decode cX11_count 145 = .ok (.getfield 115, 3) := by decide +kernel
theorem dX11_count_148 : decode cX11_count 148 = .ok (.ireturn, 1) := by decide +kernel
theorem dX11_count_149 : decode cX11_count 149 = .ok (.aload_n 2, 1) := by decide +kernel
theorem dX11_count_150 : decode cX11_count 150 = .ok (.getfield 120, 3) := by decide +kernel
theorem dX11_count_153 : decode cX11_count 153 = .ok (.ireturn, 1) := by decide +kernel
theorem dX11_count_154 : decode cX11_count 154 = .ok (.aload_n 2, 1) := by decide +kernel
theorem dX11_count_155 : decode cX11_count 155 = .ok (.invokevirtual 123, 3) := by decide +kernel
theorem dX11_count_158 : decode cX11_count 158 = .ok (.ireturn, 1) := by decide +kernel
theorem dX11_count_159 : decode cX11_count 159 = .ok (.aload_n 2, 1) := by decide +kernel
theorem dX11_count_160 : decode cX11_count 160 = .ok (.invokevirtual 126, 3) := by decide +kernel
theorem dX11_count_163 : decode cX11_count 163 = .ok (.ireturn, 1) := by decide +kernel
theorem dX11_count_164 : decode cX11_count 164 = .ok (.aload_n 0, 1) := by decide +kernel
theorem dX11_count_165 : decode cX11_count 165 = .ok (.getfield 67, 3) := by decide +kernel
theorem dX11_count_168 : decode cX11_count 168 = .ok (.aload_n 2, 1) := by decide +kernel
theorem dX11_count_169 : decode cX11_count 169 = .ok (.invokevirtual 129, 3) := by decide +kernel
theorem dX11_count_172 : decode cX11_count 172 = .ok (.ireturn, 1) := by decide +kernel
theorem dX11_count_173 : decode cX11_count 173 = .ok (.aload_n 0, 1) := by decide +kernel
theorem dX11_count_174 : decode cX11_count 174 = .ok (.getfield 67, 3) := by decide +kernel
theorem dX11_count_177 : decode cX11_count 177 = .ok (.aload_n 2, 1) := by decide +kernel
theorem dX11_count_178 : decode cX11_count 178 = .ok (.invokevirtual 133, 3) := by decide +kernel
theorem dX11_count_181 : decode cX11_count 181 = .ok (.ireturn, 1) := by decide +kernel
theorem dX11_count_182 : decode cX11_count 182 = .ok (.aload_n 0, 1) := by decide +kernel
theorem dX11_count_183 : decode cX11_count 183 = .ok (.getfield 67, 3) := by decide +kernel
theorem dX11_count_186 : decode cX11_count 186 = .ok (.aload_n 2, 1) := by decide +kernel
theorem dX11_count_187 : decode cX11_count 187 = .ok (.invokevirtual 136, 3) := by decide +kernel
theorem dX11_count_190 : decode cX11_count 190 = .ok (.ireturn, 1) := by decide +kernel
theorem dX11_count_191 : decode cX11_count 191 = .ok (.aload_n 0, 1) := by decide +kernel
theorem dX11_count_192 : decode cX11_count 192 = .ok (.getfield 67, 3) := by decide +kernel
theorem dX11_count_195 : decode cX11_count 195 = .ok (.aload_n 2, 1) := by decide +kernel
theorem dX11_count_196 : decode cX11_count 196 = .ok (.invokevirtual 139, 3) := by decide +kernel
theorem dX11_count_199 : decode cX11_count 199 = .ok (.ireturn, 1) := by decide +kernel
theorem dX11_count_200 : decode cX11_count 200 = .ok (.aload_n 2, 1) := by decide +kernel
theorem dX11_count_201 : decode cX11_count 201 = .ok (.getfield 142, 3) := by decide +kernel
theorem dX11_count_204 : decode cX11_count 204 = .ok (.ireturn, 1) := by decide +kernel
theorem dX11_count_205 : decode cX11_count 205 = .ok (.aload_n 0, 1) := by decide +kernel
theorem dX11_count_206 : decode cX11_count 206 = .ok (.getfield 44, 3) := by decide +kernel
theorem dX11_count_209 : decode cX11_count 209 = .ok (.getfield 145, 3) := by decide +kernel
theorem dX11_count_212 : decode cX11_count 212 = .ok (.ireturn, 1) := by decide +kernel
theorem dX11_count_213 : decode cX11_count 213 = .ok (.aload_n 0, 1) := by decide +kernel
theorem dX11_count_214 : decode cX11_count 214 = .ok (.getfield 44, 3) := by decide +kernel
theorem dX11_count_217 : decode cX11_count 217 = .ok (.getfield 148, 3) := by decide +kernel
theorem dX11_count_220 : decode cX11_count 220 = .ok (.ireturn, 1) := by decide +kernel
theorem dX11_count_221 : decode cX11_count 221 = .ok (.aload_n 0, 1) := by decide +kernel
theorem dX11_count_222 : decode cX11_count 222 = .ok (.getfield 13, 3) := by decide +kernel
theorem dX11_count_225 : decode cX11_count 225 = .ok (.ireturn, 1) := by decide +kernel
theorem dX11_count_226 : decode cX11_count 226 = .ok (.aload_n 0, 1) := by decide +kernel
theorem dX11_count_227 : decode cX11_count 227 = .ok (.getfield 44, 3) := by decide +kernel
theorem dX11_count_230 : decode cX11_count 230 = .ok (.getfield 89, 3) := by decide +kernel
theorem dX11_count_233 : decode cX11_count 233 = .ok (.iconst 0, 1) := by decide +kernel
theorem dX11_count_234 : decode cX11_count 234 = .ok (.iaload, 1) := by decide +kernel
theorem dX11_count_235 : decode cX11_count 235 = .ok (.ireturn, 1) := by decide +kernel
theorem dX11_count_236 : decode cX11_count 236 = .ok (.aload_n 0, 1) := by decide +kernel
theorem dX11_count_237 : decode cX11_count 237 = .ok (.getfield 44, 3) := by decide +kernel
theorem dX11_count_240 : decode cX11_count 240 = .ok (.getfield 89, 3) := by decide +kernel
theorem dX11_count_243 : decode cX11_count 243 = .ok (.iconst 1, 1) := by decide +kernel
theorem dX11_count_244 : decode cX11_count 244 = .ok (.iaload, 1) := by decide +kernel
theorem dX11_count_245 : decode cX11_count 245 = .ok (.ireturn, 1) := by decide +kernel
theorem dX11_count_246 : decode cX11_count 246 = .ok (.aload_n 0, 1) := by decide +kernel
theorem dX11_count_247 : decode cX11_count 247 = .ok (.getfield 44, 3) := by decide +kernel
theorem dX11_count_250 : decode cX11_count 250 = .ok (.getfield 89, 3) := by decide +kernel
theorem dX11_count_253 : decode cX11_count 253 = .ok (.iconst 2, 1) := by decide +kernel
theorem dX11_count_254 : decode cX11_count 254 = .ok (.iaload, 1) := by decide +kernel
theorem dX11_count_255 : decode cX11_count 255 = .ok (.ireturn, 1) := by decide +kernel
theorem dX11_count_256 : decode cX11_count 256 = .ok (.new 151, 3) := by decide +kernel
theorem dX11_count_259 : decode cX11_count 259 = .ok (.dup, 1) := by decide +kernel
theorem dX11_count_260 : decode cX11_count 260 = .ok (.ldc 153, 2) := by decide +kernel
theorem dX11_count_262 : decode cX11_count 262 = .ok (.invokespecial 155, 3) := by decide +kernel
theorem dX11_count_265 : decode cX11_count 265 = .ok (.athrow, 1) := by decide +kernel
theorem dX11_zone_0 : decode cX11_zone 0 = .ok (.aload_n 0, 1) := by decide +kernel
theorem dX11_zone_1 : decode cX11_zone 1 = .ok (.iload_n 1, 1) := by decide +kernel
theorem dX11_zone_2 : decode cX11_zone 2 = .ok (.invokevirtual 156, 3) := by decide +kernel
theorem dX11_zone_5 : decode cX11_zone 5 = .ok (.aload_n 0, 1) := by decide +kernel
theorem dX11_zone_6 : decode cX11_zone 6 = .ok (.getfield 44, 3) := by decide +kernel
theorem dX11_zone_9 : decode cX11_zone 9 = .ok (.getfield 96, 3) := by decide +kernel
theorem dX11_zone_12 : decode cX11_zone 12 = .ok (.astore_n 3, 1) := by decide +kernel
theorem dX11_zone_13 : decode cX11_zone 13 = .ok (.iload_n 2, 1) := by decide +kernel
theorem dX11_zone_14 : decode cX11_zone 14 = .ok (.tableswitch 152 0 10 #[58, 65, 72, 79, 86, 93, 106, 119, 133, 140, 146], 58) := by decide +kernel
theorem dX11_zone_72 : decode cX11_zone 72 = .ok (.aload_n 3, 1) := by decide +kernel
theorem dX11_zone_73 : decode cX11_zone 73 = .ok (.getfield 159, 3) := by decide +kernel
theorem dX11_zone_76 : decode cX11_zone 76 = .ok (.iload_n 1, 1) := by decide +kernel
theorem dX11_zone_77 : decode cX11_zone 77 = .ok (.iaload, 1) := by decide +kernel
theorem dX11_zone_78 : decode cX11_zone 78 = .ok (.ireturn, 1) := by decide +kernel
theorem dX11_zone_79 : decode cX11_zone 79 = .ok (.aload_n 3, 1) := by decide +kernel
theorem dX11_zone_80 : decode cX11_zone 80 = .ok (.getfield 162, 3) := by decide +kernel
theorem dX11_zone_83 : decode cX11_zone 83 = .ok (.iload_n 1, 1) := by decide +kernel
theorem dX11_zone_84 : decode cX11_zone 84 = .ok (.iaload, 1) := by decide +kernel
theorem dX11_zone_85 : decode cX11_zone 85 = .ok (.ireturn, 1) := by decide +kernel
theorem dX11_zone_86 : decode cX11_zone 86 = .ok (.aload_n 3, 1) := by decide +kernel
theorem dX11_zone_87 : decode cX11_zone 87 = .ok (.getfield 165, 3) := by decide +kernel
theorem dX11_zone_90 : decode cX11_zone 90 = .ok (.iload_n 1, 1) := by decide +kernel
theorem dX11_zone_91 : decode cX11_zone 91 = .ok (.iaload, 1) := by decide +kernel
theorem dX11_zone_92 : decode cX11_zone 92 = .ok (.ireturn, 1) := by decide +kernel
theorem dX11_zone_93 : decode cX11_zone 93 = .ok (.aload_n 3, 1) := by decide +kernel
theorem dX11_zone_94 : decode cX11_zone 94 = .ok (.getfield 168, 3) := by decide +kernel
theorem dX11_zone_97 : decode cX11_zone 97 = .ok (.iload_n 1, 1) := by decide +kernel
theorem dX11_zone_98 : decode cX11_zone 98 = .ok (.iaload, 1) := by decide +kernel
theorem dX11_zone_99 : decode cX11_zone 99 = .ok (.ireturn, 1) := by decide +kernel
theorem dX11_zone_100 : decode cX11_zone 100 = .ok (.aload_n 3, 1) := by decide +kernel
theorem dX11_zone_101 : decode cX11_zone 101 = .ok (.getfield 171, 3) := by decide +kernel
theorem dX11_zone_104 : decode cX11_zone 104 = .ok (.iload_n 1, 1) := by decide +kernel
theorem dX11_zone_105 : decode cX11_zone 105 = .ok (.iaload, 1) := by decide +kernel
theorem dX11_zone_106 : decode cX11_zone 106 = .ok (.ireturn, 1) := by decide +kernel
theorem dX11_zone_107 : decode cX11_zone 107 = .ok (.aload_n 0, 1) := by decide +kernel
theorem dX11_zone_108 : decode cX11_zone 108 = .ok (.getfield 32, 3) := by decide +kernel
theorem dX11_zone_111 : decode cX11_zone 111 = .ok (.getfield 174, 3) := by decide +kernel
theorem dX11_zone_114 : decode cX11_zone 114 = .ok (.iload_n 1, 1) := by decide +kernel
theorem dX11_zone_115 : decode cX11_zone 115 = .ok (.aaload, 1) := by decide +kernel
theorem dX11_zone_116 : decode cX11_zone 116 = .ok (.getfield 178, 3) := by decide +kernel
theorem dX11_zone_119 : decode cX11_zone 119 = .ok (.ireturn, 1) := by decide +kernel
theorem dX11_zone_120 : decode cX11_zone 120 = .ok (.aload_n 0, 1) := by decide +kernel
theorem dX11_zone_121 : decode cX11_zone 121 = .ok (.getfield 32, 3) := by decide +kernel
theorem dX11_zone_124 : decode cX11_zone 124 = .ok (.getfield 174, 3) := by decide +kernel
theorem dX11_zone_127 : decode cX11_zone 127 = .ok (.iload_n 1, 1) := by decide +kernel
theorem dX11_zone_128 : decode cX11_zone 128 = .ok (.aaload, 1) := by decide +kernel
theorem dX11_zone_129 : decode cX11_zone 129 = .ok (.getfield 183, 3) := by decide +kernel
theorem dX11_zone_132 : decode cX11_zone 132 = .ok (.ireturn, 1) := by decide +kernel
theorem dX11_zone_133 : decode cX11_zone 133 = .ok (.aload_n 3, 1) := by decide +kernel
theorem dX11_zone_134 : decode cX11_zone 134 = .ok (.iload_n 1, 1) := by decide +kernel
theorem dX11_zone_135 : decode cX11_zone 135 = .ok (.invokevirtual 186, 3) := by decide +kernel
theorem dX11_zone_138 : decode cX11_zone 138 = .ok (.ifCond .eq 7, 3) := by decide +kernel
theorem dX11_zone_141 : decode cX11_zone 141 = .ok (.iconst 1, 1) := by decide +kernel
theorem dX11_zone_142 : decode cX11_zone 142 = .ok (.goto 4, 3) := by decide +kernel
theorem dX11_zone_145 : decode cX11_zone 145 = .ok (.iconst 0, 1) := by decide +kernel
theorem dX11_zone_146 : decode cX11_zone 146 = .ok (.ireturn, 1) := by decide +kernel
theorem dX11_zone_147 : decode cX11_zone 147 = .ok (.aload_n 3, 1) := by decide +kernel
theorem dX11_zone_148 : decode cX11_zone 148 = .ok (.getfield 190, 3) := by decide +kernel
theorem dX11_zone_151 : decode cX11_zone 151 = .ok (.iload_n 1, 1) := by decide +kernel
theorem dX11_zone_152 : decode cX11_zone 152 = .ok (.iaload, 1) := by decide +kernel
theorem dX11_zone_153 : decode cX11_zone 153 = .ok (.ireturn, 1) := by decide +kernel
theorem dX11_zone_154 : decode cX11_zone 154 = .ok (.aload_n 3, 1) := by decide +kernel
theorem dX11_zone_155 : decode cX11_zone 155 = .ok (.iload_n 1, 1) := by decide +kernel
theorem dX11_zone_156 : decode cX11_zone 156 = .ok (.invokevirtual 193, 3) := by decide +kernel
theorem dX11_zone_159 : decode cX11_zone 159 = .ok (.ireturn, 1) := by decide +kernel
theorem dX11_zone_160 : decode cX11_zone 160 = .ok (.aload_n 3, 1) := by decide +kernel
theorem dX11_zone_161 : decode cX11_zone 161 = .ok (.iload_n 1, 1) := by decide +kernel
theorem dX11_zone_162 : decode cX11_zone 162 = .ok (.invokevirtual 197, 3) := by decide +kernel
theorem dX11_zone_165 : decode cX11_zone 165 = .ok (.ireturn, 1) := by decide +kernel
theorem dX11_zone_166 : decode cX11_zone 166 = .ok (.new 151, 3) := by decide +kernel
theorem dX11_zone_169 : decode cX11_zone 169 = .ok (.dup, 1) := by decide +kernel
theorem dX11_zone_170 : decode cX11_zone 170 = .ok (.ldc 153, 2) := by decide +kernel
theorem dX11_zone_172 : decode cX11_zone 172 = .ok (.invokespecial 155, 3) := by decide +kernel
theorem dX11_zone_175 : decode cX11_zone 175 = .ok (.athrow, 1) := by decide +kernel
theorem dX11_trip_0 : decode cX11_trip 0 = .ok (.aload_n 0, 1) := by decide +kernel
theorem dX11_trip_1 : decode cX11_trip 1 = .ok (.iload_n 1, 1) := by decide +kernel
theorem dX11_trip_2 : decode cX11_trip 2 = .ok (.invokevirtual 200, 3) := by decide +kernel
theorem dX11_trip_5 : decode cX11_trip 5 = .ok (.aload_n 0, 1) := by decide +kernel
theorem dX11_trip_6 : decode cX11_trip 6 = .ok (.getfield 44, 3) := by decide +kernel
theorem dX11_trip_9 : decode cX11_trip 9 = .ok (.getfield 96, 3) := by decide +kernel
theorem dX11_trip_12 : decode cX11_trip 12 = .ok (.astore_n 3, 1) := by decide +kernel
theorem dX11_trip_13 : decode cX11_trip 13 = .ok (.aload_n 0, 1) := by decide +kernel
theorem dX11_trip_14 : decode cX11_trip 14 = .ok (.getfield 32, 3) := by decide +kernel
theorem dX11_trip_17 : decode cX11_trip 17 = .ok (.getfield 203, 3) := by decide +kernel
theorem dX11_trip_20 : decode cX11_trip 20 = .ok (.iload_n 1, 1) := by decide +kernel
theorem dX11_trip_21 : decode cX11_trip 21 = .ok (.aaload, 1) := by decide +kernel
theorem dX11_trip_22 : decode cX11_trip 22 = .ok (.astore 4, 2) := by decide +kernel
theorem dX11_trip_24 : decode cX11_trip 24 = .ok (.iload_n 2, 1) := by decide +kernel
theorem dX11_trip_25 : decode cX11_trip 25 = .ok (.tableswitch 103 0 7 #[47, 53, 59, 65, 71, 78, 85, 91], 47) := by decide +kernel
theorem dX11_trip_72 : decode cX11_trip 72 = .ok (.aload 4, 2) := by decide +kernel
theorem dX11_trip_74 : decode cX11_trip 74 = .ok (.getfield 207, 3) := by decide +kernel
theorem dX11_trip_77 : decode cX11_trip 77 = .ok (.ireturn, 1) := by decide +kernel
theorem dX11_trip_78 : decode cX11_trip 78 = .ok (.aload 4, 2) := by decide +kernel
theorem dX11_trip_80 : decode cX11_trip 80 = .ok (.getfield 212, 3) := by decide +kernel
theorem dX11_trip_83 : decode cX11_trip 83 = .ok (.ireturn, 1) := by decide +kernel
theorem dX11_trip_84 : decode cX11_trip 84 = .ok (.aload 4, 2) := by decide +kernel
theorem dX11_trip_86 : decode cX11_trip 86 = .ok (.getfield 215, 3) := by decide +kernel
theorem dX11_trip_89 : decode cX11_trip 89 = .ok (.ireturn, 1) := by decide +kernel
theorem dX11_trip_90 : decode cX11_trip 90 = .ok (.aload 4, 2) := by decide +kernel
theorem dX11_trip_92 : decode cX11_trip 92 = .ok (.getfield 218, 3) := by decide +kernel
theorem dX11_trip_95 : decode cX11_trip 95 = .ok (.ireturn, 1) := by decide +kernel
theorem dX11_trip_96 : decode cX11_trip 96 = .ok (.aload_n 3, 1) := by decide +kernel
theorem dX11_trip_97 : decode cX11_trip 97 = .ok (.getfield 221, 3) := by decide +kernel
theorem dX11_trip_100 : decode cX11_trip 100 = .ok (.iload_n 1, 1) := by decide +kernel
theorem dX11_trip_101 : decode cX11_trip 101 = .ok (.iaload, 1) := by decide +kernel
theorem dX11_trip_102 : decode cX11_trip 102 = .ok (.ireturn, 1) := by decide +kernel
theorem dX11_trip_103 : decode cX11_trip 103 = .ok (.aload_n 3, 1) := by decide +kernel
theorem dX11_trip_104 : decode cX11_trip 104 = .ok (.getfield 224, 3) := by decide +kernel
theorem dX11_trip_107 : decode cX11_trip 107 = .ok (.iload_n 1, 1) := by decide +kernel
theorem dX11_trip_108 : decode cX11_trip 108 = .ok (.iaload, 1) := by decide +kernel
theorem dX11_trip_109 : decode cX11_trip 109 = .ok (.ireturn, 1) := by decide +kernel
theorem dX11_trip_110 : decode cX11_trip 110 = .ok (.aload_n 3, 1) := by decide +kernel
theorem dX11_trip_111 : decode cX11_trip 111 = .ok (.iload_n 1, 1) := by decide +kernel
theorem dX11_trip_112 : decode cX11_trip 112 = .ok (.invokevirtual 227, 3) := by decide +kernel
theorem dX11_trip_115 : decode cX11_trip 115 = .ok (.ireturn, 1) := by decide +kernel
theorem dX11_trip_116 : decode cX11_trip 116 = .ok (.aload 4, 2) := by decide +kernel
theorem dX11_trip_118 : decode cX11_trip 118 = .ok (.getfield 230, 3) := by decide +kernel
theorem dX11_trip_121 : decode cX11_trip 121 = .ok (.aload 4, 2) := by decide +kernel
theorem dX11_trip_123 : decode cX11_trip 123 = .ok (.getfield 233, 3) := by decide +kernel
theorem dX11_trip_126 : decode cX11_trip 126 = .ok (.isub, 1) := by decide +kernel
theorem dX11_trip_127 : decode cX11_trip 127 = .ok (.ireturn, 1) := by decide +kernel
theorem dX11_trip_128 : decode cX11_trip 128 = .ok (.new 151, 3) := by decide +kernel
theorem dX11_trip_131 : decode cX11_trip 131 = .ok (.dup, 1) := by decide +kernel
theorem dX11_trip_132 : decode cX11_trip 132 = .ok (.ldc 153, 2) := by decide +kernel
theorem dX11_trip_134 : decode cX11_trip 134 = .ok (.invokespecial 155, 3) := by decide +kernel
theorem dX11_trip_137 : decode cX11_trip 137 = .ok (.athrow, 1) := by decide +kernel
theorem dX11_device_0 : decode cX11_device 0 = .ok (.aload_n 0, 1) := by decide +kernel
theorem dX11_device_1 : decode cX11_device 1 = .ok (.iload_n 1, 1) := by decide +kernel
theorem dX11_device_2 : decode cX11_device 2 = .ok (.invokevirtual 236, 3) := by decide +kernel
theorem dX11_device_5 : decode cX11_device 5 = .ok (.aload_n 0, 1) := by decide +kernel
theorem dX11_device_6 : decode cX11_device 6 = .ok (.getfield 44, 3) := by decide +kernel
theorem dX11_device_9 : decode cX11_device 9 = .ok (.getfield 96, 3) := by decide +kernel
theorem dX11_device_12 : decode cX11_device 12 = .ok (.astore_n 3, 1) := by decide +kernel
theorem dX11_device_13 : decode cX11_device 13 = .ok (.aload_n 0, 1) := by decide +kernel
theorem dX11_device_14 : decode cX11_device 14 = .ok (.getfield 32, 3) := by decide +kernel
theorem dX11_device_17 : decode cX11_device 17 = .ok (.getfield 239, 3) := by decide +kernel
theorem dX11_device_20 : decode cX11_device 20 = .ok (.iload_n 1, 1) := by decide +kernel
theorem dX11_device_21 : decode cX11_device 21 = .ok (.aaload, 1) := by decide +kernel
theorem dX11_device_22 : decode cX11_device 22 = .ok (.astore 4, 2) := by decide +kernel
theorem dX11_device_24 : decode cX11_device 24 = .ok (.iload_n 2, 1) := by decide +kernel
theorem dX11_device_25 : decode cX11_device 25 = .ok (.tableswitch 88 0 6 #[43, 49, 55, 61, 68, 75, 82], 43) := by decide +kernel
theorem dX11_device_68 : decode cX11_device 68 = .ok (.aload 4, 2) := by decide +kernel
theorem dX11_device_70 : decode cX11_device 70 = .ok (.getfield 243, 3) := by decide +kernel
theorem dX11_device_73 : decode cX11_device 73 = .ok (.ireturn, 1) := by decide +kernel
theorem dX11_device_74 : decode cX11_device 74 = .ok (.aload 4, 2) := by decide +kernel
theorem dX11_device_76 : decode cX11_device 76 = .ok (.getfield 248, 3) := by decide +kernel
theorem dX11_device_79 : decode cX11_device 79 = .ok (.ireturn, 1) := by decide +kernel
theorem dX11_device_80 : decode cX11_device 80 = .ok (.aload 4, 2) := by decide +kernel
theorem dX11_device_82 : decode cX11_device 82 = .ok (.getfield 249, 3) := by decide +kernel
theorem dX11_device_85 : decode cX11_device 85 = .ok (.ireturn, 1) := by decide +kernel
theorem dX11_device_86 : decode cX11_device 86 = .ok (.aload_n 3, 1) := by decide +kernel
theorem dX11_device_87 : decode cX11_device 87 = .ok (.getfield 252, 3) := by decide +kernel
theorem dX11_device_90 : decode cX11_device 90 = .ok (.iload_n 1, 1) := by decide +kernel
theorem dX11_device_91 : decode cX11_device 91 = .ok (.iaload, 1) := by decide +kernel
theorem dX11_device_92 : decode cX11_device 92 = .ok (.ireturn, 1) := by decide +kernel
theorem dX11_device_93 : decode cX11_device 93 = .ok (.aload_n 3, 1) := by decide +kernel
theorem dX11_device_94 : decode cX11_device 94 = .ok (.getfield 255, 3) := by decide +kernel
theorem dX11_device_97 : decode cX11_device 97 = .ok (.iload_n 1, 1) := by decide +kernel
theorem dX11_device_98 : decode cX11_device 98 = .ok (.iaload, 1) := by decide +kernel
theorem dX11_device_99 : decode cX11_device 99 = .ok (.ireturn, 1) := by decide +kernel
theorem dX11_device_100 : decode cX11_device 100 = .ok (.aload_n 3, 1) := by decide +kernel
theorem dX11_device_101 : decode cX11_device 101 = .ok (.getfield 258, 3) := by decide +kernel
theorem dX11_device_104 : decode cX11_device 104 = .ok (.iload_n 1, 1) := by decide +kernel
theorem dX11_device_105 : decode cX11_device 105 = .ok (.iaload, 1) := by decide +kernel
theorem dX11_device_106 : decode cX11_device 106 = .ok (.ireturn, 1) := by decide +kernel
theorem dX11_device_107 : decode cX11_device 107 = .ok (.aload_n 3, 1) := by decide +kernel
theorem dX11_device_108 : decode cX11_device 108 = .ok (.iload_n 1, 1) := by decide +kernel
theorem dX11_device_109 : decode cX11_device 109 = .ok (.invokevirtual 261, 3) := by decide +kernel
theorem dX11_device_112 : decode cX11_device 112 = .ok (.ireturn, 1) := by decide +kernel
theorem dX11_device_113 : decode cX11_device 113 = .ok (.new 151, 3) := by decide +kernel
theorem dX11_device_116 : decode cX11_device 116 = .ok (.dup, 1) := by decide +kernel
theorem dX11_device_117 : decode cX11_device 117 = .ok (.ldc 153, 2) := by decide +kernel
theorem dX11_device_119 : decode cX11_device 119 = .ok (.invokespecial 155, 3) := by decide +kernel
theorem dX11_device_122 : decode cX11_device 122 = .ok (.athrow, 1) := by decide +kernel
theorem dX11_bind_0 : decode cX11_bind 0 = .ok (.aload_n 0, 1) := by decide +kernel
theorem dX11_bind_1 : decode cX11_bind 1 = .ok (.iload_n 1, 1) := by decide +kernel
theorem dX11_bind_2 : decode cX11_bind 2 = .ok (.invokevirtual 200, 3) := by decide +kernel
theorem dX11_bind_5 : decode cX11_bind 5 = .ok (.aload_n 0, 1) := by decide +kernel
theorem dX11_bind_6 : decode cX11_bind 6 = .ok (.iload_n 2, 1) := by decide +kernel
theorem dX11_bind_7 : decode cX11_bind 7 = .ok (.invokevirtual 236, 3) := by decide +kernel
theorem dX11_bind_10 : decode cX11_bind 10 = .ok (.iload_n 3, 1) := by decide +kernel
theorem dX11_bind_11 : decode cX11_bind 11 = .ok (.iconst 1, 1) := by decide +kernel
theorem dX11_bind_12 : decode cX11_bind 12 = .ok (.invokestatic 264, 3) := by decide +kernel
theorem dX11_bind_15 : decode cX11_bind 15 = .ok (.aload_n 0, 1) := by decide +kernel
theorem dX11_bind_16 : decode cX11_bind 16 = .ok (.getfield 32, 3) := by decide +kernel
theorem dX11_bind_19 : decode cX11_bind 19 = .ok (.iload_n 1, 1) := by decide +kernel
theorem dX11_bind_20 : decode cX11_bind 20 = .ok (.iload_n 2, 1) := by decide +kernel
theorem dX11_bind_21 : decode cX11_bind 21 = .ok (.invokevirtual 268, 3) := by decide +kernel
theorem dX11_bind_24 : decode cX11_bind 24 = .ok (.istore 4, 2) := by decide +kernel
theorem dX11_bind_26 : decode cX11_bind 26 = .ok (.iload 4, 2) := by decide +kernel
theorem dX11_bind_28 : decode cX11_bind 28 = .ok (.iconst (-1), 1) := by decide +kernel
theorem dX11_bind_29 : decode cX11_bind 29 = .ok (.if_icmp .ne 5, 3) := by decide +kernel
theorem dX11_bind_32 : decode cX11_bind 32 = .ok (.iconst 0, 1) := by decide +kernel
theorem dX11_bind_33 : decode cX11_bind 33 = .ok (.ireturn, 1) := by decide +kernel
theorem dX11_bind_34 : decode cX11_bind 34 = .ok (.iload_n 3, 1) := by decide +kernel
theorem dX11_bind_35 : decode cX11_bind 35 = .ok (.ifCond .ne 19, 3) := by decide +kernel
theorem dX11_bind_38 : decode cX11_bind 38 = .ok (.aload_n 0, 1) := by decide +kernel
theorem dX11_bind_39 : decode cX11_bind 39 = .ok (.getfield 32, 3) := by decide +kernel
theorem dX11_bind_42 : decode cX11_bind 42 = .ok (.getfield 272, 3) := by decide +kernel
theorem dX11_bind_45 : decode cX11_bind 45 = .ok (.iload 4, 2) := by decide +kernel
theorem dX11_bind_47 : decode cX11_bind 47 = .ok (.aaload, 1) := by decide +kernel
theorem dX11_bind_48 : decode cX11_bind 48 = .ok (.getfield 276, 3) := by decide +kernel
theorem dX11_bind_51 : decode cX11_bind 51 = .ok (.goto 16, 3) := by decide +kernel
theorem dX11_bind_54 : decode cX11_bind 54 = .ok (.aload_n 0, 1) := by decide +kernel
theorem dX11_bind_55 : decode cX11_bind 55 = .ok (.getfield 44, 3) := by decide +kernel
theorem dX11_bind_58 : decode cX11_bind 58 = .ok (.getfield 96, 3) := by decide +kernel
theorem dX11_bind_61 : decode cX11_bind 61 = .ok (.getfield 281, 3) := by decide +kernel
theorem dX11_bind_64 : decode cX11_bind 64 = .ok (.iload 4, 2) := by decide +kernel
theorem dX11_bind_66 : decode cX11_bind 66 = .ok (.iaload, 1) := by decide +kernel
theorem dX11_bind_67 : decode cX11_bind 67 = .ok (.ireturn, 1) := by decide +kernel
theorem dX11_log_0 : decode cX11_log 0 = .ok (.iload_n 2, 1) := by decide +kernel
theorem dX11_log_1 : decode cX11_log 1 = .ok (.iconst 3, 1) := by decide +kernel
theorem dX11_log_2 : decode cX11_log 2 = .ok (.invokestatic 264, 3) := by decide +kernel
theorem dX11_log_5 : decode cX11_log 5 = .ok (.aload_n 0, 1) := by decide +kernel
theorem dX11_log_6 : decode cX11_log 6 = .ok (.getfield 44, 3) := by decide +kernel
theorem dX11_log_9 : decode cX11_log 9 = .ok (.getfield 96, 3) := by decide +kernel
theorem dX11_log_12 : decode cX11_log 12 = .ok (.astore_n 3, 1) := by decide +kernel
theorem dX11_log_13 : decode cX11_log 13 = .ok (.iload_n 1, 1) := by decide +kernel
theorem dX11_log_14 : decode cX11_log 14 = .ok (.ifCond .lt 11, 3) := by decide +kernel
theorem dX11_log_17 : decode cX11_log 17 = .ok (.iload_n 1, 1) := by decide +kernel
theorem dX11_log_18 : decode cX11_log 18 = .ok (.aload_n 3, 1) := by decide +kernel
theorem dX11_log_19 : decode cX11_log 19 = .ok (.getfield 142, 3) := by decide +kernel
theorem dX11_log_22 : decode cX11_log 22 = .ok (.if_icmp .lt 14, 3) := by decide +kernel
theorem dX11_log_25 : decode cX11_log 25 = .ok (.new 151, 3) := by decide +kernel
theorem dX11_log_28 : decode cX11_log 28 = .ok (.dup, 1) := by decide +kernel
theorem dX11_log_29 : decode cX11_log 29 = .ok (.ldc_w 284, 3) := by decide +kernel
theorem dX11_log_32 : decode cX11_log 32 = .ok (.invokespecial 155, 3) := by decide +kernel
theorem dX11_log_35 : decode cX11_log 35 = .ok (.athrow, 1) := by decide +kernel
theorem dX11_log_36 : decode cX11_log 36 = .ok (.aload_n 3, 1) := by decide +kernel
theorem dX11_log_37 : decode cX11_log 37 = .ok (.iload_n 1, 1) := by decide +kernel
theorem dX11_log_38 : decode cX11_log 38 = .ok (.iload_n 2, 1) := by decide +kernel
theorem dX11_log_39 : decode cX11_log 39 = .ok (.invokevirtual 286, 3) := by decide +kernel
theorem dX11_log_42 : decode cX11_log 42 = .ok (.ireturn, 1) := by decide +kernel
theorem dX11_ahead_0 : decode cX11_ahead 0 = .ok (.aload_n 0, 1) := by decide +kernel
theorem dX11_ahead_1 : decode cX11_ahead 1 = .ok (.iload_n 1, 1) := by decide +kernel
theorem dX11_ahead_2 : decode cX11_ahead 2 = .ok (.invokevirtual 156, 3) := by decide +kernel
theorem dX11_ahead_5 : decode cX11_ahead 5 = .ok (.iload_n 3, 1) := by decide +kernel
theorem dX11_ahead_6 : decode cX11_ahead 6 = .ok (.iconst 2, 1) := by decide +kernel
theorem dX11_ahead_7 : decode cX11_ahead 7 = .ok (.invokestatic 264, 3) := by decide +kernel
theorem dX11_ahead_10 : decode cX11_ahead 10 = .ok (.iload_n 2, 1) := by decide +kernel
theorem dX11_ahead_11 : decode cX11_ahead 11 = .ok (.iconst 0, 1) := by decide +kernel
theorem dX11_ahead_12 : decode cX11_ahead 12 = .ok (.sipush 200, 3) := by decide +kernel
theorem dX11_ahead_15 : decode cX11_ahead 15 = .ok (.invokestatic 289, 3) := by decide +kernel
theorem dX11_ahead_18 : decode cX11_ahead 18 = .ok (.aload_n 0, 1) := by decide +kernel
theorem dX11_ahead_19 : decode cX11_ahead 19 = .ok (.getfield 67, 3) := by decide +kernel
theorem dX11_ahead_22 : decode cX11_ahead 22 = .ok (.aload_n 0, 1) := by decide +kernel
theorem dX11_ahead_23 : decode cX11_ahead 23 = .ok (.getfield 44, 3) := by decide +kernel
theorem dX11_ahead_26 : decode cX11_ahead 26 = .ok (.getfield 96, 3) := by decide +kernel
theorem dX11_ahead_29 : decode cX11_ahead 29 = .ok (.iload_n 2, 1) := by decide +kernel
theorem dX11_ahead_30 : decode cX11_ahead 30 = .ok (.invokevirtual 293, 3) := by decide +kernel
theorem dX11_ahead_33 : decode cX11_ahead 33 = .ok (.astore 4, 2) := by decide +kernel
theorem dX11_ahead_35 : decode cX11_ahead 35 = .ok (.iload_n 3, 1) := by decide +kernel
theorem dX11_ahead_36 : decode cX11_ahead 36 = .ok (.lookupswitch 44 #[(0, 28), (1, 36)], 28) := by decide +kernel
theorem dX11_ahead_64 : decode cX11_ahead 64 = .ok (.aload 4, 2) := by decide +kernel
theorem dX11_ahead_66 : decode cX11_ahead 66 = .ok (.getfield 159, 3) := by decide +kernel
theorem dX11_ahead_69 : decode cX11_ahead 69 = .ok (.iload_n 1, 1) := by decide +kernel
theorem dX11_ahead_70 : decode cX11_ahead 70 = .ok (.iaload, 1) := by decide +kernel
theorem dX11_ahead_71 : decode cX11_ahead 71 = .ok (.ireturn, 1) := by decide +kernel
theorem dX11_ahead_72 : decode cX11_ahead 72 = .ok (.aload 4, 2) := by decide +kernel
theorem dX11_ahead_74 : decode cX11_ahead 74 = .ok (.getfield 162, 3) := by decide +kernel
theorem dX11_ahead_77 : decode cX11_ahead 77 = .ok (.iload_n 1, 1) := by decide +kernel
theorem dX11_ahead_78 : decode cX11_ahead 78 = .ok (.iaload, 1) := by decide +kernel
theorem dX11_ahead_79 : decode cX11_ahead 79 = .ok (.ireturn, 1) := by decide +kernel
theorem dX11_ahead_80 : decode cX11_ahead 80 = .ok (.aload 4, 2) := by decide +kernel
theorem dX11_ahead_82 : decode cX11_ahead 82 = .ok (.iload_n 1, 1) := by decide +kernel
theorem dX11_ahead_83 : decode cX11_ahead 83 = .ok (.invokevirtual 186, 3) := by decide +kernel
theorem dX11_ahead_86 : decode cX11_ahead 86 = .ok (.ifCond .eq 7, 3) := by decide +kernel
theorem dX11_ahead_89 : decode cX11_ahead 89 = .ok (.iconst 1, 1) := by decide +kernel
theorem dX11_ahead_90 : decode cX11_ahead 90 = .ok (.goto 4, 3) := by decide +kernel
theorem dX11_ahead_93 : decode cX11_ahead 93 = .ok (.iconst 0, 1) := by decide +kernel
theorem dX11_ahead_94 : decode cX11_ahead 94 = .ok (.ireturn, 1) := by decide +kernel
theorem dX11_bears_0 : decode cX11_bears 0 = .ok (.aload_n 0, 1) := by decide +kernel
theorem dX11_bears_1 : decode cX11_bears 1 = .ok (.iload_n 1, 1) := by decide +kernel
theorem dX11_bears_2 : decode cX11_bears 2 = .ok (.invokevirtual 156, 3) := by decide +kernel
theorem dX11_bears_5 : decode cX11_bears 5 = .ok (.iload_n 3, 1) := by decide +kernel
theorem dX11_bears_6 : decode cX11_bears 6 = .ok (.iconst 1, 1) := by decide +kernel
theorem dX11_bears_7 : decode cX11_bears 7 = .ok (.invokestatic 264, 3) := by decide +kernel
theorem dX11_bears_10 : decode cX11_bears 10 = .ok (.iload_n 2, 1) := by decide +kernel
theorem dX11_bears_11 : decode cX11_bears 11 = .ok (.iconst 1, 1) := by decide +kernel
theorem dX11_bears_12 : decode cX11_bears 12 = .ok (.iload_n 3, 1) := by decide +kernel
theorem dX11_bears_13 : decode cX11_bears 13 = .ok (.ifCond .ne 9, 3) := by decide +kernel
theorem dX11_bears_16 : decode cX11_bears 16 = .ok (.sipush 200, 3) := by decide +kernel
theorem dX11_bears_19 : decode cX11_bears 19 = .ok (.goto 5, 3) := by decide +kernel
theorem dX11_bears_22 : decode cX11_bears 22 = .ok (.bipush 60, 2) := by decide +kernel
theorem dX11_bears_24 : decode cX11_bears 24 = .ok (.invokestatic 289, 3) := by decide +kernel
theorem dX11_bears_27 : decode cX11_bears 27 = .ok (.iload_n 3, 1) := by decide +kernel
theorem dX11_bears_28 : decode cX11_bears 28 = .ok (.ifCond .ne 22, 3) := by decide +kernel
theorem dX11_bears_31 : decode cX11_bears 31 = .ok (.aload_n 0, 1) := by decide +kernel
theorem dX11_bears_32 : decode cX11_bears 32 = .ok (.getfield 67, 3) := by decide +kernel
theorem dX11_bears_35 : decode cX11_bears 35 = .ok (.aload_n 0, 1) := by decide +kernel
theorem dX11_bears_36 : decode cX11_bears 36 = .ok (.getfield 44, 3) := by decide +kernel
theorem dX11_bears_39 : decode cX11_bears 39 = .ok (.getfield 96, 3) := by decide +kernel
theorem dX11_bears_42 : decode cX11_bears 42 = .ok (.iload_n 1, 1) := by decide +kernel
theorem dX11_bears_43 : decode cX11_bears 43 = .ok (.iload_n 2, 1) := by decide +kernel
theorem dX11_bears_44 : decode cX11_bears 44 = .ok (.invokevirtual 297, 3) := by decide +kernel
theorem dX11_bears_47 : decode cX11_bears 47 = .ok (.goto 19, 3) := by decide +kernel
theorem dX11_bears_50 : decode cX11_bears 50 = .ok (.aload_n 0, 1) := by decide +kernel
theorem dX11_bears_51 : decode cX11_bears 51 = .ok (.getfield 67, 3) := by decide +kernel
theorem dX11_bears_54 : decode cX11_bears 54 = .ok (.aload_n 0, 1) := by decide +kernel
theorem dX11_bears_55 : decode cX11_bears 55 = .ok (.getfield 44, 3) := by decide +kernel
theorem dX11_bears_58 : decode cX11_bears 58 = .ok (.getfield 96, 3) := by decide +kernel
theorem dX11_bears_61 : decode cX11_bears 61 = .ok (.iload_n 1, 1) := by decide +kernel
theorem dX11_bears_62 : decode cX11_bears 62 = .ok (.iload_n 2, 1) := by decide +kernel
theorem dX11_bears_63 : decode cX11_bears 63 = .ok (.invokevirtual 301, 3) := by decide +kernel
theorem dX11_bears_66 : decode cX11_bears 66 = .ok (.ireturn, 1) := by decide +kernel
theorem dX11_flips_0 : decode cX11_flips 0 = .ok (.aload_n 0, 1) := by decide +kernel
theorem dX11_flips_1 : decode cX11_flips 1 = .ok (.iload_n 1, 1) := by decide +kernel
theorem dX11_flips_2 : decode cX11_flips 2 = .ok (.invokevirtual 200, 3) := by decide +kernel
theorem dX11_flips_5 : decode cX11_flips 5 = .ok (.iload_n 2, 1) := by decide +kernel
theorem dX11_flips_6 : decode cX11_flips 6 = .ok (.iconst 1, 1) := by decide +kernel
theorem dX11_flips_7 : decode cX11_flips 7 = .ok (.sipush 200, 3) := by decide +kernel
theorem dX11_flips_10 : decode cX11_flips 10 = .ok (.invokestatic 289, 3) := by decide +kernel
theorem dX11_flips_13 : decode cX11_flips 13 = .ok (.aload_n 0, 1) := by decide +kernel
theorem dX11_flips_14 : decode cX11_flips 14 = .ok (.getfield 67, 3) := by decide +kernel
theorem dX11_flips_17 : decode cX11_flips 17 = .ok (.aload_n 0, 1) := by decide +kernel
theorem dX11_flips_18 : decode cX11_flips 18 = .ok (.getfield 44, 3) := by decide +kernel
theorem dX11_flips_21 : decode cX11_flips 21 = .ok (.getfield 96, 3) := by decide +kernel
theorem dX11_flips_24 : decode cX11_flips 24 = .ok (.iload_n 1, 1) := by decide +kernel
theorem dX11_flips_25 : decode cX11_flips 25 = .ok (.iload_n 2, 1) := by decide +kernel
theorem dX11_flips_26 : decode cX11_flips 26 = .ok (.invokevirtual 304, 3) := by decide +kernel
theorem dX11_flips_29 : decode cX11_flips 29 = .ok (.ireturn, 1) := by decide +kernel
theorem dX11_minutes_0 : decode cX11_minutes 0 = .ok (.iload_n 1, 1) := by decide +kernel
theorem dX11_minutes_1 : decode cX11_minutes 1 = .ok (.iconst 1, 1) := by decide +kernel
theorem dX11_minutes_2 : decode cX11_minutes 2 = .ok (.if_icmp .lt 9, 3) := by decide +kernel
theorem dX11_minutes_5 : decode cX11_minutes 5 = .ok (.iload_n 1, 1) := by decide +kernel
theorem dX11_minutes_6 : decode cX11_minutes 6 = .ok (.bipush 60, 2) := by decide +kernel
theorem dX11_minutes_8 : decode cX11_minutes 8 = .ok (.if_icmp .le 9, 3) := by decide +kernel
theorem dX11_minutes_11 : decode cX11_minutes 11 = .ok (.aload_n 0, 1) := by decide +kernel
theorem dX11_minutes_12 : decode cX11_minutes 12 = .ok (.iconst (-1), 1) := by decide +kernel
theorem dX11_minutes_13 : decode cX11_minutes 13 = .ok (.invokevirtual 307, 3) := by decide +kernel
theorem dX11_minutes_16 : decode cX11_minutes 16 = .ok (.ireturn, 1) := by decide +kernel
theorem dX11_minutes_17 : decode cX11_minutes 17 = .ok (.aload_n 0, 1) := by decide +kernel
theorem dX11_minutes_18 : decode cX11_minutes 18 = .ok (.getfield 44, 3) := by decide +kernel
theorem dX11_minutes_21 : decode cX11_minutes 21 = .ok (.invokevirtual 310, 3) := by decide +kernel
theorem dX11_minutes_24 : decode cX11_minutes 24 = .ok (.iconst 0, 1) := by decide +kernel
theorem dX11_minutes_25 : decode cX11_minutes 25 = .ok (.istore_n 2, 1) := by decide +kernel
theorem dX11_minutes_26 : decode cX11_minutes 26 = .ok (.iload_n 2, 1) := by decide +kernel
theorem dX11_minutes_27 : decode cX11_minutes 27 = .ok (.iload_n 1, 1) := by decide +kernel
theorem dX11_minutes_28 : decode cX11_minutes 28 = .ok (.if_icmp .ge 23, 3) := by decide +kernel
theorem dX11_minutes_31 : decode cX11_minutes 31 = .ok (.aload_n 0, 1) := by decide +kernel
theorem dX11_minutes_32 : decode cX11_minutes 32 = .ok (.getfield 58, 3) := by decide +kernel
theorem dX11_minutes_35 : decode cX11_minutes 35 = .ok (.aload_n 0, 1) := by decide +kernel
theorem dX11_minutes_36 : decode cX11_minutes 36 = .ok (.getfield 44, 3) := by decide +kernel
theorem dX11_minutes_39 : decode cX11_minutes 39 = .ok (.getfield 96, 3) := by decide +kernel
theorem dX11_minutes_42 : decode cX11_minutes 42 = .ok (.invokevirtual 313, 3) := by decide +kernel
theorem dX11_minutes_45 : decode cX11_minutes 45 = .ok (.iinc 2 1, 3) := by decide +kernel
theorem dX11_minutes_48 : decode cX11_minutes 48 = .ok (.goto (-22), 3) := by decide +kernel
theorem dX11_minutes_51 : decode cX11_minutes 51 = .ok (.aload_n 0, 1) := by decide +kernel
theorem dX11_minutes_52 : decode cX11_minutes 52 = .ok (.getfield 44, 3) := by decide +kernel
theorem dX11_minutes_55 : decode cX11_minutes 55 = .ok (.getfield 96, 3) := by decide +kernel
theorem dX11_minutes_58 : decode cX11_minutes 58 = .ok (.getfield 115, 3) := by decide +kernel
theorem dX11_minutes_61 : decode cX11_minutes 61 = .ok (.ireturn, 1) := by decide +kernel
theorem dX11_load_0 : decode cX11_load 0 = .ok (.aload_n 0, 1) := by decide +kernel
theorem dX11_load_1 : decode cX11_load 1 = .ok (.getfield 32, 3) := by decide +kernel
theorem dX11_load_4 : decode cX11_load 4 = .ok (.iload_n 1, 1) := by decide +kernel
theorem dX11_load_5 : decode cX11_load 5 = .ok (.invokevirtual 317, 3) := by decide +kernel
theorem dX11_load_8 : decode cX11_load 8 = .ok (.ifCond .eq 29, 3) := by decide +kernel
theorem dX11_load_11 : decode cX11_load 11 = .ok (.iload_n 2, 1) := by decide +kernel
theorem dX11_load_12 : decode cX11_load 12 = .ok (.ifCond .lt 25, 3) := by decide +kernel
theorem dX11_load_15 : decode cX11_load 15 = .ok (.iload_n 2, 1) := by decide +kernel
theorem dX11_load_16 : decode cX11_load 16 = .ok (.bipush 99, 2) := by decide +kernel
theorem dX11_load_18 : decode cX11_load 18 = .ok (.if_icmp .gt 19, 3) := by decide +kernel
theorem dX11_load_21 : decode cX11_load 21 = .ok (.aload_n 0, 1) := by decide +kernel
theorem dX11_load_22 : decode cX11_load 22 = .ok (.getfield 44, 3) := by decide +kernel
theorem dX11_load_25 : decode cX11_load 25 = .ok (.getfield 96, 3) := by decide +kernel
theorem dX11_load_28 : decode cX11_load 28 = .ok (.getfield 168, 3) := by decide +kernel
theorem dX11_load_31 : decode cX11_load 31 = .ok (.iload_n 1, 1) := by decide +kernel
theorem dX11_load_32 : decode cX11_load 32 = .ok (.iaload, 1) := by decide +kernel
theorem dX11_load_33 : decode cX11_load 33 = .ok (.iload_n 2, 1) := by decide +kernel
theorem dX11_load_34 : decode cX11_load 34 = .ok (.if_icmp .ne 9, 3) := by decide +kernel
theorem dX11_load_37 : decode cX11_load 37 = .ok (.aload_n 0, 1) := by decide +kernel
theorem dX11_load_38 : decode cX11_load 38 = .ok (.iconst (-1), 1) := by decide +kernel
theorem dX11_load_39 : decode cX11_load 39 = .ok (.invokevirtual 307, 3) := by decide +kernel
theorem dX11_load_42 : decode cX11_load 42 = .ok (.ireturn, 1) := by decide +kernel
theorem dX11_load_43 : decode cX11_load 43 = .ok (.aload_n 0, 1) := by decide +kernel
theorem dX11_load_44 : decode cX11_load 44 = .ok (.getfield 44, 3) := by decide +kernel
theorem dX11_load_47 : decode cX11_load 47 = .ok (.invokevirtual 310, 3) := by decide +kernel
theorem dX11_load_50 : decode cX11_load 50 = .ok (.aload_n 0, 1) := by decide +kernel
theorem dX11_load_51 : decode cX11_load 51 = .ok (.getfield 44, 3) := by decide +kernel
theorem dX11_load_54 : decode cX11_load 54 = .ok (.getfield 96, 3) := by decide +kernel
theorem dX11_load_57 : decode cX11_load 57 = .ok (.getfield 168, 3) := by decide +kernel
theorem dX11_load_60 : decode cX11_load 60 = .ok (.iload_n 1, 1) := by decide +kernel
theorem dX11_load_61 : decode cX11_load 61 = .ok (.iaload, 1) := by decide +kernel
theorem dX11_load_62 : decode cX11_load 62 = .ok (.istore_n 3, 1) := by decide +kernel
theorem dX11_load_63 : decode cX11_load 63 = .ok (.aload_n 0, 1) := by decide +kernel
theorem dX11_load_64 : decode cX11_load 64 = .ok (.getfield 44, 3) := by decide +kernel
theorem dX11_load_67 : decode cX11_load 67 = .ok (.getfield 96, 3) := by decide +kernel
theorem dX11_load_70 : decode cX11_load 70 = .ok (.getfield 168, 3) := by decide +kernel
theorem dX11_load_73 : decode cX11_load 73 = .ok (.iload_n 1, 1) := by decide +kernel
theorem dX11_load_74 : decode cX11_load 74 = .ok (.iload_n 2, 1) := by decide +kernel
theorem dX11_load_75 : decode cX11_load 75 = .ok (.iastore, 1) := by decide +kernel
theorem dX11_load_76 : decode cX11_load 76 = .ok (.iload_n 3, 1) := by decide +kernel
theorem dX11_load_77 : decode cX11_load 77 = .ok (.ireturn, 1) := by decide +kernel
theorem dX11_hold_0 : decode cX11_hold 0 = .ok (.aload_n 0, 1) := by decide +kernel
theorem dX11_hold_1 : decode cX11_hold 1 = .ok (.getfield 32, 3) := by decide +kernel
theorem dX11_hold_4 : decode cX11_hold 4 = .ok (.iload_n 1, 1) := by decide +kernel
theorem dX11_hold_5 : decode cX11_hold 5 = .ok (.invokevirtual 320, 3) := by decide +kernel
theorem dX11_hold_8 : decode cX11_hold 8 = .ok (.ifCond .eq 40, 3) := by decide +kernel
theorem dX11_hold_11 : decode cX11_hold 11 = .ok (.iload_n 2, 1) := by decide +kernel
theorem dX11_hold_12 : decode cX11_hold 12 = .ok (.iconst (-1), 1) := by decide +kernel
theorem dX11_hold_13 : decode cX11_hold 13 = .ok (.if_icmp .lt 35, 3) := by decide +kernel
theorem dX11_hold_16 : decode cX11_hold 16 = .ok (.iload_n 2, 1) := by decide +kernel
theorem dX11_hold_17 : decode cX11_hold 17 = .ok (.aload_n 0, 1) := by decide +kernel
theorem dX11_hold_18 : decode cX11_hold 18 = .ok (.getfield 32, 3) := by decide +kernel
theorem dX11_hold_21 : decode cX11_hold 21 = .ok (.getfield 239, 3) := by decide +kernel
theorem dX11_hold_24 : decode cX11_hold 24 = .ok (.iload_n 1, 1) := by decide +kernel
theorem dX11_hold_25 : decode cX11_hold 25 = .ok (.aaload, 1) := by decide +kernel
theorem dX11_hold_26 : decode cX11_hold 26 = .ok (.getfield 249, 3) := by decide +kernel
theorem dX11_hold_29 : decode cX11_hold 29 = .ok (.if_icmp .gt 19, 3) := by decide +kernel
theorem dX11_hold_32 : decode cX11_hold 32 = .ok (.aload_n 0, 1) := by decide +kernel
theorem dX11_hold_33 : decode cX11_hold 33 = .ok (.getfield 44, 3) := by decide +kernel
theorem dX11_hold_36 : decode cX11_hold 36 = .ok (.getfield 96, 3) := by decide +kernel
theorem dX11_hold_39 : decode cX11_hold 39 = .ok (.getfield 258, 3) := by decide +kernel
theorem dX11_hold_42 : decode cX11_hold 42 = .ok (.iload_n 1, 1) := by decide +kernel
theorem dX11_hold_43 : decode cX11_hold 43 = .ok (.iaload, 1) := by decide +kernel
theorem dX11_hold_44 : decode cX11_hold 44 = .ok (.iload_n 2, 1) := by decide +kernel
theorem dX11_hold_45 : decode cX11_hold 45 = .ok (.if_icmp .ne 10, 3) := by decide +kernel
theorem dX11_hold_48 : decode cX11_hold 48 = .ok (.aload_n 0, 1) := by decide +kernel
theorem dX11_hold_49 : decode cX11_hold 49 = .ok (.bipush (-2), 2) := by decide +kernel
theorem dX11_hold_51 : decode cX11_hold 51 = .ok (.invokevirtual 307, 3) := by decide +kernel
theorem dX11_hold_54 : decode cX11_hold 54 = .ok (.ireturn, 1) := by decide +kernel
theorem dX11_hold_55 : decode cX11_hold 55 = .ok (.aload_n 0, 1) := by decide +kernel
theorem dX11_hold_56 : decode cX11_hold 56 = .ok (.getfield 44, 3) := by decide +kernel
theorem dX11_hold_59 : decode cX11_hold 59 = .ok (.invokevirtual 310, 3) := by decide +kernel
theorem dX11_hold_62 : decode cX11_hold 62 = .ok (.aload_n 0, 1) := by decide +kernel
theorem dX11_hold_63 : decode cX11_hold 63 = .ok (.getfield 44, 3) := by decide +kernel
theorem dX11_hold_66 : decode cX11_hold 66 = .ok (.getfield 96, 3) := by decide +kernel
theorem dX11_hold_69 : decode cX11_hold 69 = .ok (.getfield 258, 3) := by decide +kernel
theorem dX11_hold_72 : decode cX11_hold 72 = .ok (.iload_n 1, 1) := by decide +kernel
theorem dX11_hold_73 : decode cX11_hold 73 = .ok (.iaload, 1) := by decide +kernel
theorem dX11_hold_74 : decode cX11_hold 74 = .ok (.istore_n 3, 1) := by decide +kernel
theorem dX11_hold_75 : decode cX11_hold 75 = .ok (.aload_n 0, 1) := by decide +kernel
theorem dX11_hold_76 : decode cX11_hold 76 = .ok (.getfield 44, 3) := by decide +kernel
theorem dX11_hold_79 : decode cX11_hold 79 = .ok (.getfield 96, 3) := by decide +kernel
theorem dX11_hold_82 : decode cX11_hold 82 = .ok (.getfield 258, 3) := by decide +kernel
theorem dX11_hold_85 : decode cX11_hold 85 = .ok (.iload_n 1, 1) := by decide +kernel
theorem dX11_hold_86 : decode cX11_hold 86 = .ok (.iload_n 2, 1) := by decide +kernel
theorem dX11_hold_87 : decode cX11_hold 87 = .ok (.iastore, 1) := by decide +kernel
theorem dX11_hold_88 : decode cX11_hold 88 = .ok (.iload_n 3, 1) := by decide +kernel
theorem dX11_hold_89 : decode cX11_hold 89 = .ok (.ireturn, 1) := by decide +kernel
theorem dX11_start_0 : decode cX11_start 0 = .ok (.aload_n 0, 1) := by decide +kernel
theorem dX11_start_1 : decode cX11_start 1 = .ok (.getfield 32, 3) := by decide +kernel
theorem dX11_start_4 : decode cX11_start 4 = .ok (.iload_n 1, 1) := by decide +kernel
theorem dX11_start_5 : decode cX11_start 5 = .ok (.invokevirtual 317, 3) := by decide +kernel
theorem dX11_start_8 : decode cX11_start 8 = .ok (.ifCond .eq 31, 3) := by decide +kernel
theorem dX11_start_11 : decode cX11_start 11 = .ok (.aload_n 0, 1) := by decide +kernel
theorem dX11_start_12 : decode cX11_start 12 = .ok (.getfield 44, 3) := by decide +kernel
theorem dX11_start_15 : decode cX11_start 15 = .ok (.getfield 96, 3) := by decide +kernel
theorem dX11_start_18 : decode cX11_start 18 = .ok (.iload_n 1, 1) := by decide +kernel
theorem dX11_start_19 : decode cX11_start 19 = .ok (.invokevirtual 186, 3) := by decide +kernel
theorem dX11_start_22 : decode cX11_start 22 = .ok (.ifCond .eq 17, 3) := by decide +kernel
theorem dX11_start_25 : decode cX11_start 25 = .ok (.aload_n 0, 1) := by decide +kernel
theorem dX11_start_26 : decode cX11_start 26 = .ok (.getfield 44, 3) := by decide +kernel
theorem dX11_start_29 : decode cX11_start 29 = .ok (.getfield 96, 3) := by decide +kernel
theorem dX11_start_32 : decode cX11_start 32 = .ok (.iload_n 1, 1) := by decide +kernel
theorem dX11_start_33 : decode cX11_start 33 = .ok (.invokevirtual 323, 3) := by decide +kernel
theorem dX11_start_36 : decode cX11_start 36 = .ok (.ifCond .eq 9, 3) := by decide +kernel
theorem dX11_start_39 : decode cX11_start 39 = .ok (.aload_n 0, 1) := by decide +kernel
theorem dX11_start_40 : decode cX11_start 40 = .ok (.iconst (-1), 1) := by decide +kernel
theorem dX11_start_41 : decode cX11_start 41 = .ok (.invokevirtual 307, 3) := by decide +kernel
theorem dX11_start_44 : decode cX11_start 44 = .ok (.ireturn, 1) := by decide +kernel
theorem dX11_start_45 : decode cX11_start 45 = .ok (.aload_n 0, 1) := by decide +kernel
theorem dX11_start_46 : decode cX11_start 46 = .ok (.getfield 44, 3) := by decide +kernel
theorem dX11_start_49 : decode cX11_start 49 = .ok (.invokevirtual 310, 3) := by decide +kernel
theorem dX11_start_52 : decode cX11_start 52 = .ok (.aload_n 0, 1) := by decide +kernel
theorem dX11_start_53 : decode cX11_start 53 = .ok (.getfield 44, 3) := by decide +kernel
theorem dX11_start_56 : decode cX11_start 56 = .ok (.getfield 96, 3) := by decide +kernel
theorem dX11_start_59 : decode cX11_start 59 = .ok (.getfield 190, 3) := by decide +kernel
theorem dX11_start_62 : decode cX11_start 62 = .ok (.iload_n 1, 1) := by decide +kernel
theorem dX11_start_63 : decode cX11_start 63 = .ok (.iconst 0, 1) := by decide +kernel
theorem dX11_start_64 : decode cX11_start 64 = .ok (.iastore, 1) := by decide +kernel
theorem dX11_start_65 : decode cX11_start 65 = .ok (.aload_n 0, 1) := by decide +kernel
theorem dX11_start_66 : decode cX11_start 66 = .ok (.getfield 44, 3) := by decide +kernel
theorem dX11_start_69 : decode cX11_start 69 = .ok (.getfield 96, 3) := by decide +kernel
theorem dX11_start_72 : decode cX11_start 72 = .ok (.iconst 5, 1) := by decide +kernel
theorem dX11_start_73 : decode cX11_start 73 = .ok (.iload_n 1, 1) := by decide +kernel
theorem dX11_start_74 : decode cX11_start 74 = .ok (.iconst (-1), 1) := by decide +kernel
theorem dX11_start_75 : decode cX11_start 75 = .ok (.invokevirtual 326, 3) := by decide +kernel
theorem dX11_start_78 : decode cX11_start 78 = .ok (.aload_n 0, 1) := by decide +kernel
theorem dX11_start_79 : decode cX11_start 79 = .ok (.getfield 44, 3) := by decide +kernel
theorem dX11_start_82 : decode cX11_start 82 = .ok (.getfield 96, 3) := by decide +kernel
theorem dX11_start_85 : decode cX11_start 85 = .ok (.getfield 162, 3) := by decide +kernel
theorem dX11_start_88 : decode cX11_start 88 = .ok (.iload_n 1, 1) := by decide +kernel
theorem dX11_start_89 : decode cX11_start 89 = .ok (.iaload, 1) := by decide +kernel
theorem dX11_start_90 : decode cX11_start 90 = .ok (.ireturn, 1) := by decide +kernel
theorem dX11_foresee_0 : decode cX11_foresee 0 = .ok (.iload_n 1, 1) := by decide +kernel
theorem dX11_foresee_1 : decode cX11_foresee 1 = .ok (.ifCond .lt 23, 3) := by decide +kernel
theorem dX11_foresee_4 : decode cX11_foresee 4 = .ok (.iload_n 1, 1) := by decide +kernel
theorem dX11_foresee_5 : decode cX11_foresee 5 = .ok (.bipush 9, 2) := by decide +kernel
theorem dX11_foresee_7 : decode cX11_foresee 7 = .ok (.if_icmp .gt 17, 3) := by decide +kernel
theorem dX11_foresee_10 : decode cX11_foresee 10 = .ok (.aload_n 0, 1) := by decide +kernel
theorem dX11_foresee_11 : decode cX11_foresee 11 = .ok (.getfield 44, 3) := by decide +kernel
theorem dX11_foresee_14 : decode cX11_foresee 14 = .ok (.getfield 96, 3) := by decide +kernel
theorem dX11_foresee_17 : decode cX11_foresee 17 = .ok (.getfield 120, 3) := by decide +kernel
theorem dX11_foresee_20 : decode cX11_foresee 20 = .ok (.iload_n 1, 1) := by decide +kernel
theorem dX11_foresee_21 : decode cX11_foresee 21 = .ok (.if_icmp .ne 9, 3) := by decide +kernel
theorem dX11_foresee_24 : decode cX11_foresee 24 = .ok (.aload_n 0, 1) := by decide +kernel
theorem dX11_foresee_25 : decode cX11_foresee 25 = .ok (.iconst (-1), 1) := by decide +kernel
theorem dX11_foresee_26 : decode cX11_foresee 26 = .ok (.invokevirtual 307, 3) := by decide +kernel
theorem dX11_foresee_29 : decode cX11_foresee 29 = .ok (.ireturn, 1) := by decide +kernel
theorem dX11_foresee_30 : decode cX11_foresee 30 = .ok (.aload_n 0, 1) := by decide +kernel
theorem dX11_foresee_31 : decode cX11_foresee 31 = .ok (.getfield 44, 3) := by decide +kernel
theorem dX11_foresee_34 : decode cX11_foresee 34 = .ok (.invokevirtual 310, 3) := by decide +kernel
theorem dX11_foresee_37 : decode cX11_foresee 37 = .ok (.aload_n 0, 1) := by decide +kernel
theorem dX11_foresee_38 : decode cX11_foresee 38 = .ok (.getfield 44, 3) := by decide +kernel
theorem dX11_foresee_41 : decode cX11_foresee 41 = .ok (.getfield 96, 3) := by decide +kernel
theorem dX11_foresee_44 : decode cX11_foresee 44 = .ok (.getfield 120, 3) := by decide +kernel
theorem dX11_foresee_47 : decode cX11_foresee 47 = .ok (.istore_n 2, 1) := by decide +kernel
theorem dX11_foresee_48 : decode cX11_foresee 48 = .ok (.aload_n 0, 1) := by decide +kernel
theorem dX11_foresee_49 : decode cX11_foresee 49 = .ok (.getfield 44, 3) := by decide +kernel
theorem dX11_foresee_52 : decode cX11_foresee 52 = .ok (.getfield 96, 3) := by decide +kernel
theorem dX11_foresee_55 : decode cX11_foresee 55 = .ok (.iload_n 1, 1) := by decide +kernel
theorem dX11_foresee_56 : decode cX11_foresee 56 = .ok (.putfield 120, 3) := by decide +kernel
theorem dX11_foresee_59 : decode cX11_foresee 59 = .ok (.iload_n 2, 1) := by decide +kernel
theorem dX11_foresee_60 : decode cX11_foresee 60 = .ok (.ireturn, 1) := by decide +kernel
theorem dX11_undo_0 : decode cX11_undo 0 = .ok (.aload_n 0, 1) := by decide +kernel
theorem dX11_undo_1 : decode cX11_undo 1 = .ok (.getfield 44, 3) := by decide +kernel
theorem dX11_undo_4 : decode cX11_undo 4 = .ok (.invokevirtual 329, 3) := by decide +kernel
theorem dX11_undo_7 : decode cX11_undo 7 = .ok (.ifCond .eq 13, 3) := by decide +kernel
theorem dX11_undo_10 : decode cX11_undo 10 = .ok (.aload_n 0, 1) := by decide +kernel
theorem dX11_undo_11 : decode cX11_undo 11 = .ok (.getfield 44, 3) := by decide +kernel
theorem dX11_undo_14 : decode cX11_undo 14 = .ok (.getfield 145, 3) := by decide +kernel
theorem dX11_undo_17 : decode cX11_undo 17 = .ok (.goto 4, 3) := by decide +kernel
theorem dX11_undo_20 : decode cX11_undo 20 = .ok (.iconst (-1), 1) := by decide +kernel
theorem dX11_undo_21 : decode cX11_undo 21 = .ok (.ireturn, 1) := by decide +kernel
theorem dX11_note_0 : decode cX11_note 0 = .ok (.aload_n 0, 1) := by decide +kernel
theorem dX11_note_1 : decode cX11_note 1 = .ok (.getfield 32, 3) := by decide +kernel
theorem dX11_note_4 : decode cX11_note 4 = .ok (.iload_n 1, 1) := by decide +kernel
theorem dX11_note_5 : decode cX11_note 5 = .ok (.invokevirtual 317, 3) := by decide +kernel
theorem dX11_note_8 : decode cX11_note 8 = .ok (.ifCond .eq 28, 3) := by decide +kernel
theorem dX11_note_11 : decode cX11_note 11 = .ok (.iload_n 2, 1) := by decide +kernel
theorem dX11_note_12 : decode cX11_note 12 = .ok (.ifCond .lt 24, 3) := by decide +kernel
theorem dX11_note_15 : decode cX11_note 15 = .ok (.iload_n 2, 1) := by decide +kernel
theorem dX11_note_16 : decode cX11_note 16 = .ok (.bipush 60, 2) := by decide +kernel
theorem dX11_note_18 : decode cX11_note 18 = .ok (.if_icmp .gt 18, 3) := by decide +kernel
theorem dX11_note_21 : decode cX11_note 21 = .ok (.iload_n 3, 1) := by decide +kernel
theorem dX11_note_22 : decode cX11_note 22 = .ok (.ifCond .lt 14, 3) := by decide +kernel
theorem dX11_note_25 : decode cX11_note 25 = .ok (.iload_n 3, 1) := by decide +kernel
theorem dX11_note_26 : decode cX11_note 26 = .ok (.sipush 1500, 3) := by decide +kernel
theorem dX11_note_29 : decode cX11_note 29 = .ok (.if_icmp .gt 7, 3) := by decide +kernel
theorem dX11_note_32 : decode cX11_note 32 = .ok (.iconst 1, 1) := by decide +kernel
theorem dX11_note_33 : decode cX11_note 33 = .ok (.goto 4, 3) := by decide +kernel
theorem dX11_note_36 : decode cX11_note 36 = .ok (.iconst 0, 1) := by decide +kernel
theorem dX11_note_37 : decode cX11_note 37 = .ok (.istore 4, 2) := by decide +kernel
theorem dX11_note_39 : decode cX11_note 39 = .ok (.iload 4, 2) := by decide +kernel
theorem dX11_note_41 : decode cX11_note 41 = .ok (.ifCond .eq 16, 3) := by decide +kernel
theorem dX11_note_44 : decode cX11_note 44 = .ok (.aload_n 0, 1) := by decide +kernel
theorem dX11_note_45 : decode cX11_note 45 = .ok (.getfield 44, 3) := by decide +kernel
theorem dX11_note_48 : decode cX11_note 48 = .ok (.iload_n 1, 1) := by decide +kernel
theorem dX11_note_49 : decode cX11_note 49 = .ok (.iload_n 2, 1) := by decide +kernel
theorem dX11_note_50 : decode cX11_note 50 = .ok (.iload_n 3, 1) := by decide +kernel
theorem dX11_note_51 : decode cX11_note 51 = .ok (.invokevirtual 333, 3) := by decide +kernel
theorem dX11_note_54 : decode cX11_note 54 = .ok (.ifCond .ne 18, 3) := by decide +kernel
theorem dX11_note_57 : decode cX11_note 57 = .ok (.aload_n 0, 1) := by decide +kernel
theorem dX11_note_58 : decode cX11_note 58 = .ok (.getfield 44, 3) := by decide +kernel
theorem dX11_note_61 : decode cX11_note 61 = .ok (.getfield 89, 3) := by decide +kernel
theorem dX11_note_64 : decode cX11_note 64 = .ok (.iconst 2, 1) := by decide +kernel
theorem dX11_note_65 : decode cX11_note 65 = .ok (.dup2, 1) := by decide +kernel
theorem dX11_note_66 : decode cX11_note 66 = .ok (.iaload, 1) := by decide +kernel
theorem dX11_note_67 : decode cX11_note 67 = .ok (.iconst 1, 1) := by decide +kernel
theorem dX11_note_68 : decode cX11_note 68 = .ok (.iadd, 1) := by decide +kernel
theorem dX11_note_69 : decode cX11_note 69 = .ok (.iastore, 1) := by decide +kernel
theorem dX11_note_70 : decode cX11_note 70 = .ok (.iconst (-1), 1) := by decide +kernel
theorem dX11_note_71 : decode cX11_note 71 = .ok (.ireturn, 1) := by decide +kernel
theorem dX11_note_72 : decode cX11_note 72 = .ok (.aload_n 0, 1) := by decide +kernel
theorem dX11_note_73 : decode cX11_note 73 = .ok (.getfield 44, 3) := by decide +kernel
theorem dX11_note_76 : decode cX11_note 76 = .ok (.getfield 148, 3) := by decide +kernel
theorem dX11_note_79 : decode cX11_note 79 = .ok (.ireturn, 1) := by decide +kernel
theorem dX11_fits_0 : decode cX11_fits 0 = .ok (.aload_n 0, 1) := by decide +kernel
theorem dX11_fits_1 : decode cX11_fits 1 = .ok (.iload_n 1, 1) := by decide +kernel
theorem dX11_fits_2 : decode cX11_fits 2 = .ok (.invokevirtual 156, 3) := by decide +kernel
theorem dX11_fits_5 : decode cX11_fits 5 = .ok (.iload_n 2, 1) := by decide +kernel
theorem dX11_fits_6 : decode cX11_fits 6 = .ok (.iconst 1, 1) := by decide +kernel
theorem dX11_fits_7 : decode cX11_fits 7 = .ok (.invokestatic 264, 3) := by decide +kernel
theorem dX11_fits_10 : decode cX11_fits 10 = .ok (.aload_n 0, 1) := by decide +kernel
theorem dX11_fits_11 : decode cX11_fits 11 = .ok (.getfield 67, 3) := by decide +kernel
theorem dX11_fits_14 : decode cX11_fits 14 = .ok (.aload_n 0, 1) := by decide +kernel
theorem dX11_fits_15 : decode cX11_fits 15 = .ok (.getfield 44, 3) := by decide +kernel
theorem dX11_fits_18 : decode cX11_fits 18 = .ok (.iload_n 1, 1) := by decide +kernel
theorem dX11_fits_19 : decode cX11_fits 19 = .ok (.iconst 0, 1) := by decide +kernel
theorem dX11_fits_20 : decode cX11_fits 20 = .ok (.invokevirtual 337, 3) := by decide +kernel
theorem dX11_fits_23 : decode cX11_fits 23 = .ok (.iload_n 2, 1) := by decide +kernel
theorem dX11_fits_24 : decode cX11_fits 24 = .ok (.ifCond .ne 13, 3) := by decide +kernel
theorem dX11_fits_27 : decode cX11_fits 27 = .ok (.aload_n 0, 1) := by decide +kernel
theorem dX11_fits_28 : decode cX11_fits 28 = .ok (.getfield 67, 3) := by decide +kernel
theorem dX11_fits_31 : decode cX11_fits 31 = .ok (.getfield 341, 3) := by decide +kernel
theorem dX11_fits_34 : decode cX11_fits 34 = .ok (.goto 10, 3) := by decide +kernel
theorem dX11_fits_37 : decode cX11_fits 37 = .ok (.aload_n 0, 1) := by decide +kernel
theorem dX11_fits_38 : decode cX11_fits 38 = .ok (.getfield 67, 3) := by decide +kernel
theorem dX11_fits_41 : decode cX11_fits 41 = .ok (.getfield 344, 3) := by decide +kernel
theorem dX11_fits_44 : decode cX11_fits 44 = .ok (.ireturn, 1) := by decide +kernel
theorem dX11_look_0 : decode cX11_look 0 = .ok (.aload_n 0, 1) := by decide +kernel
theorem dX11_look_1 : decode cX11_look 1 = .ok (.iload_n 1, 1) := by decide +kernel
theorem dX11_look_2 : decode cX11_look 2 = .ok (.invokevirtual 156, 3) := by decide +kernel
theorem dX11_look_5 : decode cX11_look 5 = .ok (.iload_n 2, 1) := by decide +kernel
theorem dX11_look_6 : decode cX11_look 6 = .ok (.iconst 1, 1) := by decide +kernel
theorem dX11_look_7 : decode cX11_look 7 = .ok (.invokestatic 264, 3) := by decide +kernel
theorem dX11_look_10 : decode cX11_look 10 = .ok (.aload_n 0, 1) := by decide +kernel
theorem dX11_look_11 : decode cX11_look 11 = .ok (.getfield 67, 3) := by decide +kernel
theorem dX11_look_14 : decode cX11_look 14 = .ok (.aload_n 0, 1) := by decide +kernel
theorem dX11_look_15 : decode cX11_look 15 = .ok (.getfield 44, 3) := by decide +kernel
theorem dX11_look_18 : decode cX11_look 18 = .ok (.iload_n 1, 1) := by decide +kernel
theorem dX11_look_19 : decode cX11_look 19 = .ok (.bipush 20, 2) := by decide +kernel
theorem dX11_look_21 : decode cX11_look 21 = .ok (.invokevirtual 337, 3) := by decide +kernel
theorem dX11_look_24 : decode cX11_look 24 = .ok (.aload_n 0, 1) := by decide +kernel
theorem dX11_look_25 : decode cX11_look 25 = .ok (.getfield 67, 3) := by decide +kernel
theorem dX11_look_28 : decode cX11_look 28 = .ok (.invokevirtual 347, 3) := by decide +kernel
theorem dX11_look_31 : decode cX11_look 31 = .ok (.iload_n 2, 1) := by decide +kernel
theorem dX11_look_32 : decode cX11_look 32 = .ok (.ifCond .ne 13, 3) := by decide +kernel
theorem dX11_look_35 : decode cX11_look 35 = .ok (.aload_n 0, 1) := by decide +kernel
theorem dX11_look_36 : decode cX11_look 36 = .ok (.getfield 67, 3) := by decide +kernel
theorem dX11_look_39 : decode cX11_look 39 = .ok (.getfield 350, 3) := by decide +kernel
theorem dX11_look_42 : decode cX11_look 42 = .ok (.goto 10, 3) := by decide +kernel
theorem dX11_look_45 : decode cX11_look 45 = .ok (.aload_n 0, 1) := by decide +kernel
theorem dX11_look_46 : decode cX11_look 46 = .ok (.getfield 67, 3) := by decide +kernel
theorem dX11_look_49 : decode cX11_look 49 = .ok (.getfield 353, 3) := by decide +kernel
theorem dX11_look_52 : decode cX11_look 52 = .ok (.ireturn, 1) := by decide +kernel
theorem dX11_forget_0 : decode cX11_forget 0 = .ok (.aload_n 0, 1) := by decide +kernel
theorem dX11_forget_1 : decode cX11_forget 1 = .ok (.getfield 44, 3) := by decide +kernel
theorem dX11_forget_4 : decode cX11_forget 4 = .ok (.iconst 0, 1) := by decide +kernel
theorem dX11_forget_5 : decode cX11_forget 5 = .ok (.putfield 148, 3) := by decide +kernel
theorem dX11_forget_8 : decode cX11_forget 8 = .ok (.return_, 1) := by decide +kernel
theorem dX11_years_0 : decode cX11_years 0 = .ok (.iload_n 3, 1) := by decide +kernel
theorem dX11_years_1 : decode cX11_years 1 = .ok (.iconst 2, 1) := by decide +kernel
theorem dX11_years_2 : decode cX11_years 2 = .ok (.invokestatic 264, 3) := by decide +kernel
theorem dX11_years_5 : decode cX11_years 5 = .ok (.iload_n 2, 1) := by decide +kernel
