theorem dX12_count_205 : decode cX12_count 205 = .ok (.invokevirtual 245, 3) := by decide +kernel
theorem dX12_count_208 : decode cX12_count 208 = .ok (.ireturn, 1) := by decide +kernel
theorem dX12_onSet_0 : decode cX12_onSet 0 = .ok (.iconst 0, 1) := by decide +kernel
theorem dX12_onSet_1 : decode cX12_onSet 1 = .ok (.istore_n 1, 1) := by decide +kernel
theorem dX12_onSet_2 : decode cX12_onSet 2 = .ok (.iconst 0, 1) := by decide +kernel
theorem dX12_onSet_3 : decode cX12_onSet 3 = .ok (.istore_n 2, 1) := by decide +kernel
theorem dX12_onSet_4 : decode cX12_onSet 4 = .ok (.iload_n 2, 1) := by decide +kernel
theorem dX12_onSet_5 : decode cX12_onSet 5 = .ok (.aload_n 0, 1) := by decide +kernel
theorem dX12_onSet_6 : decode cX12_onSet 6 = .ok (.invokevirtual 312, 3) := by decide +kernel
theorem dX12_onSet_9 : decode cX12_onSet 9 = .ok (.if_icmp .ge 23, 3) := by decide +kernel
theorem dX12_onSet_12 : decode cX12_onSet 12 = .ok (.iload_n 1, 1) := by decide +kernel
theorem dX12_onSet_13 : decode cX12_onSet 13 = .ok (.aload_n 0, 1) := by decide +kernel
theorem dX12_onSet_14 : decode cX12_onSet 14 = .ok (.getfield 58, 3) := by decide +kernel
theorem dX12_onSet_17 : decode cX12_onSet 17 = .ok (.bipush 50, 2) := by decide +kernel
theorem dX12_onSet_19 : decode cX12_onSet 19 = .ok (.iload_n 2, 1) := by decide +kernel
theorem dX12_onSet_20 : decode cX12_onSet 20 = .ok (.iadd, 1) := by decide +kernel
theorem dX12_onSet_21 : decode cX12_onSet 21 = .ok (.iaload, 1) := by decide +kernel
theorem dX12_onSet_22 : decode cX12_onSet 22 = .ok (.iload_n 2, 1) := by decide +kernel
theorem dX12_onSet_23 : decode cX12_onSet 23 = .ok (.ishl, 1) := by decide +kernel
theorem dX12_onSet_24 : decode cX12_onSet 24 = .ok (.ior, 1) := by decide +kernel
theorem dX12_onSet_25 : decode cX12_onSet 25 = .ok (.istore_n 1, 1) := by decide +kernel
theorem dX12_onSet_26 : decode cX12_onSet 26 = .ok (.iinc 2 1, 3) := by decide +kernel
theorem dX12_onSet_29 : decode cX12_onSet 29 = .ok (.goto (-25), 3) := by decide +kernel
theorem dX12_onSet_32 : decode cX12_onSet 32 = .ok (.iload_n 1, 1) := by decide +kernel
theorem dX12_onSet_33 : decode cX12_onSet 33 = .ok (.ireturn, 1) := by decide +kernel
theorem dX12_isZone_0 : decode cX12_isZone 0 = .ok (.iload_n 1, 1) := by decide +kernel
theorem dX12_isZone_1 : decode cX12_isZone 1 = .ok (.iconst 0, 1) := by decide +kernel
theorem dX12_isZone_2 : decode cX12_isZone 2 = .ok (.aload_n 0, 1) := by decide +kernel
theorem dX12_isZone_3 : decode cX12_isZone 3 = .ok (.invokevirtual 266, 3) := by decide +kernel
theorem dX12_isZone_6 : decode cX12_isZone 6 = .ok (.iconst 1, 1) := by decide +kernel
theorem dX12_isZone_7 : decode cX12_isZone 7 = .ok (.isub, 1) := by decide +kernel
theorem dX12_isZone_8 : decode cX12_isZone 8 = .ok (.invokestatic 378, 3) := by decide +kernel
theorem dX12_isZone_11 : decode cX12_isZone 11 = .ok (.ireturn, 1) := by decide +kernel
theorem dX12_isTrip_0 : decode cX12_isTrip 0 = .ok (.iload_n 1, 1) := by decide +kernel
theorem dX12_isTrip_1 : decode cX12_isTrip 1 = .ok (.iconst 0, 1) := by decide +kernel
theorem dX12_isTrip_2 : decode cX12_isTrip 2 = .ok (.aload_n 0, 1) := by decide +kernel
theorem dX12_isTrip_3 : decode cX12_isTrip 3 = .ok (.invokevirtual 312, 3) := by decide +kernel
theorem dX12_isTrip_6 : decode cX12_isTrip 6 = .ok (.iconst 1, 1) := by decide +kernel
theorem dX12_isTrip_7 : decode cX12_isTrip 7 = .ok (.isub, 1) := by decide +kernel
theorem dX12_isTrip_8 : decode cX12_isTrip 8 = .ok (.invokestatic 378, 3) := by decide +kernel
theorem dX12_isTrip_11 : decode cX12_isTrip 11 = .ok (.ireturn, 1) := by decide +kernel
theorem dX12_isDevice_0 : decode cX12_isDevice 0 = .ok (.iload_n 1, 1) := by decide +kernel
theorem dX12_isDevice_1 : decode cX12_isDevice 1 = .ok (.iconst 0, 1) := by decide +kernel
theorem dX12_isDevice_2 : decode cX12_isDevice 2 = .ok (.aload_n 0, 1) := by decide +kernel
theorem dX12_isDevice_3 : decode cX12_isDevice 3 = .ok (.invokevirtual 263, 3) := by decide +kernel
theorem dX12_isDevice_6 : decode cX12_isDevice 6 = .ok (.iconst 1, 1) := by decide +kernel
theorem dX12_isDevice_7 : decode cX12_isDevice 7 = .ok (.isub, 1) := by decide +kernel
theorem dX12_isDevice_8 : decode cX12_isDevice 8 = .ok (.invokestatic 378, 3) := by decide +kernel
theorem dX12_isDevice_11 : decode cX12_isDevice 11 = .ok (.ireturn, 1) := by decide +kernel
theorem dX12_margin_0 : decode cX12_margin 0 = .ok (.iconst (-1), 1) := by decide +kernel
theorem dX12_margin_1 : decode cX12_margin 1 = .ok (.istore_n 2, 1) := by decide +kernel
theorem dX12_margin_2 : decode cX12_margin 2 = .ok (.iconst 0, 1) := by decide +kernel
theorem dX12_margin_3 : decode cX12_margin 3 = .ok (.istore_n 3, 1) := by decide +kernel
theorem dX12_margin_4 : decode cX12_margin 4 = .ok (.iload_n 3, 1) := by decide +kernel
theorem dX12_margin_5 : decode cX12_margin 5 = .ok (.aload_n 0, 1) := by decide +kernel
theorem dX12_margin_6 : decode cX12_margin 6 = .ok (.invokevirtual 312, 3) := by decide +kernel
theorem dX12_margin_9 : decode cX12_margin 9 = .ok (.if_icmp .ge 72, 3) := by decide +kernel
theorem dX12_margin_12 : decode cX12_margin 12 = .ok (.aload_n 0, 1) := by decide +kernel
theorem dX12_margin_13 : decode cX12_margin 13 = .ok (.iload_n 3, 1) := by decide +kernel
theorem dX12_margin_14 : decode cX12_margin 14 = .ok (.invokevirtual 287, 3) := by decide +kernel
theorem dX12_margin_17 : decode cX12_margin 17 = .ok (.iload_n 1, 1) := by decide +kernel
theorem dX12_margin_18 : decode cX12_margin 18 = .ok (.if_icmp .ne 57, 3) := by decide +kernel
theorem dX12_margin_21 : decode cX12_margin 21 = .ok (.aload_n 0, 1) := by decide +kernel
theorem dX12_margin_22 : decode cX12_margin 22 = .ok (.getfield 58, 3) := by decide +kernel
theorem dX12_margin_25 : decode cX12_margin 25 = .ok (.bipush 50, 2) := by decide +kernel
theorem dX12_margin_27 : decode cX12_margin 27 = .ok (.iload_n 3, 1) := by decide +kernel
theorem dX12_margin_28 : decode cX12_margin 28 = .ok (.iadd, 1) := by decide +kernel
theorem dX12_margin_29 : decode cX12_margin 29 = .ok (.iaload, 1) := by decide +kernel
theorem dX12_margin_30 : decode cX12_margin 30 = .ok (.iconst 1, 1) := by decide +kernel
theorem dX12_margin_31 : decode cX12_margin 31 = .ok (.if_icmp .ne 6, 3) := by decide +kernel
theorem dX12_margin_34 : decode cX12_margin 34 = .ok (.goto 41, 3) := by decide +kernel
theorem dX12_margin_37 : decode cX12_margin 37 = .ok (.aload_n 0, 1) := by decide +kernel
theorem dX12_margin_38 : decode cX12_margin 38 = .ok (.getfield 62, 3) := by decide +kernel
theorem dX12_margin_41 : decode cX12_margin 41 = .ok (.bipush 35, 2) := by decide +kernel
theorem dX12_margin_43 : decode cX12_margin 43 = .ok (.iload_n 3, 1) := by decide +kernel
theorem dX12_margin_44 : decode cX12_margin 44 = .ok (.iadd, 1) := by decide +kernel
theorem dX12_margin_45 : decode cX12_margin 45 = .ok (.iaload, 1) := by decide +kernel
theorem dX12_margin_46 : decode cX12_margin 46 = .ok (.aload_n 0, 1) := by decide +kernel
theorem dX12_margin_47 : decode cX12_margin 47 = .ok (.getfield 58, 3) := by decide +kernel
theorem dX12_margin_50 : decode cX12_margin 50 = .ok (.bipush 20, 2) := by decide +kernel
theorem dX12_margin_52 : decode cX12_margin 52 = .ok (.iload_n 1, 1) := by decide +kernel
theorem dX12_margin_53 : decode cX12_margin 53 = .ok (.iadd, 1) := by decide +kernel
theorem dX12_margin_54 : decode cX12_margin 54 = .ok (.iaload, 1) := by decide +kernel
theorem dX12_margin_55 : decode cX12_margin 55 = .ok (.isub, 1) := by decide +kernel
theorem dX12_margin_56 : decode cX12_margin 56 = .ok (.istore 4, 2) := by decide +kernel
theorem dX12_margin_58 : decode cX12_margin 58 = .ok (.iload_n 2, 1) := by decide +kernel
theorem dX12_margin_59 : decode cX12_margin 59 = .ok (.iconst (-1), 1) := by decide +kernel
theorem dX12_margin_60 : decode cX12_margin 60 = .ok (.if_icmp .ne 8, 3) := by decide +kernel
theorem dX12_margin_63 : decode cX12_margin 63 = .ok (.iload 4, 2) := by decide +kernel
theorem dX12_margin_65 : decode cX12_margin 65 = .ok (.goto 9, 3) := by decide +kernel
theorem dX12_margin_68 : decode cX12_margin 68 = .ok (.iload_n 2, 1) := by decide +kernel
theorem dX12_margin_69 : decode cX12_margin 69 = .ok (.iload 4, 2) := by decide +kernel
theorem dX12_margin_71 : decode cX12_margin 71 = .ok (.invokestatic 164, 3) := by decide +kernel
theorem dX12_margin_74 : decode cX12_margin 74 = .ok (.istore_n 2, 1) := by decide +kernel
theorem dX12_margin_75 : decode cX12_margin 75 = .ok (.iinc 3 1, 3) := by decide +kernel
theorem dX12_margin_78 : decode cX12_margin 78 = .ok (.goto (-74), 3) := by decide +kernel
theorem dX12_margin_81 : decode cX12_margin 81 = .ok (.iload_n 2, 1) := by decide +kernel
theorem dX12_margin_82 : decode cX12_margin 82 = .ok (.ireturn, 1) := by decide +kernel
theorem dX12_zone_0 : decode cX12_zone 0 = .ok (.aload_n 0, 1) := by decide +kernel
theorem dX12_zone_1 : decode cX12_zone 1 = .ok (.iconst 0, 1) := by decide +kernel
theorem dX12_zone_2 : decode cX12_zone 2 = .ok (.putfield 131, 3) := by decide +kernel
theorem dX12_zone_5 : decode cX12_zone 5 = .ok (.aload_n 0, 1) := by decide +kernel
theorem dX12_zone_6 : decode cX12_zone 6 = .ok (.iload_n 1, 1) := by decide +kernel
theorem dX12_zone_7 : decode cX12_zone 7 = .ok (.invokevirtual 382, 3) := by decide +kernel
theorem dX12_zone_10 : decode cX12_zone 10 = .ok (.ifCond .ne 9, 3) := by decide +kernel
theorem dX12_zone_13 : decode cX12_zone 13 = .ok (.aload_n 0, 1) := by decide +kernel
theorem dX12_zone_14 : decode cX12_zone 14 = .ok (.iconst 1, 1) := by decide +kernel
theorem dX12_zone_15 : decode cX12_zone 15 = .ok (.invokevirtual 245, 3) := by decide +kernel
theorem dX12_zone_18 : decode cX12_zone 18 = .ok (.ireturn, 1) := by decide +kernel
theorem dX12_zone_19 : decode cX12_zone 19 = .ok (.iload_n 2, 1) := by decide +kernel
theorem dX12_zone_20 : decode cX12_zone 20 = .ok (.tableswitch 158 0 10 #[60, 69, 79, 89, 98, 107, 116, 126, 136, 146, 152], 60) := by decide +kernel
theorem dX12_zone_80 : decode cX12_zone 80 = .ok (.aload_n 0, 1) := by decide +kernel
theorem dX12_zone_81 : decode cX12_zone 81 = .ok (.getfield 58, 3) := by decide +kernel
theorem dX12_zone_84 : decode cX12_zone 84 = .ok (.iconst 0, 1) := by decide +kernel
theorem dX12_zone_85 : decode cX12_zone 85 = .ok (.iload_n 1, 1) := by decide +kernel
theorem dX12_zone_86 : decode cX12_zone 86 = .ok (.iadd, 1) := by decide +kernel
theorem dX12_zone_87 : decode cX12_zone 87 = .ok (.iaload, 1) := by decide +kernel
theorem dX12_zone_88 : decode cX12_zone 88 = .ok (.ireturn, 1) := by decide +kernel
theorem dX12_zone_89 : decode cX12_zone 89 = .ok (.aload_n 0, 1) := by decide +kernel
theorem dX12_zone_90 : decode cX12_zone 90 = .ok (.getfield 58, 3) := by decide +kernel
theorem dX12_zone_93 : decode cX12_zone 93 = .ok (.bipush 20, 2) := by decide +kernel
theorem dX12_zone_95 : decode cX12_zone 95 = .ok (.iload_n 1, 1) := by decide +kernel
theorem dX12_zone_96 : decode cX12_zone 96 = .ok (.iadd, 1) := by decide +kernel
theorem dX12_zone_97 : decode cX12_zone 97 = .ok (.iaload, 1) := by decide +kernel
theorem dX12_zone_98 : decode cX12_zone 98 = .ok (.ireturn, 1) := by decide +kernel
theorem dX12_zone_99 : decode cX12_zone 99 = .ok (.aload_n 0, 1) := by decide +kernel
theorem dX12_zone_100 : decode cX12_zone 100 = .ok (.getfield 58, 3) := by decide +kernel
theorem dX12_zone_103 : decode cX12_zone 103 = .ok (.bipush 25, 2) := by decide +kernel
theorem dX12_zone_105 : decode cX12_zone 105 = .ok (.iload_n 1, 1) := by decide +kernel
theorem dX12_zone_106 : decode cX12_zone 106 = .ok (.iadd, 1) := by decide +kernel
theorem dX12_zone_107 : decode cX12_zone 107 = .ok (.iaload, 1) := by decide +kernel
theorem dX12_zone_108 : decode cX12_zone 108 = .ok (.ireturn, 1) := by decide +kernel
theorem dX12_zone_109 : decode cX12_zone 109 = .ok (.aload_n 0, 1) := by decide +kernel
theorem dX12_zone_110 : decode cX12_zone 110 = .ok (.getfield 58, 3) := by decide +kernel
theorem dX12_zone_113 : decode cX12_zone 113 = .ok (.iconst 5, 1) := by decide +kernel
theorem dX12_zone_114 : decode cX12_zone 114 = .ok (.iload_n 1, 1) := by decide +kernel
theorem dX12_zone_115 : decode cX12_zone 115 = .ok (.iadd, 1) := by decide +kernel
theorem dX12_zone_116 : decode cX12_zone 116 = .ok (.iaload, 1) := by decide +kernel
theorem dX12_zone_117 : decode cX12_zone 117 = .ok (.ireturn, 1) := by decide +kernel
theorem dX12_zone_118 : decode cX12_zone 118 = .ok (.aload_n 0, 1) := by decide +kernel
theorem dX12_zone_119 : decode cX12_zone 119 = .ok (.getfield 62, 3) := by decide +kernel
theorem dX12_zone_122 : decode cX12_zone 122 = .ok (.iconst 0, 1) := by decide +kernel
theorem dX12_zone_123 : decode cX12_zone 123 = .ok (.iload_n 1, 1) := by decide +kernel
theorem dX12_zone_124 : decode cX12_zone 124 = .ok (.iadd, 1) := by decide +kernel
theorem dX12_zone_125 : decode cX12_zone 125 = .ok (.iaload, 1) := by decide +kernel
theorem dX12_zone_126 : decode cX12_zone 126 = .ok (.ireturn, 1) := by decide +kernel
theorem dX12_zone_127 : decode cX12_zone 127 = .ok (.aload_n 0, 1) := by decide +kernel
theorem dX12_zone_128 : decode cX12_zone 128 = .ok (.getfield 62, 3) := by decide +kernel
theorem dX12_zone_131 : decode cX12_zone 131 = .ok (.iconst 5, 1) := by decide +kernel
theorem dX12_zone_132 : decode cX12_zone 132 = .ok (.iload_n 1, 1) := by decide +kernel
theorem dX12_zone_133 : decode cX12_zone 133 = .ok (.iadd, 1) := by decide +kernel
theorem dX12_zone_134 : decode cX12_zone 134 = .ok (.iaload, 1) := by decide +kernel
theorem dX12_zone_135 : decode cX12_zone 135 = .ok (.ireturn, 1) := by decide +kernel
theorem dX12_zone_136 : decode cX12_zone 136 = .ok (.aload_n 0, 1) := by decide +kernel
theorem dX12_zone_137 : decode cX12_zone 137 = .ok (.getfield 62, 3) := by decide +kernel
theorem dX12_zone_140 : decode cX12_zone 140 = .ok (.bipush 10, 2) := by decide +kernel
theorem dX12_zone_142 : decode cX12_zone 142 = .ok (.iload_n 1, 1) := by decide +kernel
theorem dX12_zone_143 : decode cX12_zone 143 = .ok (.iadd, 1) := by decide +kernel
theorem dX12_zone_144 : decode cX12_zone 144 = .ok (.iaload, 1) := by decide +kernel
theorem dX12_zone_145 : decode cX12_zone 145 = .ok (.ireturn, 1) := by decide +kernel
theorem dX12_zone_146 : decode cX12_zone 146 = .ok (.aload_n 0, 1) := by decide +kernel
theorem dX12_zone_147 : decode cX12_zone 147 = .ok (.getfield 58, 3) := by decide +kernel
theorem dX12_zone_150 : decode cX12_zone 150 = .ok (.bipush 10, 2) := by decide +kernel
theorem dX12_zone_152 : decode cX12_zone 152 = .ok (.iload_n 1, 1) := by decide +kernel
theorem dX12_zone_153 : decode cX12_zone 153 = .ok (.iadd, 1) := by decide +kernel
theorem dX12_zone_154 : decode cX12_zone 154 = .ok (.iaload, 1) := by decide +kernel
theorem dX12_zone_155 : decode cX12_zone 155 = .ok (.ireturn, 1) := by decide +kernel
theorem dX12_zone_156 : decode cX12_zone 156 = .ok (.aload_n 0, 1) := by decide +kernel
theorem dX12_zone_157 : decode cX12_zone 157 = .ok (.getfield 58, 3) := by decide +kernel
theorem dX12_zone_160 : decode cX12_zone 160 = .ok (.bipush 15, 2) := by decide +kernel
theorem dX12_zone_162 : decode cX12_zone 162 = .ok (.iload_n 1, 1) := by decide +kernel
theorem dX12_zone_163 : decode cX12_zone 163 = .ok (.iadd, 1) := by decide +kernel
theorem dX12_zone_164 : decode cX12_zone 164 = .ok (.iaload, 1) := by decide +kernel
theorem dX12_zone_165 : decode cX12_zone 165 = .ok (.ireturn, 1) := by decide +kernel
theorem dX12_zone_166 : decode cX12_zone 166 = .ok (.aload_n 0, 1) := by decide +kernel
theorem dX12_zone_167 : decode cX12_zone 167 = .ok (.iload_n 1, 1) := by decide +kernel
theorem dX12_zone_168 : decode cX12_zone 168 = .ok (.invokevirtual 385, 3) := by decide +kernel
theorem dX12_zone_171 : decode cX12_zone 171 = .ok (.ireturn, 1) := by decide +kernel
theorem dX12_zone_172 : decode cX12_zone 172 = .ok (.aload_n 0, 1) := by decide +kernel
theorem dX12_zone_173 : decode cX12_zone 173 = .ok (.iload_n 1, 1) := by decide +kernel
theorem dX12_zone_174 : decode cX12_zone 174 = .ok (.invokevirtual 272, 3) := by decide +kernel
theorem dX12_zone_177 : decode cX12_zone 177 = .ok (.ireturn, 1) := by decide +kernel
theorem dX12_zone_178 : decode cX12_zone 178 = .ok (.aload_n 0, 1) := by decide +kernel
theorem dX12_zone_179 : decode cX12_zone 179 = .ok (.iconst 1, 1) := by decide +kernel
theorem dX12_zone_180 : decode cX12_zone 180 = .ok (.invokevirtual 245, 3) := by decide +kernel
theorem dX12_zone_183 : decode cX12_zone 183 = .ok (.ireturn, 1) := by decide +kernel
theorem dX12_bound_0 : decode cX12_bound 0 = .ok (.iconst 0, 1) := by decide +kernel
theorem dX12_bound_1 : decode cX12_bound 1 = .ok (.istore_n 2, 1) := by decide +kernel
theorem dX12_bound_2 : decode cX12_bound 2 = .ok (.iconst 0, 1) := by decide +kernel
theorem dX12_bound_3 : decode cX12_bound 3 = .ok (.istore_n 3, 1) := by decide +kernel
theorem dX12_bound_4 : decode cX12_bound 4 = .ok (.iload_n 3, 1) := by decide +kernel
theorem dX12_bound_5 : decode cX12_bound 5 = .ok (.aload_n 0, 1) := by decide +kernel
theorem dX12_bound_6 : decode cX12_bound 6 = .ok (.invokevirtual 263, 3) := by decide +kernel
theorem dX12_bound_9 : decode cX12_bound 9 = .ok (.if_icmp .ge 26, 3) := by decide +kernel
theorem dX12_bound_12 : decode cX12_bound 12 = .ok (.iload_n 2, 1) := by decide +kernel
theorem dX12_bound_13 : decode cX12_bound 13 = .ok (.aload_n 0, 1) := by decide +kernel
theorem dX12_bound_14 : decode cX12_bound 14 = .ok (.iload_n 1, 1) := by decide +kernel
theorem dX12_bound_15 : decode cX12_bound 15 = .ok (.iload_n 3, 1) := by decide +kernel
theorem dX12_bound_16 : decode cX12_bound 16 = .ok (.invokevirtual 294, 3) := by decide +kernel
theorem dX12_bound_19 : decode cX12_bound 19 = .ok (.ifCond .le 7, 3) := by decide +kernel
theorem dX12_bound_22 : decode cX12_bound 22 = .ok (.iconst 1, 1) := by decide +kernel
theorem dX12_bound_23 : decode cX12_bound 23 = .ok (.goto 4, 3) := by decide +kernel
theorem dX12_bound_26 : decode cX12_bound 26 = .ok (.iconst 0, 1) := by decide +kernel
theorem dX12_bound_27 : decode cX12_bound 27 = .ok (.iadd, 1) := by decide +kernel
theorem dX12_bound_28 : decode cX12_bound 28 = .ok (.istore_n 2, 1) := by decide +kernel
theorem dX12_bound_29 : decode cX12_bound 29 = .ok (.iinc 3 1, 3) := by decide +kernel
theorem dX12_bound_32 : decode cX12_bound 32 = .ok (.goto (-28), 3) := by decide +kernel
theorem dX12_bound_35 : decode cX12_bound 35 = .ok (.iload_n 2, 1) := by decide +kernel
theorem dX12_bound_36 : decode cX12_bound 36 = .ok (.ireturn, 1) := by decide +kernel
theorem dX12_trip_0 : decode cX12_trip 0 = .ok (.aload_n 0, 1) := by decide +kernel
theorem dX12_trip_1 : decode cX12_trip 1 = .ok (.iconst 0, 1) := by decide +kernel
theorem dX12_trip_2 : decode cX12_trip 2 = .ok (.putfield 131, 3) := by decide +kernel
theorem dX12_trip_5 : decode cX12_trip 5 = .ok (.aload_n 0, 1) := by decide +kernel
theorem dX12_trip_6 : decode cX12_trip 6 = .ok (.iload_n 1, 1) := by decide +kernel
theorem dX12_trip_7 : decode cX12_trip 7 = .ok (.invokevirtual 388, 3) := by decide +kernel
theorem dX12_trip_10 : decode cX12_trip 10 = .ok (.ifCond .ne 9, 3) := by decide +kernel
theorem dX12_trip_13 : decode cX12_trip 13 = .ok (.aload_n 0, 1) := by decide +kernel
theorem dX12_trip_14 : decode cX12_trip 14 = .ok (.iconst 1, 1) := by decide +kernel
theorem dX12_trip_15 : decode cX12_trip 15 = .ok (.invokevirtual 245, 3) := by decide +kernel
theorem dX12_trip_18 : decode cX12_trip 18 = .ok (.ireturn, 1) := by decide +kernel
theorem dX12_trip_19 : decode cX12_trip 19 = .ok (.iload_n 2, 1) := by decide +kernel
theorem dX12_trip_20 : decode cX12_trip 20 = .ok (.tableswitch 116 0 7 #[48, 54, 64, 74, 84, 94, 104, 110], 48) := by decide +kernel
theorem dX12_trip_68 : decode cX12_trip 68 = .ok (.aload_n 0, 1) := by decide +kernel
theorem dX12_trip_69 : decode cX12_trip 69 = .ok (.iload_n 1, 1) := by decide +kernel
theorem dX12_trip_70 : decode cX12_trip 70 = .ok (.invokevirtual 287, 3) := by decide +kernel
theorem dX12_trip_73 : decode cX12_trip 73 = .ok (.ireturn, 1) := by decide +kernel
theorem dX12_trip_74 : decode cX12_trip 74 = .ok (.aload_n 0, 1) := by decide +kernel
theorem dX12_trip_75 : decode cX12_trip 75 = .ok (.getfield 62, 3) := by decide +kernel
theorem dX12_trip_78 : decode cX12_trip 78 = .ok (.bipush 25, 2) := by decide +kernel
theorem dX12_trip_80 : decode cX12_trip 80 = .ok (.iload_n 1, 1) := by decide +kernel
theorem dX12_trip_81 : decode cX12_trip 81 = .ok (.iadd, 1) := by decide +kernel
theorem dX12_trip_82 : decode cX12_trip 82 = .ok (.iaload, 1) := by decide +kernel
theorem dX12_trip_83 : decode cX12_trip 83 = .ok (.ireturn, 1) := by decide +kernel
theorem dX12_trip_84 : decode cX12_trip 84 = .ok (.aload_n 0, 1) := by decide +kernel
theorem dX12_trip_85 : decode cX12_trip 85 = .ok (.getfield 62, 3) := by decide +kernel
theorem dX12_trip_88 : decode cX12_trip 88 = .ok (.bipush 35, 2) := by decide +kernel
theorem dX12_trip_90 : decode cX12_trip 90 = .ok (.iload_n 1, 1) := by decide +kernel
theorem dX12_trip_91 : decode cX12_trip 91 = .ok (.iadd, 1) := by decide +kernel
theorem dX12_trip_92 : decode cX12_trip 92 = .ok (.iaload, 1) := by decide +kernel
theorem dX12_trip_93 : decode cX12_trip 93 = .ok (.ireturn, 1) := by decide +kernel
theorem dX12_trip_94 : decode cX12_trip 94 = .ok (.aload_n 0, 1) := by decide +kernel
theorem dX12_trip_95 : decode cX12_trip 95 = .ok (.getfield 62, 3) := by decide +kernel
theorem dX12_trip_98 : decode cX12_trip 98 = .ok (.bipush 45, 2) := by decide +kernel
theorem dX12_trip_100 : decode cX12_trip 100 = .ok (.iload_n 1, 1) := by decide +kernel
theorem dX12_trip_101 : decode cX12_trip 101 = .ok (.iadd, 1) := by decide +kernel
theorem dX12_trip_102 : decode cX12_trip 102 = .ok (.iaload, 1) := by decide +kernel
theorem dX12_trip_103 : decode cX12_trip 103 = .ok (.ireturn, 1) := by decide +kernel
theorem dX12_trip_104 : decode cX12_trip 104 = .ok (.aload_n 0, 1) := by decide +kernel
theorem dX12_trip_105 : decode cX12_trip 105 = .ok (.getfield 58, 3) := by decide +kernel
theorem dX12_trip_108 : decode cX12_trip 108 = .ok (.bipush 50, 2) := by decide +kernel
theorem dX12_trip_110 : decode cX12_trip 110 = .ok (.iload_n 1, 1) := by decide +kernel
theorem dX12_trip_111 : decode cX12_trip 111 = .ok (.iadd, 1) := by decide +kernel
theorem dX12_trip_112 : decode cX12_trip 112 = .ok (.iaload, 1) := by decide +kernel
theorem dX12_trip_113 : decode cX12_trip 113 = .ok (.ireturn, 1) := by decide +kernel
theorem dX12_trip_114 : decode cX12_trip 114 = .ok (.aload_n 0, 1) := by decide +kernel
theorem dX12_trip_115 : decode cX12_trip 115 = .ok (.getfield 58, 3) := by decide +kernel
theorem dX12_trip_118 : decode cX12_trip 118 = .ok (.bipush 60, 2) := by decide +kernel
theorem dX12_trip_120 : decode cX12_trip 120 = .ok (.iload_n 1, 1) := by decide +kernel
theorem dX12_trip_121 : decode cX12_trip 121 = .ok (.iadd, 1) := by decide +kernel
theorem dX12_trip_122 : decode cX12_trip 122 = .ok (.iaload, 1) := by decide +kernel
theorem dX12_trip_123 : decode cX12_trip 123 = .ok (.ireturn, 1) := by decide +kernel
theorem dX12_trip_124 : decode cX12_trip 124 = .ok (.aload_n 0, 1) := by decide +kernel
theorem dX12_trip_125 : decode cX12_trip 125 = .ok (.iload_n 1, 1) := by decide +kernel
theorem dX12_trip_126 : decode cX12_trip 126 = .ok (.invokevirtual 306, 3) := by decide +kernel
theorem dX12_trip_129 : decode cX12_trip 129 = .ok (.ireturn, 1) := by decide +kernel
theorem dX12_trip_130 : decode cX12_trip 130 = .ok (.aload_n 0, 1) := by decide +kernel
theorem dX12_trip_131 : decode cX12_trip 131 = .ok (.iload_n 1, 1) := by decide +kernel
theorem dX12_trip_132 : decode cX12_trip 132 = .ok (.invokevirtual 391, 3) := by decide +kernel
theorem dX12_trip_135 : decode cX12_trip 135 = .ok (.ireturn, 1) := by decide +kernel
theorem dX12_trip_136 : decode cX12_trip 136 = .ok (.aload_n 0, 1) := by decide +kernel
theorem dX12_trip_137 : decode cX12_trip 137 = .ok (.iconst 1, 1) := by decide +kernel
theorem dX12_trip_138 : decode cX12_trip 138 = .ok (.invokevirtual 245, 3) := by decide +kernel
theorem dX12_trip_141 : decode cX12_trip 141 = .ok (.ireturn, 1) := by decide +kernel
theorem dX12_device_0 : decode cX12_device 0 = .ok (.aload_n 0, 1) := by decide +kernel
theorem dX12_device_1 : decode cX12_device 1 = .ok (.iconst 0, 1) := by decide +kernel
theorem dX12_device_2 : decode cX12_device 2 = .ok (.putfield 131, 3) := by decide +kernel
theorem dX12_device_5 : decode cX12_device 5 = .ok (.aload_n 0, 1) := by decide +kernel
theorem dX12_device_6 : decode cX12_device 6 = .ok (.iload_n 1, 1) := by decide +kernel
theorem dX12_device_7 : decode cX12_device 7 = .ok (.invokevirtual 394, 3) := by decide +kernel
theorem dX12_device_10 : decode cX12_device 10 = .ok (.ifCond .ne 9, 3) := by decide +kernel
theorem dX12_device_13 : decode cX12_device 13 = .ok (.aload_n 0, 1) := by decide +kernel
theorem dX12_device_14 : decode cX12_device 14 = .ok (.iconst 1, 1) := by decide +kernel
theorem dX12_device_15 : decode cX12_device 15 = .ok (.invokevirtual 245, 3) := by decide +kernel
theorem dX12_device_18 : decode cX12_device 18 = .ok (.ireturn, 1) := by decide +kernel
theorem dX12_device_19 : decode cX12_device 19 = .ok (.iload_n 2, 1) := by decide +kernel
theorem dX12_device_20 : decode cX12_device 20 = .ok (.tableswitch 110 0 6 #[44, 54, 64, 74, 84, 94, 104], 44) := by decide +kernel
theorem dX12_device_64 : decode cX12_device 64 = .ok (.aload_n 0, 1) := by decide +kernel
theorem dX12_device_65 : decode cX12_device 65 = .ok (.getfield 62, 3) := by decide +kernel
theorem dX12_device_68 : decode cX12_device 68 = .ok (.bipush 55, 2) := by decide +kernel
theorem dX12_device_70 : decode cX12_device 70 = .ok (.iload_n 1, 1) := by decide +kernel
theorem dX12_device_71 : decode cX12_device 71 = .ok (.iadd, 1) := by decide +kernel
theorem dX12_device_72 : decode cX12_device 72 = .ok (.iaload, 1) := by decide +kernel
theorem dX12_device_73 : decode cX12_device 73 = .ok (.ireturn, 1) := by decide +kernel
theorem dX12_device_74 : decode cX12_device 74 = .ok (.aload_n 0, 1) := by decide +kernel
theorem dX12_device_75 : decode cX12_device 75 = .ok (.getfield 62, 3) := by decide +kernel
theorem dX12_device_78 : decode cX12_device 78 = .ok (.bipush 61, 2) := by decide +kernel
theorem dX12_device_80 : decode cX12_device 80 = .ok (.iload_n 1, 1) := by decide +kernel
theorem dX12_device_81 : decode cX12_device 81 = .ok (.iadd, 1) := by decide +kernel
theorem dX12_device_82 : decode cX12_device 82 = .ok (.iaload, 1) := by decide +kernel
theorem dX12_device_83 : decode cX12_device 83 = .ok (.ireturn, 1) := by decide +kernel
theorem dX12_device_84 : decode cX12_device 84 = .ok (.aload_n 0, 1) := by decide +kernel
theorem dX12_device_85 : decode cX12_device 85 = .ok (.getfield 62, 3) := by decide +kernel
theorem dX12_device_88 : decode cX12_device 88 = .ok (.bipush 67, 2) := by decide +kernel
theorem dX12_device_90 : decode cX12_device 90 = .ok (.iload_n 1, 1) := by decide +kernel
theorem dX12_device_91 : decode cX12_device 91 = .ok (.iadd, 1) := by decide +kernel
theorem dX12_device_92 : decode cX12_device 92 = .ok (.iaload, 1) := by decide +kernel
theorem dX12_device_93 : decode cX12_device 93 = .ok (.ireturn, 1) := by decide +kernel
theorem dX12_device_94 : decode cX12_device 94 = .ok (.aload_n 0, 1) := by decide +kernel
theorem dX12_device_95 : decode cX12_device 95 = .ok (.getfield 62, 3) := by decide +kernel
theorem dX12_device_98 : decode cX12_device 98 = .ok (.bipush 73, 2) := by decide +kernel
theorem dX12_device_100 : decode cX12_device 100 = .ok (.iload_n 1, 1) := by decide +kernel
theorem dX12_device_101 : decode cX12_device 101 = .ok (.iadd, 1) := by decide +kernel
theorem dX12_device_102 : decode cX12_device 102 = .ok (.iaload, 1) := by decide +kernel
theorem dX12_device_103 : decode cX12_device 103 = .ok (.ireturn, 1) := by decide +kernel
theorem dX12_device_104 : decode cX12_device 104 = .ok (.aload_n 0, 1) := by decide +kernel
theorem dX12_device_105 : decode cX12_device 105 = .ok (.getfield 58, 3) := by decide +kernel
theorem dX12_device_108 : decode cX12_device 108 = .ok (.bipush 70, 2) := by decide +kernel
theorem dX12_device_110 : decode cX12_device 110 = .ok (.iload_n 1, 1) := by decide +kernel
theorem dX12_device_111 : decode cX12_device 111 = .ok (.iadd, 1) := by decide +kernel
theorem dX12_device_112 : decode cX12_device 112 = .ok (.iaload, 1) := by decide +kernel
theorem dX12_device_113 : decode cX12_device 113 = .ok (.ireturn, 1) := by decide +kernel
theorem dX12_device_114 : decode cX12_device 114 = .ok (.aload_n 0, 1) := by decide +kernel
theorem dX12_device_115 : decode cX12_device 115 = .ok (.getfield 58, 3) := by decide +kernel
theorem dX12_device_118 : decode cX12_device 118 = .ok (.bipush 76, 2) := by decide +kernel
theorem dX12_device_120 : decode cX12_device 120 = .ok (.iload_n 1, 1) := by decide +kernel
theorem dX12_device_121 : decode cX12_device 121 = .ok (.iadd, 1) := by decide +kernel
theorem dX12_device_122 : decode cX12_device 122 = .ok (.iaload, 1) := by decide +kernel
theorem dX12_device_123 : decode cX12_device 123 = .ok (.ireturn, 1) := by decide +kernel
theorem dX12_device_124 : decode cX12_device 124 = .ok (.aload_n 0, 1) := by decide +kernel
theorem dX12_device_125 : decode cX12_device 125 = .ok (.iload_n 1, 1) := by decide +kernel
theorem dX12_device_126 : decode cX12_device 126 = .ok (.invokevirtual 315, 3) := by decide +kernel
theorem dX12_device_129 : decode cX12_device 129 = .ok (.ireturn, 1) := by decide +kernel
theorem dX12_device_130 : decode cX12_device 130 = .ok (.aload_n 0, 1) := by decide +kernel
theorem dX12_device_131 : decode cX12_device 131 = .ok (.iconst 1, 1) := by decide +kernel
theorem dX12_device_132 : decode cX12_device 132 = .ok (.invokevirtual 245, 3) := by decide +kernel
theorem dX12_device_135 : decode cX12_device 135 = .ok (.ireturn, 1) := by decide +kernel
theorem dX12_bind_0 : decode cX12_bind 0 = .ok (.aload_n 0, 1) := by decide +kernel
theorem dX12_bind_1 : decode cX12_bind 1 = .ok (.iconst 0, 1) := by decide +kernel
theorem dX12_bind_2 : decode cX12_bind 2 = .ok (.putfield 131, 3) := by decide +kernel
theorem dX12_bind_5 : decode cX12_bind 5 = .ok (.aload_n 0, 1) := by decide +kernel
theorem dX12_bind_6 : decode cX12_bind 6 = .ok (.iload_n 1, 1) := by decide +kernel
theorem dX12_bind_7 : decode cX12_bind 7 = .ok (.invokevirtual 388, 3) := by decide +kernel
theorem dX12_bind_10 : decode cX12_bind 10 = .ok (.ifCond .eq 20, 3) := by decide +kernel
theorem dX12_bind_13 : decode cX12_bind 13 = .ok (.aload_n 0, 1) := by decide +kernel
theorem dX12_bind_14 : decode cX12_bind 14 = .ok (.iload_n 2, 1) := by decide +kernel
theorem dX12_bind_15 : decode cX12_bind 15 = .ok (.invokevirtual 394, 3) := by decide +kernel
theorem dX12_bind_18 : decode cX12_bind 18 = .ok (.ifCond .eq 12, 3) := by decide +kernel
theorem dX12_bind_21 : decode cX12_bind 21 = .ok (.iload_n 3, 1) := by decide +kernel
theorem dX12_bind_22 : decode cX12_bind 22 = .ok (.iconst 0, 1) := by decide +kernel
theorem dX12_bind_23 : decode cX12_bind 23 = .ok (.iconst 1, 1) := by decide +kernel
theorem dX12_bind_24 : decode cX12_bind 24 = .ok (.invokestatic 378, 3) := by decide +kernel
theorem dX12_bind_27 : decode cX12_bind 27 = .ok (.ifCond .ne 9, 3) := by decide +kernel
theorem dX12_bind_30 : decode cX12_bind 30 = .ok (.aload_n 0, 1) := by decide +kernel
theorem dX12_bind_31 : decode cX12_bind 31 = .ok (.iconst 1, 1) := by decide +kernel
theorem dX12_bind_32 : decode cX12_bind 32 = .ok (.invokevirtual 245, 3) := by decide +kernel
theorem dX12_bind_35 : decode cX12_bind 35 = .ok (.ireturn, 1) := by decide +kernel
theorem dX12_bind_36 : decode cX12_bind 36 = .ok (.iload_n 3, 1) := by decide +kernel
theorem dX12_bind_37 : decode cX12_bind 37 = .ok (.ifCond .ne 12, 3) := by decide +kernel
theorem dX12_bind_40 : decode cX12_bind 40 = .ok (.aload_n 0, 1) := by decide +kernel
theorem dX12_bind_41 : decode cX12_bind 41 = .ok (.iload_n 1, 1) := by decide +kernel
theorem dX12_bind_42 : decode cX12_bind 42 = .ok (.iload_n 2, 1) := by decide +kernel
theorem dX12_bind_43 : decode cX12_bind 43 = .ok (.invokevirtual 294, 3) := by decide +kernel
theorem dX12_bind_46 : decode cX12_bind 46 = .ok (.goto 9, 3) := by decide +kernel
theorem dX12_bind_49 : decode cX12_bind 49 = .ok (.aload_n 0, 1) := by decide +kernel
theorem dX12_bind_50 : decode cX12_bind 50 = .ok (.iload_n 1, 1) := by decide +kernel
theorem dX12_bind_51 : decode cX12_bind 51 = .ok (.iload_n 2, 1) := by decide +kernel
theorem dX12_bind_52 : decode cX12_bind 52 = .ok (.invokevirtual 300, 3) := by decide +kernel
theorem dX12_bind_55 : decode cX12_bind 55 = .ok (.ireturn, 1) := by decide +kernel
theorem dX12_log_0 : decode cX12_log 0 = .ok (.aload_n 0, 1) := by decide +kernel
theorem dX12_log_1 : decode cX12_log 1 = .ok (.iconst 0, 1) := by decide +kernel
theorem dX12_log_2 : decode cX12_log 2 = .ok (.putfield 131, 3) := by decide +kernel
theorem dX12_log_5 : decode cX12_log 5 = .ok (.iload_n 1, 1) := by decide +kernel
theorem dX12_log_6 : decode cX12_log 6 = .ok (.iconst 0, 1) := by decide +kernel
theorem dX12_log_7 : decode cX12_log 7 = .ok (.bipush 40, 2) := by decide +kernel
theorem dX12_log_9 : decode cX12_log 9 = .ok (.aload_n 0, 1) := by decide +kernel
theorem dX12_log_10 : decode cX12_log 10 = .ok (.getfield 58, 3) := by decide +kernel
theorem dX12_log_13 : decode cX12_log 13 = .ok (.sipush 144, 3) := by decide +kernel
theorem dX12_log_16 : decode cX12_log 16 = .ok (.iaload, 1) := by decide +kernel
theorem dX12_log_17 : decode cX12_log 17 = .ok (.invokestatic 164, 3) := by decide +kernel
theorem dX12_log_20 : decode cX12_log 20 = .ok (.iconst 1, 1) := by decide +kernel
theorem dX12_log_21 : decode cX12_log 21 = .ok (.isub, 1) := by decide +kernel
theorem dX12_log_22 : decode cX12_log 22 = .ok (.invokestatic 378, 3) := by decide +kernel
theorem dX12_log_25 : decode cX12_log 25 = .ok (.ifCond .eq 16, 3) := by decide +kernel
theorem dX12_log_28 : decode cX12_log 28 = .ok (.iload_n 2, 1) := by decide +kernel
theorem dX12_log_29 : decode cX12_log 29 = .ok (.iconst 0, 1) := by decide +kernel
theorem dX12_log_30 : decode cX12_log 30 = .ok (.iconst 3, 1) := by decide +kernel
theorem dX12_log_31 : decode cX12_log 31 = .ok (.invokestatic 378, 3) := by decide +kernel
theorem dX12_log_34 : decode cX12_log 34 = .ok (.ifCond .eq 7, 3) := by decide +kernel
theorem dX12_log_37 : decode cX12_log 37 = .ok (.iconst 1, 1) := by decide +kernel
theorem dX12_log_38 : decode cX12_log 38 = .ok (.goto 4, 3) := by decide +kernel
theorem dX12_log_41 : decode cX12_log 41 = .ok (.iconst 0, 1) := by decide +kernel
theorem dX12_log_42 : decode cX12_log 42 = .ok (.istore_n 3, 1) := by decide +kernel
theorem dX12_log_43 : decode cX12_log 43 = .ok (.iload_n 3, 1) := by decide +kernel
theorem dX12_log_44 : decode cX12_log 44 = .ok (.ifCond .eq 34, 3) := by decide +kernel
theorem dX12_log_47 : decode cX12_log 47 = .ok (.aload_n 0, 1) := by decide +kernel
theorem dX12_log_48 : decode cX12_log 48 = .ok (.getfield 58, 3) := by decide +kernel
theorem dX12_log_51 : decode cX12_log 51 = .ok (.sipush 145, 3) := by decide +kernel
theorem dX12_log_54 : decode cX12_log 54 = .ok (.iconst 4, 1) := by decide +kernel
theorem dX12_log_55 : decode cX12_log 55 = .ok (.aload_n 0, 1) := by decide +kernel
theorem dX12_log_56 : decode cX12_log 56 = .ok (.getfield 58, 3) := by decide +kernel
theorem dX12_log_59 : decode cX12_log 59 = .ok (.sipush 144, 3) := by decide +kernel
theorem dX12_log_62 : decode cX12_log 62 = .ok (.iaload, 1) := by decide +kernel
theorem dX12_log_63 : decode cX12_log 63 = .ok (.iconst 1, 1) := by decide +kernel
theorem dX12_log_64 : decode cX12_log 64 = .ok (.isub, 1) := by decide +kernel
theorem dX12_log_65 : decode cX12_log 65 = .ok (.iload_n 1, 1) := by decide +kernel
theorem dX12_log_66 : decode cX12_log 66 = .ok (.isub, 1) := by decide +kernel
theorem dX12_log_67 : decode cX12_log 67 = .ok (.bipush 40, 2) := by decide +kernel
theorem dX12_log_69 : decode cX12_log 69 = .ok (.irem, 1) := by decide +kernel
theorem dX12_log_70 : decode cX12_log 70 = .ok (.imul, 1) := by decide +kernel
theorem dX12_log_71 : decode cX12_log 71 = .ok (.iadd, 1) := by decide +kernel
theorem dX12_log_72 : decode cX12_log 72 = .ok (.iload_n 2, 1) := by decide +kernel
theorem dX12_log_73 : decode cX12_log 73 = .ok (.iadd, 1) := by decide +kernel
theorem dX12_log_74 : decode cX12_log 74 = .ok (.iaload, 1) := by decide +kernel
theorem dX12_log_75 : decode cX12_log 75 = .ok (.goto 8, 3) := by decide +kernel
theorem dX12_log_78 : decode cX12_log 78 = .ok (.aload_n 0, 1) := by decide +kernel
theorem dX12_log_79 : decode cX12_log 79 = .ok (.iconst 1, 1) := by decide +kernel
theorem dX12_log_80 : decode cX12_log 80 = .ok (.invokevirtual 245, 3) := by decide +kernel
theorem dX12_log_83 : decode cX12_log 83 = .ok (.ireturn, 1) := by decide +kernel
theorem dX12_ahead_0 : decode cX12_ahead 0 = .ok (.aload_n 0, 1) := by decide +kernel
theorem dX12_ahead_1 : decode cX12_ahead 1 = .ok (.iconst 0, 1) := by decide +kernel
theorem dX12_ahead_2 : decode cX12_ahead 2 = .ok (.putfield 131, 3) := by decide +kernel
theorem dX12_ahead_5 : decode cX12_ahead 5 = .ok (.aload_n 0, 1) := by decide +kernel
theorem dX12_ahead_6 : decode cX12_ahead 6 = .ok (.iload_n 1, 1) := by decide +kernel
theorem dX12_ahead_7 : decode cX12_ahead 7 = .ok (.invokevirtual 382, 3) := by decide +kernel
theorem dX12_ahead_10 : decode cX12_ahead 10 = .ok (.ifCond .eq 12, 3) := by decide +kernel
theorem dX12_ahead_13 : decode cX12_ahead 13 = .ok (.iload_n 3, 1) := by decide +kernel
theorem dX12_ahead_14 : decode cX12_ahead 14 = .ok (.iconst 0, 1) := by decide +kernel
theorem dX12_ahead_15 : decode cX12_ahead 15 = .ok (.iconst 2, 1) := by decide +kernel
theorem dX12_ahead_16 : decode cX12_ahead 16 = .ok (.invokestatic 378, 3) := by decide +kernel
theorem dX12_ahead_19 : decode cX12_ahead 19 = .ok (.ifCond .ne 9, 3) := by decide +kernel
theorem dX12_ahead_22 : decode cX12_ahead 22 = .ok (.aload_n 0, 1) := by decide +kernel
theorem dX12_ahead_23 : decode cX12_ahead 23 = .ok (.iconst 1, 1) := by decide +kernel
theorem dX12_ahead_24 : decode cX12_ahead 24 = .ok (.invokevirtual 245, 3) := by decide +kernel
theorem dX12_ahead_27 : decode cX12_ahead 27 = .ok (.ireturn, 1) := by decide +kernel
theorem dX12_ahead_28 : decode cX12_ahead 28 = .ok (.iload_n 2, 1) := by decide +kernel
theorem dX12_ahead_29 : decode cX12_ahead 29 = .ok (.iconst 0, 1) := by decide +kernel
theorem dX12_ahead_30 : decode cX12_ahead 30 = .ok (.sipush 200, 3) := by decide +kernel
theorem dX12_ahead_33 : decode cX12_ahead 33 = .ok (.invokestatic 378, 3) := by decide +kernel
theorem dX12_ahead_36 : decode cX12_ahead 36 = .ok (.ifCond .ne 9, 3) := by decide +kernel
theorem dX12_ahead_39 : decode cX12_ahead 39 = .ok (.aload_n 0, 1) := by decide +kernel
theorem dX12_ahead_40 : decode cX12_ahead 40 = .ok (.iconst 2, 1) := by decide +kernel
theorem dX12_ahead_41 : decode cX12_ahead 41 = .ok (.invokevirtual 245, 3) := by decide +kernel
theorem dX12_ahead_44 : decode cX12_ahead 44 = .ok (.ireturn, 1) := by decide +kernel
theorem dX12_ahead_45 : decode cX12_ahead 45 = .ok (.aload_n 0, 1) := by decide +kernel
theorem dX12_ahead_46 : decode cX12_ahead 46 = .ok (.invokevirtual 342, 3) := by decide +kernel
theorem dX12_ahead_49 : decode cX12_ahead 49 = .ok (.iconst 0, 1) := by decide +kernel
theorem dX12_ahead_50 : decode cX12_ahead 50 = .ok (.istore 4, 2) := by decide +kernel
theorem dX12_ahead_52 : decode cX12_ahead 52 = .ok (.iload 4, 2) := by decide +kernel
theorem dX12_ahead_54 : decode cX12_ahead 54 = .ok (.iload_n 2, 1) := by decide +kernel
theorem dX12_ahead_55 : decode cX12_ahead 55 = .ok (.if_icmp .ge 13, 3) := by decide +kernel
theorem dX12_ahead_58 : decode cX12_ahead 58 = .ok (.aload_n 0, 1) := by decide +kernel
theorem dX12_ahead_59 : decode cX12_ahead 59 = .ok (.invokevirtual 351, 3) := by decide +kernel
theorem dX12_ahead_62 : decode cX12_ahead 62 = .ok (.iinc 4 1, 3) := by decide +kernel
theorem dX12_ahead_65 : decode cX12_ahead 65 = .ok (.goto (-13), 3) := by decide +kernel
theorem dX12_ahead_68 : decode cX12_ahead 68 = .ok (.aload_n 0, 1) := by decide +kernel
theorem dX12_ahead_69 : decode cX12_ahead 69 = .ok (.getfield 58, 3) := by decide +kernel
theorem dX12_ahead_72 : decode cX12_ahead 72 = .ok (.iload_n 3, 1) := by decide +kernel
theorem dX12_ahead_73 : decode cX12_ahead 73 = .ok (.ifCond .ne 7, 3) := by decide +kernel
theorem dX12_ahead_76 : decode cX12_ahead 76 = .ok (.iconst 0, 1) := by decide +kernel
theorem dX12_ahead_77 : decode cX12_ahead 77 = .ok (.goto 15, 3) := by decide +kernel
theorem dX12_ahead_80 : decode cX12_ahead 80 = .ok (.iload_n 3, 1) := by decide +kernel
theorem dX12_ahead_81 : decode cX12_ahead 81 = .ok (.iconst 1, 1) := by decide +kernel
theorem dX12_ahead_82 : decode cX12_ahead 82 = .ok (.if_icmp .ne 8, 3) := by decide +kernel
theorem dX12_ahead_85 : decode cX12_ahead 85 = .ok (.bipush 20, 2) := by decide +kernel
theorem dX12_ahead_87 : decode cX12_ahead 87 = .ok (.goto 5, 3) := by decide +kernel
theorem dX12_ahead_90 : decode cX12_ahead 90 = .ok (.bipush 10, 2) := by decide +kernel
theorem dX12_ahead_92 : decode cX12_ahead 92 = .ok (.iload_n 1, 1) := by decide +kernel
theorem dX12_ahead_93 : decode cX12_ahead 93 = .ok (.iadd, 1) := by decide +kernel
theorem dX12_ahead_94 : decode cX12_ahead 94 = .ok (.iaload, 1) := by decide +kernel
theorem dX12_ahead_95 : decode cX12_ahead 95 = .ok (.istore 4, 2) := by decide +kernel
theorem dX12_ahead_97 : decode cX12_ahead 97 = .ok (.aload_n 0, 1) := by decide +kernel
theorem dX12_ahead_98 : decode cX12_ahead 98 = .ok (.invokevirtual 359, 3) := by decide +kernel
theorem dX12_ahead_101 : decode cX12_ahead 101 = .ok (.iload 4, 2) := by decide +kernel
theorem dX12_ahead_103 : decode cX12_ahead 103 = .ok (.ireturn, 1) := by decide +kernel
theorem dX12_peak_0 : decode cX12_peak 0 = .ok (.aload_n 0, 1) := by decide +kernel
theorem dX12_peak_1 : decode cX12_peak 1 = .ok (.invokevirtual 342, 3) := by decide +kernel
theorem dX12_peak_4 : decode cX12_peak 4 = .ok (.iconst 0, 1) := by decide +kernel
theorem dX12_peak_5 : decode cX12_peak 5 = .ok (.istore_n 3, 1) := by decide +kernel
theorem dX12_peak_6 : decode cX12_peak 6 = .ok (.iconst 0, 1) := by decide +kernel
theorem dX12_peak_7 : decode cX12_peak 7 = .ok (.istore 4, 2) := by decide +kernel
theorem dX12_peak_9 : decode cX12_peak 9 = .ok (.iload 4, 2) := by decide +kernel
theorem dX12_peak_11 : decode cX12_peak 11 = .ok (.iload_n 2, 1) := by decide +kernel
theorem dX12_peak_12 : decode cX12_peak 12 = .ok (.if_icmp .ge 26, 3) := by decide +kernel
theorem dX12_peak_15 : decode cX12_peak 15 = .ok (.aload_n 0, 1) := by decide +kernel
theorem dX12_peak_16 : decode cX12_peak 16 = .ok (.invokevirtual 351, 3) := by decide +kernel
theorem dX12_peak_19 : decode cX12_peak 19 = .ok (.iload_n 3, 1) := by decide +kernel
theorem dX12_peak_20 : decode cX12_peak 20 = .ok (.aload_n 0, 1) := by decide +kernel
theorem dX12_peak_21 : decode cX12_peak 21 = .ok (.getfield 58, 3) := by decide +kernel
theorem dX12_peak_24 : decode cX12_peak 24 = .ok (.iconst 0, 1) := by decide +kernel
theorem dX12_peak_25 : decode cX12_peak 25 = .ok (.iload_n 1, 1) := by decide +kernel
theorem dX12_peak_26 : decode cX12_peak 26 = .ok (.iadd, 1) := by decide +kernel
theorem dX12_peak_27 : decode cX12_peak 27 = .ok (.iaload, 1) := by decide +kernel
theorem dX12_peak_28 : decode cX12_peak 28 = .ok (.invokestatic 297, 3) := by decide +kernel
theorem dX12_peak_31 : decode cX12_peak 31 = .ok (.istore_n 3, 1) := by decide +kernel
theorem dX12_peak_32 : decode cX12_peak 32 = .ok (.iinc 4 1, 3) := by decide +kernel
theorem dX12_peak_35 : decode cX12_peak 35 = .ok (.goto (-26), 3) := by decide +kernel
theorem dX12_peak_38 : decode cX12_peak 38 = .ok (.aload_n 0, 1) := by decide +kernel
theorem dX12_peak_39 : decode cX12_peak 39 = .ok (.invokevirtual 359, 3) := by decide +kernel
theorem dX12_peak_42 : decode cX12_peak 42 = .ok (.iload_n 3, 1) := by decide +kernel
theorem dX12_peak_43 : decode cX12_peak 43 = .ok (.ireturn, 1) := by decide +kernel
theorem dX12_borne_0 : decode cX12_borne 0 = .ok (.aload_n 0, 1) := by decide +kernel
theorem dX12_borne_1 : decode cX12_borne 1 = .ok (.getfield 58, 3) := by decide +kernel
theorem dX12_borne_4 : decode cX12_borne 4 = .ok (.bipush 10, 2) := by decide +kernel
theorem dX12_borne_6 : decode cX12_borne 6 = .ok (.iload_n 1, 1) := by decide +kernel
theorem dX12_borne_7 : decode cX12_borne 7 = .ok (.iadd, 1) := by decide +kernel
theorem dX12_borne_8 : decode cX12_borne 8 = .ok (.iaload, 1) := by decide +kernel
theorem dX12_borne_9 : decode cX12_borne 9 = .ok (.iconst 1, 1) := by decide +kernel
theorem dX12_borne_10 : decode cX12_borne 10 = .ok (.if_icmp .ne 5, 3) := by decide +kernel
theorem dX12_borne_13 : decode cX12_borne 13 = .ok (.iconst (-1), 1) := by decide +kernel
theorem dX12_borne_14 : decode cX12_borne 14 = .ok (.ireturn, 1) := by decide +kernel
theorem dX12_borne_15 : decode cX12_borne 15 = .ok (.bipush 99, 2) := by decide +kernel
theorem dX12_borne_17 : decode cX12_borne 17 = .ok (.istore_n 3, 1) := by decide +kernel
theorem dX12_borne_18 : decode cX12_borne 18 = .ok (.iload_n 3, 1) := by decide +kernel
theorem dX12_borne_19 : decode cX12_borne 19 = .ok (.ifCond .lt 83, 3) := by decide +kernel
theorem dX12_borne_22 : decode cX12_borne 22 = .ok (.aload_n 0, 1) := by decide +kernel
theorem dX12_borne_23 : decode cX12_borne 23 = .ok (.invokevirtual 342, 3) := by decide +kernel
theorem dX12_borne_26 : decode cX12_borne 26 = .ok (.aload_n 0, 1) := by decide +kernel
theorem dX12_borne_27 : decode cX12_borne 27 = .ok (.getfield 58, 3) := by decide +kernel
theorem dX12_borne_30 : decode cX12_borne 30 = .ok (.iconst 5, 1) := by decide +kernel
theorem dX12_borne_31 : decode cX12_borne 31 = .ok (.iload_n 1, 1) := by decide +kernel
theorem dX12_borne_32 : decode cX12_borne 32 = .ok (.iadd, 1) := by decide +kernel
theorem dX12_borne_33 : decode cX12_borne 33 = .ok (.iload_n 3, 1) := by decide +kernel
theorem dX12_borne_34 : decode cX12_borne 34 = .ok (.iastore, 1) := by decide +kernel
theorem dX12_borne_35 : decode cX12_borne 35 = .ok (.iconst 0, 1) := by decide +kernel
theorem dX12_borne_36 : decode cX12_borne 36 = .ok (.istore 4, 2) := by decide +kernel
theorem dX12_borne_38 : decode cX12_borne 38 = .ok (.iload 4, 2) := by decide +kernel
theorem dX12_borne_40 : decode cX12_borne 40 = .ok (.iload_n 2, 1) := by decide +kernel
theorem dX12_borne_41 : decode cX12_borne 41 = .ok (.if_icmp .ge 25, 3) := by decide +kernel
theorem dX12_borne_44 : decode cX12_borne 44 = .ok (.aload_n 0, 1) := by decide +kernel
theorem dX12_borne_45 : decode cX12_borne 45 = .ok (.getfield 58, 3) := by decide +kernel
theorem dX12_borne_48 : decode cX12_borne 48 = .ok (.bipush 10, 2) := by decide +kernel
theorem dX12_borne_50 : decode cX12_borne 50 = .ok (.iload_n 1, 1) := by decide +kernel
theorem dX12_borne_51 : decode cX12_borne 51 = .ok (.iadd, 1) := by decide +kernel
theorem dX12_borne_52 : decode cX12_borne 52 = .ok (.iaload, 1) := by decide +kernel
theorem dX12_borne_53 : decode cX12_borne 53 = .ok (.ifCond .ne 13, 3) := by decide +kernel
theorem dX12_borne_56 : decode cX12_borne 56 = .ok (.aload_n 0, 1) := by decide +kernel
theorem dX12_borne_57 : decode cX12_borne 57 = .ok (.invokevirtual 351, 3) := by decide +kernel
theorem dX12_borne_60 : decode cX12_borne 60 = .ok (.iinc 4 1, 3) := by decide +kernel
theorem dX12_borne_63 : decode cX12_borne 63 = .ok (.goto (-25), 3) := by decide +kernel
theorem dX12_borne_66 : decode cX12_borne 66 = .ok (.aload_n 0, 1) := by decide +kernel
theorem dX12_borne_67 : decode cX12_borne 67 = .ok (.getfield 58, 3) := by decide +kernel
theorem dX12_borne_70 : decode cX12_borne 70 = .ok (.bipush 10, 2) := by decide +kernel
theorem dX12_borne_72 : decode cX12_borne 72 = .ok (.iload_n 1, 1) := by decide +kernel
theorem dX12_borne_73 : decode cX12_borne 73 = .ok (.iadd, 1) := by decide +kernel
theorem dX12_borne_74 : decode cX12_borne 74 = .ok (.iaload, 1) := by decide +kernel
theorem dX12_borne_75 : decode cX12_borne 75 = .ok (.ifCond .ne 7, 3) := by decide +kernel
theorem dX12_borne_78 : decode cX12_borne 78 = .ok (.iconst 1, 1) := by decide +kernel
theorem dX12_borne_79 : decode cX12_borne 79 = .ok (.goto 4, 3) := by decide +kernel
theorem dX12_borne_82 : decode cX12_borne 82 = .ok (.iconst 0, 1) := by decide +kernel
theorem dX12_borne_83 : decode cX12_borne 83 = .ok (.istore 4, 2) := by decide +kernel
theorem dX12_borne_85 : decode cX12_borne 85 = .ok (.aload_n 0, 1) := by decide +kernel
theorem dX12_borne_86 : decode cX12_borne 86 = .ok (.invokevirtual 359, 3) := by decide +kernel
theorem dX12_borne_89 : decode cX12_borne 89 = .ok (.iload 4, 2) := by decide +kernel
theorem dX12_borne_91 : decode cX12_borne 91 = .ok (.ifCond .eq 5, 3) := by decide +kernel
theorem dX12_borne_94 : decode cX12_borne 94 = .ok (.iload_n 3, 1) := by decide +kernel
theorem dX12_borne_95 : decode cX12_borne 95 = .ok (.ireturn, 1) := by decide +kernel
theorem dX12_borne_96 : decode cX12_borne 96 = .ok (.iinc 3 (-1), 3) := by decide +kernel
theorem dX12_borne_99 : decode cX12_borne 99 = .ok (.goto (-81), 3) := by decide +kernel
theorem dX12_borne_102 : decode cX12_borne 102 = .ok (.iconst (-1), 1) := by decide +kernel
theorem dX12_borne_103 : decode cX12_borne 103 = .ok (.ireturn, 1) := by decide +kernel
theorem dX12_bears_0 : decode cX12_bears 0 = .ok (.aload_n 0, 1) := by decide +kernel
theorem dX12_bears_1 : decode cX12_bears 1 = .ok (.iconst 0, 1) := by decide +kernel
theorem dX12_bears_2 : decode cX12_bears 2 = .ok (.putfield 131, 3) := by decide +kernel
theorem dX12_bears_5 : decode cX12_bears 5 = .ok (.aload_n 0, 1) := by decide +kernel
theorem dX12_bears_6 : decode cX12_bears 6 = .ok (.iload_n 1, 1) := by decide +kernel
theorem dX12_bears_7 : decode cX12_bears 7 = .ok (.invokevirtual 382, 3) := by decide +kernel
theorem dX12_bears_10 : decode cX12_bears 10 = .ok (.ifCond .eq 12, 3) := by decide +kernel
theorem dX12_bears_13 : decode cX12_bears 13 = .ok (.iload_n 3, 1) := by decide +kernel
theorem dX12_bears_14 : decode cX12_bears 14 = .ok (.iconst 0, 1) := by decide +kernel
theorem dX12_bears_15 : decode cX12_bears 15 = .ok (.iconst 1, 1) := by decide +kernel
theorem dX12_bears_16 : decode cX12_bears 16 = .ok (.invokestatic 378, 3) := by decide +kernel
theorem dX12_bears_19 : decode cX12_bears 19 = .ok (.ifCond .ne 9, 3) := by decide +kernel
theorem dX12_bears_22 : decode cX12_bears 22 = .ok (.aload_n 0, 1) := by decide +kernel
theorem dX12_bears_23 : decode cX12_bears 23 = .ok (.iconst 1, 1) := by decide +kernel
theorem dX12_bears_24 : decode cX12_bears 24 = .ok (.invokevirtual 245, 3) := by decide +kernel
theorem dX12_bears_27 : decode cX12_bears 27 = .ok (.ireturn, 1) := by decide +kernel
theorem dX12_bears_28 : decode cX12_bears 28 = .ok (.iload_n 2, 1) := by decide +kernel
theorem dX12_bears_29 : decode cX12_bears 29 = .ok (.iconst 1, 1) := by decide +kernel
theorem dX12_bears_30 : decode cX12_bears 30 = .ok (.iload_n 3, 1) := by decide +kernel
theorem dX12_bears_31 : decode cX12_bears 31 = .ok (.ifCond .ne 9, 3) := by decide +kernel
theorem dX12_bears_34 : decode cX12_bears 34 = .ok (.sipush 200, 3) := by decide +kernel
theorem dX12_bears_37 : decode cX12_bears 37 = .ok (.goto 5, 3) := by decide +kernel
theorem dX12_bears_40 : decode cX12_bears 40 = .ok (.bipush 60, 2) := by decide +kernel
theorem dX12_bears_42 : decode cX12_bears 42 = .ok (.invokestatic 378, 3) := by decide +kernel
theorem dX12_bears_45 : decode cX12_bears 45 = .ok (.ifCond .ne 9, 3) := by decide +kernel
theorem dX12_bears_48 : decode cX12_bears 48 = .ok (.aload_n 0, 1) := by decide +kernel
theorem dX12_bears_49 : decode cX12_bears 49 = .ok (.iconst 2, 1) := by decide +kernel
theorem dX12_bears_50 : decode cX12_bears 50 = .ok (.invokevirtual 245, 3) := by decide +kernel
theorem dX12_bears_53 : decode cX12_bears 53 = .ok (.ireturn, 1) := by decide +kernel
theorem dX12_bears_54 : decode cX12_bears 54 = .ok (.iload_n 3, 1) := by decide +kernel
theorem dX12_bears_55 : decode cX12_bears 55 = .ok (.ifCond .ne 12, 3) := by decide +kernel
theorem dX12_bears_58 : decode cX12_bears 58 = .ok (.aload_n 0, 1) := by decide +kernel
theorem dX12_bears_59 : decode cX12_bears 59 = .ok (.iload_n 1, 1) := by decide +kernel
theorem dX12_bears_60 : decode cX12_bears 60 = .ok (.iload_n 2, 1) := by decide +kernel
theorem dX12_bears_61 : decode cX12_bears 61 = .ok (.invokevirtual 397, 3) := by decide +kernel
theorem dX12_bears_64 : decode cX12_bears 64 = .ok (.goto 9, 3) := by decide +kernel
theorem dX12_bears_67 : decode cX12_bears 67 = .ok (.aload_n 0, 1) := by decide +kernel
theorem dX12_bears_68 : decode cX12_bears 68 = .ok (.iload_n 1, 1) := by decide +kernel
theorem dX12_bears_69 : decode cX12_bears 69 = .ok (.iload_n 2, 1) := by decide +kernel
theorem dX12_bears_70 : decode cX12_bears 70 = .ok (.invokevirtual 400, 3) := by decide +kernel
theorem dX12_bears_73 : decode cX12_bears 73 = .ok (.ireturn, 1) := by decide +kernel
theorem dX12_flips_0 : decode cX12_flips 0 = .ok (.aload_n 0, 1) := by decide +kernel
theorem dX12_flips_1 : decode cX12_flips 1 = .ok (.iconst 0, 1) := by decide +kernel
theorem dX12_flips_2 : decode cX12_flips 2 = .ok (.putfield 131, 3) := by decide +kernel
theorem dX12_flips_5 : decode cX12_flips 5 = .ok (.aload_n 0, 1) := by decide +kernel
theorem dX12_flips_6 : decode cX12_flips 6 = .ok (.iload_n 1, 1) := by decide +kernel
theorem dX12_flips_7 : decode cX12_flips 7 = .ok (.invokevirtual 388, 3) := by decide +kernel
theorem dX12_flips_10 : decode cX12_flips 10 = .ok (.ifCond .ne 9, 3) := by decide +kernel
theorem dX12_flips_13 : decode cX12_flips 13 = .ok (.aload_n 0, 1) := by decide +kernel
theorem dX12_flips_14 : decode cX12_flips 14 = .ok (.iconst 1, 1) := by decide +kernel
theorem dX12_flips_15 : decode cX12_flips 15 = .ok (.invokevirtual 245, 3) := by decide +kernel
theorem dX12_flips_18 : decode cX12_flips 18 = .ok (.ireturn, 1) := by decide +kernel
theorem dX12_flips_19 : decode cX12_flips 19 = .ok (.iload_n 2, 1) := by decide +kernel
theorem dX12_flips_20 : decode cX12_flips 20 = .ok (.iconst 1, 1) := by decide +kernel
theorem dX12_flips_21 : decode cX12_flips 21 = .ok (.sipush 200, 3) := by decide +kernel
theorem dX12_flips_24 : decode cX12_flips 24 = .ok (.invokestatic 378, 3) := by decide +kernel
theorem dX12_flips_27 : decode cX12_flips 27 = .ok (.ifCond .ne 9, 3) := by decide +kernel
theorem dX12_flips_30 : decode cX12_flips 30 = .ok (.aload_n 0, 1) := by decide +kernel
theorem dX12_flips_31 : decode cX12_flips 31 = .ok (.iconst 2, 1) := by decide +kernel
theorem dX12_flips_32 : decode cX12_flips 32 = .ok (.invokevirtual 245, 3) := by decide +kernel
theorem dX12_flips_35 : decode cX12_flips 35 = .ok (.ireturn, 1) := by decide +kernel
theorem dX12_flips_36 : decode cX12_flips 36 = .ok (.aload_n 0, 1) := by decide +kernel
theorem dX12_flips_37 : decode cX12_flips 37 = .ok (.invokevirtual 342, 3) := by decide +kernel
theorem dX12_flips_40 : decode cX12_flips 40 = .ok (.iconst 0, 1) := by decide +kernel
theorem dX12_flips_41 : decode cX12_flips 41 = .ok (.istore_n 3, 1) := by decide +kernel
theorem dX12_flips_42 : decode cX12_flips 42 = .ok (.iconst 0, 1) := by decide +kernel
theorem dX12_flips_43 : decode cX12_flips 43 = .ok (.istore 4, 2) := by decide +kernel
theorem dX12_flips_45 : decode cX12_flips 45 = .ok (.iload 4, 2) := by decide +kernel
theorem dX12_flips_47 : decode cX12_flips 47 = .ok (.iload_n 2, 1) := by decide +kernel
theorem dX12_flips_48 : decode cX12_flips 48 = .ok (.if_icmp .ge 46, 3) := by decide +kernel
theorem dX12_flips_51 : decode cX12_flips 51 = .ok (.aload_n 0, 1) := by decide +kernel
theorem dX12_flips_52 : decode cX12_flips 52 = .ok (.getfield 58, 3) := by decide +kernel
theorem dX12_flips_55 : decode cX12_flips 55 = .ok (.bipush 50, 2) := by decide +kernel
theorem dX12_flips_57 : decode cX12_flips 57 = .ok (.iload_n 1, 1) := by decide +kernel
theorem dX12_flips_58 : decode cX12_flips 58 = .ok (.iadd, 1) := by decide +kernel
theorem dX12_flips_59 : decode cX12_flips 59 = .ok (.iaload, 1) := by decide +kernel
theorem dX12_flips_60 : decode cX12_flips 60 = .ok (.istore 5, 2) := by decide +kernel
theorem dX12_flips_62 : decode cX12_flips 62 = .ok (.aload_n 0, 1) := by decide +kernel
theorem dX12_flips_63 : decode cX12_flips 63 = .ok (.invokevirtual 351, 3) := by decide +kernel
theorem dX12_flips_66 : decode cX12_flips 66 = .ok (.iload_n 3, 1) := by decide +kernel
theorem dX12_flips_67 : decode cX12_flips 67 = .ok (.iload 5, 2) := by decide +kernel
theorem dX12_flips_69 : decode cX12_flips 69 = .ok (.aload_n 0, 1) := by decide +kernel
theorem dX12_flips_70 : decode cX12_flips 70 = .ok (.getfield 58, 3) := by decide +kernel
theorem dX12_flips_73 : decode cX12_flips 73 = .ok (.bipush 50, 2) := by decide +kernel
theorem dX12_flips_75 : decode cX12_flips 75 = .ok (.iload_n 1, 1) := by decide +kernel
theorem dX12_flips_76 : decode cX12_flips 76 = .ok (.iadd, 1) := by decide +kernel
theorem dX12_flips_77 : decode cX12_flips 77 = .ok (.iaload, 1) := by decide +kernel
theorem dX12_flips_78 : decode cX12_flips 78 = .ok (.if_icmp .eq 7, 3) := by decide +kernel
theorem dX12_flips_81 : decode cX12_flips 81 = .ok (.iconst 1, 1) := by decide +kernel
theorem dX12_flips_82 : decode cX12_flips 82 = .ok (.goto 4, 3) := by decide +kernel
theorem dX12_flips_85 : decode cX12_flips 85 = .ok (.iconst 0, 1) := by decide +kernel
theorem dX12_flips_86 : decode cX12_flips 86 = .ok (.iadd, 1) := by decide +kernel
theorem dX12_flips_87 : decode cX12_flips 87 = .ok (.istore_n 3, 1) := by decide +kernel
theorem dX12_flips_88 : decode cX12_flips 88 = .ok (.iinc 4 1, 3) := by decide +kernel
theorem dX12_flips_91 : decode cX12_flips 91 = .ok (.goto (-46), 3) := by decide +kernel
theorem dX12_flips_94 : decode cX12_flips 94 = .ok (.aload_n 0, 1) := by decide +kernel
theorem dX12_flips_95 : decode cX12_flips 95 = .ok (.invokevirtual 359, 3) := by decide +kernel
theorem dX12_flips_98 : decode cX12_flips 98 = .ok (.iload_n 3, 1) := by decide +kernel
theorem dX12_flips_99 : decode cX12_flips 99 = .ok (.ireturn, 1) := by decide +kernel
theorem dX12_refuse_0 : decode cX12_refuse 0 = .ok (.aload_n 0, 1) := by decide +kernel
theorem dX12_refuse_1 : decode cX12_refuse 1 = .ok (.getfield 71, 3) := by decide +kernel
theorem dX12_refuse_4 : decode cX12_refuse 4 = .ok (.iload_n 1, 1) := by decide +kernel
theorem dX12_refuse_5 : decode cX12_refuse 5 = .ok (.dup2, 1) := by decide +kernel
theorem dX12_refuse_6 : decode cX12_refuse 6 = .ok (.iaload, 1) := by decide +kernel
theorem dX12_refuse_7 : decode cX12_refuse 7 = .ok (.iconst 1, 1) := by decide +kernel
theorem dX12_refuse_8 : decode cX12_refuse 8 = .ok (.iadd, 1) := by decide +kernel
theorem dX12_refuse_9 : decode cX12_refuse 9 = .ok (.iastore, 1) := by decide +kernel
theorem dX12_refuse_10 : decode cX12_refuse 10 = .ok (.iconst (-1), 1) := by decide +kernel
theorem dX12_refuse_11 : decode cX12_refuse 11 = .ok (.ireturn, 1) := by decide +kernel
theorem dX12_keep_0 : decode cX12_keep 0 = .ok (.aload_n 0, 1) := by decide +kernel
theorem dX12_keep_1 : decode cX12_keep 1 = .ok (.getfield 254, 3) := by decide +kernel
theorem dX12_keep_4 : decode cX12_keep 4 = .ok (.bipush 40, 2) := by decide +kernel
theorem dX12_keep_6 : decode cX12_keep 6 = .ok (.if_icmp .ne 48, 3) := by decide +kernel
theorem dX12_keep_9 : decode cX12_keep 9 = .ok (.sipush 305, 3) := by decide +kernel
theorem dX12_keep_12 : decode cX12_keep 12 = .ok (.istore_n 1, 1) := by decide +kernel
theorem dX12_keep_13 : decode cX12_keep 13 = .ok (.iload_n 1, 1) := by decide +kernel
theorem dX12_keep_14 : decode cX12_keep 14 = .ok (.aload_n 0, 1) := by decide +kernel
theorem dX12_keep_15 : decode cX12_keep 15 = .ok (.getfield 91, 3) := by decide +kernel
theorem dX12_keep_18 : decode cX12_keep 18 = .ok (.arraylength, 1) := by decide +kernel
theorem dX12_keep_19 : decode cX12_keep 19 = .ok (.if_icmp .ge 25, 3) := by decide +kernel
theorem dX12_keep_22 : decode cX12_keep 22 = .ok (.aload_n 0, 1) := by decide +kernel
theorem dX12_keep_23 : decode cX12_keep 23 = .ok (.getfield 91, 3) := by decide +kernel
theorem dX12_keep_26 : decode cX12_keep 26 = .ok (.iload_n 1, 1) := by decide +kernel
theorem dX12_keep_27 : decode cX12_keep 27 = .ok (.sipush 305, 3) := by decide +kernel
theorem dX12_keep_30 : decode cX12_keep 30 = .ok (.isub, 1) := by decide +kernel
theorem dX12_keep_31 : decode cX12_keep 31 = .ok (.aload_n 0, 1) := by decide +kernel
theorem dX12_keep_32 : decode cX12_keep 32 = .ok (.getfield 91, 3) := by decide +kernel
theorem dX12_keep_35 : decode cX12_keep 35 = .ok (.iload_n 1, 1) := by decide +kernel
theorem dX12_keep_36 : decode cX12_keep 36 = .ok (.iaload, 1) := by decide +kernel
theorem dX12_keep_37 : decode cX12_keep 37 = .ok (.iastore, 1) := by decide +kernel
theorem dX12_keep_38 : decode cX12_keep 38 = .ok (.iinc 1 1, 3) := by decide +kernel
theorem dX12_keep_41 : decode cX12_keep 41 = .ok (.goto (-28), 3) := by decide +kernel
theorem dX12_keep_44 : decode cX12_keep 44 = .ok (.aload_n 0, 1) := by decide +kernel
theorem dX12_keep_45 : decode cX12_keep 45 = .ok (.dup, 1) := by decide +kernel
theorem dX12_keep_46 : decode cX12_keep 46 = .ok (.getfield 254, 3) := by decide +kernel
theorem dX12_keep_49 : decode cX12_keep 49 = .ok (.iconst 1, 1) := by decide +kernel
theorem dX12_keep_50 : decode cX12_keep 50 = .ok (.isub, 1) := by decide +kernel
theorem dX12_keep_51 : decode cX12_keep 51 = .ok (.putfield 254, 3) := by decide +kernel
theorem dX12_keep_54 : decode cX12_keep 54 = .ok (.iconst 0, 1) := by decide +kernel
theorem dX12_keep_55 : decode cX12_keep 55 = .ok (.istore_n 1, 1) := by decide +kernel
theorem dX12_keep_56 : decode cX12_keep 56 = .ok (.iload_n 1, 1) := by decide +kernel
theorem dX12_keep_57 : decode cX12_keep 57 = .ok (.sipush 305, 3) := by decide +kernel
theorem dX12_keep_60 : decode cX12_keep 60 = .ok (.if_icmp .ge 30, 3) := by decide +kernel
theorem dX12_keep_63 : decode cX12_keep 63 = .ok (.aload_n 0, 1) := by decide +kernel
theorem dX12_keep_64 : decode cX12_keep 64 = .ok (.getfield 91, 3) := by decide +kernel
theorem dX12_keep_67 : decode cX12_keep 67 = .ok (.sipush 305, 3) := by decide +kernel
theorem dX12_keep_70 : decode cX12_keep 70 = .ok (.aload_n 0, 1) := by decide +kernel
theorem dX12_keep_71 : decode cX12_keep 71 = .ok (.getfield 254, 3) := by decide +kernel
theorem dX12_keep_74 : decode cX12_keep 74 = .ok (.imul, 1) := by decide +kernel
theorem dX12_keep_75 : decode cX12_keep 75 = .ok (.iload_n 1, 1) := by decide +kernel
theorem dX12_keep_76 : decode cX12_keep 76 = .ok (.iadd, 1) := by decide +kernel
theorem dX12_keep_77 : decode cX12_keep 77 = .ok (.aload_n 0, 1) := by decide +kernel
theorem dX12_keep_78 : decode cX12_keep 78 = .ok (.getfield 58, 3) := by decide +kernel
theorem dX12_keep_81 : decode cX12_keep 81 = .ok (.iload_n 1, 1) := by decide +kernel
theorem dX12_keep_82 : decode cX12_keep 82 = .ok (.iaload, 1) := by decide +kernel
theorem dX12_keep_83 : decode cX12_keep 83 = .ok (.iastore, 1) := by decide +kernel
theorem dX12_keep_84 : decode cX12_keep 84 = .ok (.iinc 1 1, 3) := by decide +kernel
theorem dX12_keep_87 : decode cX12_keep 87 = .ok (.goto (-31), 3) := by decide +kernel
theorem dX12_keep_90 : decode cX12_keep 90 = .ok (.aload_n 0, 1) := by decide +kernel
theorem dX12_keep_91 : decode cX12_keep 91 = .ok (.dup, 1) := by decide +kernel
theorem dX12_keep_92 : decode cX12_keep 92 = .ok (.getfield 254, 3) := by decide +kernel
theorem dX12_keep_95 : decode cX12_keep 95 = .ok (.iconst 1, 1) := by decide +kernel
theorem dX12_keep_96 : decode cX12_keep 96 = .ok (.iadd, 1) := by decide +kernel
theorem dX12_keep_97 : decode cX12_keep 97 = .ok (.putfield 254, 3) := by decide +kernel
theorem dX12_keep_100 : decode cX12_keep 100 = .ok (.return_, 1) := by decide +kernel
theorem dX12_minutes_0 : decode cX12_minutes 0 = .ok (.aload_n 0, 1) := by decide +kernel
theorem dX12_minutes_1 : decode cX12_minutes 1 = .ok (.iconst 0, 1) := by decide +kernel
theorem dX12_minutes_2 : decode cX12_minutes 2 = .ok (.putfield 131, 3) := by decide +kernel
theorem dX12_minutes_5 : decode cX12_minutes 5 = .ok (.iload_n 1, 1) := by decide +kernel
theorem dX12_minutes_6 : decode cX12_minutes 6 = .ok (.iconst 1, 1) := by decide +kernel
theorem dX12_minutes_7 : decode cX12_minutes 7 = .ok (.bipush 60, 2) := by decide +kernel
theorem dX12_minutes_9 : decode cX12_minutes 9 = .ok (.invokestatic 378, 3) := by decide +kernel
theorem dX12_minutes_12 : decode cX12_minutes 12 = .ok (.ifCond .ne 9, 3) := by decide +kernel
theorem dX12_minutes_15 : decode cX12_minutes 15 = .ok (.aload_n 0, 1) := by decide +kernel
theorem dX12_minutes_16 : decode cX12_minutes 16 = .ok (.iconst 1, 1) := by decide +kernel
theorem dX12_minutes_17 : decode cX12_minutes 17 = .ok (.invokevirtual 403, 3) := by decide +kernel
theorem dX12_minutes_20 : decode cX12_minutes 20 = .ok (.ireturn, 1) := by decide +kernel
theorem dX12_minutes_21 : decode cX12_minutes 21 = .ok (.aload_n 0, 1) := by decide +kernel
theorem dX12_minutes_22 : decode cX12_minutes 22 = .ok (.invokevirtual 406, 3) := by decide +kernel
theorem dX12_minutes_25 : decode cX12_minutes 25 = .ok (.iconst 0, 1) := by decide +kernel
theorem dX12_minutes_26 : decode cX12_minutes 26 = .ok (.istore_n 2, 1) := by decide +kernel
theorem dX12_minutes_27 : decode cX12_minutes 27 = .ok (.iload_n 2, 1) := by decide +kernel
theorem dX12_minutes_28 : decode cX12_minutes 28 = .ok (.iload_n 1, 1) := by decide +kernel
theorem dX12_minutes_29 : decode cX12_minutes 29 = .ok (.if_icmp .ge 13, 3) := by decide +kernel
theorem dX12_minutes_32 : decode cX12_minutes 32 = .ok (.aload_n 0, 1) := by decide +kernel
theorem dX12_minutes_33 : decode cX12_minutes 33 = .ok (.invokevirtual 351, 3) := by decide +kernel
theorem dX12_minutes_36 : decode cX12_minutes 36 = .ok (.iinc 2 1, 3) := by decide +kernel
theorem dX12_minutes_39 : decode cX12_minutes 39 = .ok (.goto (-12), 3) := by decide +kernel
theorem dX12_minutes_42 : decode cX12_minutes 42 = .ok (.aload_n 0, 1) := by decide +kernel
theorem dX12_minutes_43 : decode cX12_minutes 43 = .ok (.getfield 58, 3) := by decide +kernel
theorem dX12_minutes_46 : decode cX12_minutes 46 = .ok (.sipush 142, 3) := by decide +kernel
theorem dX12_minutes_49 : decode cX12_minutes 49 = .ok (.iaload, 1) := by decide +kernel
theorem dX12_minutes_50 : decode cX12_minutes 50 = .ok (.ireturn, 1) := by decide +kernel
theorem dX12_load_0 : decode cX12_load 0 = .ok (.aload_n 0, 1) := by decide +kernel
theorem dX12_load_1 : decode cX12_load 1 = .ok (.iconst 0, 1) := by decide +kernel
theorem dX12_load_2 : decode cX12_load 2 = .ok (.putfield 131, 3) := by decide +kernel
theorem dX12_load_5 : decode cX12_load 5 = .ok (.aload_n 0, 1) := by decide +kernel
theorem dX12_load_6 : decode cX12_load 6 = .ok (.iload_n 1, 1) := by decide +kernel
theorem dX12_load_7 : decode cX12_load 7 = .ok (.invokevirtual 382, 3) := by decide +kernel
theorem dX12_load_10 : decode cX12_load 10 = .ok (.ifCond .eq 25, 3) := by decide +kernel
theorem dX12_load_13 : decode cX12_load 13 = .ok (.iload_n 2, 1) := by decide +kernel
theorem dX12_load_14 : decode cX12_load 14 = .ok (.iconst 0, 1) := by decide +kernel
theorem dX12_load_15 : decode cX12_load 15 = .ok (.bipush 99, 2) := by decide +kernel
theorem dX12_load_17 : decode cX12_load 17 = .ok (.invokestatic 378, 3) := by decide +kernel
theorem dX12_load_20 : decode cX12_load 20 = .ok (.ifCond .eq 15, 3) := by decide +kernel
theorem dX12_load_23 : decode cX12_load 23 = .ok (.aload_n 0, 1) := by decide +kernel
theorem dX12_load_24 : decode cX12_load 24 = .ok (.getfield 58, 3) := by decide +kernel
theorem dX12_load_27 : decode cX12_load 27 = .ok (.iconst 5, 1) := by decide +kernel
theorem dX12_load_28 : decode cX12_load 28 = .ok (.iload_n 1, 1) := by decide +kernel
theorem dX12_load_29 : decode cX12_load 29 = .ok (.iadd, 1) := by decide +kernel
theorem dX12_load_30 : decode cX12_load 30 = .ok (.iaload, 1) := by decide +kernel
theorem dX12_load_31 : decode cX12_load 31 = .ok (.iload_n 2, 1) := by decide +kernel
theorem dX12_load_32 : decode cX12_load 32 = .ok (.if_icmp .ne 9, 3) := by decide +kernel
theorem dX12_load_35 : decode cX12_load 35 = .ok (.aload_n 0, 1) := by decide +kernel
theorem dX12_load_36 : decode cX12_load 36 = .ok (.iconst 1, 1) := by decide +kernel
theorem dX12_load_37 : decode cX12_load 37 = .ok (.invokevirtual 403, 3) := by decide +kernel
theorem dX12_load_40 : decode cX12_load 40 = .ok (.ireturn, 1) := by decide +kernel
theorem dX12_load_41 : decode cX12_load 41 = .ok (.aload_n 0, 1) := by decide +kernel
theorem dX12_load_42 : decode cX12_load 42 = .ok (.invokevirtual 406, 3) := by decide +kernel
theorem dX12_load_45 : decode cX12_load 45 = .ok (.aload_n 0, 1) := by decide +kernel
theorem dX12_load_46 : decode cX12_load 46 = .ok (.getfield 58, 3) := by decide +kernel
theorem dX12_load_49 : decode cX12_load 49 = .ok (.iconst 5, 1) := by decide +kernel
theorem dX12_load_50 : decode cX12_load 50 = .ok (.iload_n 1, 1) := by decide +kernel
theorem dX12_load_51 : decode cX12_load 51 = .ok (.iadd, 1) := by decide +kernel
theorem dX12_load_52 : decode cX12_load 52 = .ok (.iaload, 1) := by decide +kernel
theorem dX12_load_53 : decode cX12_load 53 = .ok (.istore_n 3, 1) := by decide +kernel
theorem dX12_load_54 : decode cX12_load 54 = .ok (.aload_n 0, 1) := by decide +kernel
theorem dX12_load_55 : decode cX12_load 55 = .ok (.getfield 58, 3) := by decide +kernel
theorem dX12_load_58 : decode cX12_load 58 = .ok (.iconst 5, 1) := by decide +kernel
theorem dX12_load_59 : decode cX12_load 59 = .ok (.iload_n 1, 1) := by decide +kernel
theorem dX12_load_60 : decode cX12_load 60 = .ok (.iadd, 1) := by decide +kernel
theorem dX12_load_61 : decode cX12_load 61 = .ok (.iload_n 2, 1) := by decide +kernel
theorem dX12_load_62 : decode cX12_load 62 = .ok (.iastore, 1) := by decide +kernel
theorem dX12_load_63 : decode cX12_load 63 = .ok (.iload_n 3, 1) := by decide +kernel
theorem dX12_load_64 : decode cX12_load 64 = .ok (.ireturn, 1) := by decide +kernel
theorem dX12_hold_0 : decode cX12_hold 0 = .ok (.aload_n 0, 1) := by decide +kernel
theorem dX12_hold_1 : decode cX12_hold 1 = .ok (.iconst 0, 1) := by decide +kernel
theorem dX12_hold_2 : decode cX12_hold 2 = .ok (.putfield 131, 3) := by decide +kernel
theorem dX12_hold_5 : decode cX12_hold 5 = .ok (.aload_n 0, 1) := by decide +kernel
theorem dX12_hold_6 : decode cX12_hold 6 = .ok (.iload_n 1, 1) := by decide +kernel
theorem dX12_hold_7 : decode cX12_hold 7 = .ok (.invokevirtual 394, 3) := by decide +kernel
theorem dX12_hold_10 : decode cX12_hold 10 = .ok (.ifCond .eq 33, 3) := by decide +kernel
theorem dX12_hold_13 : decode cX12_hold 13 = .ok (.iload_n 2, 1) := by decide +kernel
theorem dX12_hold_14 : decode cX12_hold 14 = .ok (.iconst (-1), 1) := by decide +kernel
theorem dX12_hold_15 : decode cX12_hold 15 = .ok (.aload_n 0, 1) := by decide +kernel
theorem dX12_hold_16 : decode cX12_hold 16 = .ok (.getfield 62, 3) := by decide +kernel
theorem dX12_hold_19 : decode cX12_hold 19 = .ok (.bipush 67, 2) := by decide +kernel
theorem dX12_hold_21 : decode cX12_hold 21 = .ok (.iload_n 1, 1) := by decide +kernel
theorem dX12_hold_22 : decode cX12_hold 22 = .ok (.iadd, 1) := by decide +kernel
theorem dX12_hold_23 : decode cX12_hold 23 = .ok (.iaload, 1) := by decide +kernel
theorem dX12_hold_24 : decode cX12_hold 24 = .ok (.invokestatic 378, 3) := by decide +kernel
theorem dX12_hold_27 : decode cX12_hold 27 = .ok (.ifCond .eq 16, 3) := by decide +kernel
theorem dX12_hold_30 : decode cX12_hold 30 = .ok (.aload_n 0, 1) := by decide +kernel
theorem dX12_hold_31 : decode cX12_hold 31 = .ok (.getfield 58, 3) := by decide +kernel
theorem dX12_hold_34 : decode cX12_hold 34 = .ok (.bipush 76, 2) := by decide +kernel
theorem dX12_hold_36 : decode cX12_hold 36 = .ok (.iload_n 1, 1) := by decide +kernel
theorem dX12_hold_37 : decode cX12_hold 37 = .ok (.iadd, 1) := by decide +kernel
theorem dX12_hold_38 : decode cX12_hold 38 = .ok (.iaload, 1) := by decide +kernel
theorem dX12_hold_39 : decode cX12_hold 39 = .ok (.iload_n 2, 1) := by decide +kernel
theorem dX12_hold_40 : decode cX12_hold 40 = .ok (.if_icmp .ne 11, 3) := by decide +kernel
theorem dX12_hold_43 : decode cX12_hold 43 = .ok (.aload_n 0, 1) := by decide +kernel
theorem dX12_hold_44 : decode cX12_hold 44 = .ok (.iconst 1, 1) := by decide +kernel
theorem dX12_hold_45 : decode cX12_hold 45 = .ok (.invokevirtual 403, 3) := by decide +kernel
theorem dX12_hold_48 : decode cX12_hold 48 = .ok (.iconst 1, 1) := by decide +kernel
theorem dX12_hold_49 : decode cX12_hold 49 = .ok (.isub, 1) := by decide +kernel
theorem dX12_hold_50 : decode cX12_hold 50 = .ok (.ireturn, 1) := by decide +kernel
theorem dX12_hold_51 : decode cX12_hold 51 = .ok (.aload_n 0, 1) := by decide +kernel
theorem dX12_hold_52 : decode cX12_hold 52 = .ok (.invokevirtual 406, 3) := by decide +kernel
theorem dX12_hold_55 : decode cX12_hold 55 = .ok (.aload_n 0, 1) := by decide +kernel
theorem dX12_hold_56 : decode cX12_hold 56 = .ok (.getfield 58, 3) := by decide +kernel
theorem dX12_hold_59 : decode cX12_hold 59 = .ok (.bipush 76, 2) := by decide +kernel
theorem dX12_hold_61 : decode cX12_hold 61 = .ok (.iload_n 1, 1) := by decide +kernel
theorem dX12_hold_62 : decode cX12_hold 62 = .ok (.iadd, 1) := by decide +kernel
theorem dX12_hold_63 : decode cX12_hold 63 = .ok (.iaload, 1) := by decide +kernel
theorem dX12_hold_64 : decode cX12_hold 64 = .ok (.istore_n 3, 1) := by decide +kernel
theorem dX12_hold_65 : decode cX12_hold 65 = .ok (.aload_n 0, 1) := by decide +kernel
theorem dX12_hold_66 : decode cX12_hold 66 = .ok (.getfield 58, 3) := by decide +kernel
theorem dX12_hold_69 : decode cX12_hold 69 = .ok (.bipush 76, 2) := by decide +kernel
theorem dX12_hold_71 : decode cX12_hold 71 = .ok (.iload_n 1, 1) := by decide +kernel
theorem dX12_hold_72 : decode cX12_hold 72 = .ok (.iadd, 1) := by decide +kernel
theorem dX12_hold_73 : decode cX12_hold 73 = .ok (.iload_n 2, 1) := by decide +kernel
theorem dX12_hold_74 : decode cX12_hold 74 = .ok (.iastore, 1) := by decide +kernel
theorem dX12_hold_75 : decode cX12_hold 75 = .ok (.iload_n 3, 1) := by decide +kernel
theorem dX12_hold_76 : decode cX12_hold 76 = .ok (.ireturn, 1) := by decide +kernel
theorem dX12_isCriticalOn_0 : decode cX12_isCriticalOn 0 = .ok (.iconst 0, 1) := by decide +kernel
theorem dX12_isCriticalOn_1 : decode cX12_isCriticalOn 1 = .ok (.istore_n 2, 1) := by decide +kernel
theorem dX12_isCriticalOn_2 : decode cX12_isCriticalOn 2 = .ok (.iconst 0, 1) := by decide +kernel
theorem dX12_isCriticalOn_3 : decode cX12_isCriticalOn 3 = .ok (.istore_n 3, 1) := by decide +kernel
theorem dX12_isCriticalOn_4 : decode cX12_isCriticalOn 4 = .ok (.iload_n 3, 1) := by decide +kernel
theorem dX12_isCriticalOn_5 : decode cX12_isCriticalOn 5 = .ok (.aload_n 0, 1) := by decide +kernel
theorem dX12_isCriticalOn_6 : decode cX12_isCriticalOn 6 = .ok (.invokevirtual 312, 3) := by decide +kernel
theorem dX12_isCriticalOn_9 : decode cX12_isCriticalOn 9 = .ok (.if_icmp .ge 54, 3) := by decide +kernel
theorem dX12_isCriticalOn_12 : decode cX12_isCriticalOn 12 = .ok (.iload_n 2, 1) := by decide +kernel
theorem dX12_isCriticalOn_13 : decode cX12_isCriticalOn 13 = .ok (.ifCond .ne 38, 3) := by decide +kernel
theorem dX12_isCriticalOn_16 : decode cX12_isCriticalOn 16 = .ok (.aload_n 0, 1) := by decide +kernel
theorem dX12_isCriticalOn_17 : decode cX12_isCriticalOn 17 = .ok (.getfield 62, 3) := by decide +kernel
theorem dX12_isCriticalOn_20 : decode cX12_isCriticalOn 20 = .ok (.bipush 25, 2) := by decide +kernel
theorem dX12_isCriticalOn_22 : decode cX12_isCriticalOn 22 = .ok (.iload_n 3, 1) := by decide +kernel
theorem dX12_isCriticalOn_23 : decode cX12_isCriticalOn 23 = .ok (.iadd, 1) := by decide +kernel
theorem dX12_isCriticalOn_24 : decode cX12_isCriticalOn 24 = .ok (.iaload, 1) := by decide +kernel
theorem dX12_isCriticalOn_25 : decode cX12_isCriticalOn 25 = .ok (.iconst 3, 1) := by decide +kernel
theorem dX12_isCriticalOn_26 : decode cX12_isCriticalOn 26 = .ok (.if_icmp .ne 29, 3) := by decide +kernel
theorem dX12_isCriticalOn_29 : decode cX12_isCriticalOn 29 = .ok (.aload_n 0, 1) := by decide +kernel
theorem dX12_isCriticalOn_30 : decode cX12_isCriticalOn 30 = .ok (.iload_n 3, 1) := by decide +kernel
theorem dX12_isCriticalOn_31 : decode cX12_isCriticalOn 31 = .ok (.invokevirtual 287, 3) := by decide +kernel
theorem dX12_isCriticalOn_34 : decode cX12_isCriticalOn 34 = .ok (.iload_n 1, 1) := by decide +kernel
theorem dX12_isCriticalOn_35 : decode cX12_isCriticalOn 35 = .ok (.if_icmp .ne 20, 3) := by decide +kernel
theorem dX12_isCriticalOn_38 : decode cX12_isCriticalOn 38 = .ok (.aload_n 0, 1) := by decide +kernel
theorem dX12_isCriticalOn_39 : decode cX12_isCriticalOn 39 = .ok (.getfield 58, 3) := by decide +kernel
theorem dX12_isCriticalOn_42 : decode cX12_isCriticalOn 42 = .ok (.bipush 50, 2) := by decide +kernel
theorem dX12_isCriticalOn_44 : decode cX12_isCriticalOn 44 = .ok (.iload_n 3, 1) := by decide +kernel
theorem dX12_isCriticalOn_45 : decode cX12_isCriticalOn 45 = .ok (.iadd, 1) := by decide +kernel
theorem dX12_isCriticalOn_46 : decode cX12_isCriticalOn 46 = .ok (.iaload, 1) := by decide +kernel
theorem dX12_isCriticalOn_47 : decode cX12_isCriticalOn 47 = .ok (.iconst 1, 1) := by decide +kernel
theorem dX12_isCriticalOn_48 : decode cX12_isCriticalOn 48 = .ok (.if_icmp .ne 7, 3) := by decide +kernel
theorem dX12_isCriticalOn_51 : decode cX12_isCriticalOn 51 = .ok (.iconst 1, 1) := by decide +kernel
theorem dX12_isCriticalOn_52 : decode cX12_isCriticalOn 52 = .ok (.goto 4, 3) := by decide +kernel
theorem dX12_isCriticalOn_55 : decode cX12_isCriticalOn 55 = .ok (.iconst 0, 1) := by decide +kernel
theorem dX12_isCriticalOn_56 : decode cX12_isCriticalOn 56 = .ok (.istore_n 2, 1) := by decide +kernel
theorem dX12_isCriticalOn_57 : decode cX12_isCriticalOn 57 = .ok (.iinc 3 1, 3) := by decide +kernel
theorem dX12_isCriticalOn_60 : decode cX12_isCriticalOn 60 = .ok (.goto (-56), 3) := by decide +kernel
theorem dX12_isCriticalOn_63 : decode cX12_isCriticalOn 63 = .ok (.iload_n 2, 1) := by decide +kernel
theorem dX12_isCriticalOn_64 : decode cX12_isCriticalOn 64 = .ok (.ireturn, 1) := by decide +kernel
theorem dX12_start_0 : decode cX12_start 0 = .ok (.aload_n 0, 1) := by decide +kernel
theorem dX12_start_1 : decode cX12_start 1 = .ok (.iconst 0, 1) := by decide +kernel
theorem dX12_start_2 : decode cX12_start 2 = .ok (.putfield 131, 3) := by decide +kernel
theorem dX12_start_5 : decode cX12_start 5 = .ok (.aload_n 0, 1) := by decide +kernel
theorem dX12_start_6 : decode cX12_start 6 = .ok (.iload_n 1, 1) := by decide +kernel
theorem dX12_start_7 : decode cX12_start 7 = .ok (.invokevirtual 382, 3) := by decide +kernel
theorem dX12_start_10 : decode cX12_start 10 = .ok (.ifCond .eq 23, 3) := by decide +kernel
theorem dX12_start_13 : decode cX12_start 13 = .ok (.aload_n 0, 1) := by decide +kernel
theorem dX12_start_14 : decode cX12_start 14 = .ok (.getfield 58, 3) := by decide +kernel
theorem dX12_start_17 : decode cX12_start 17 = .ok (.bipush 10, 2) := by decide +kernel
theorem dX12_start_19 : decode cX12_start 19 = .ok (.iload_n 1, 1) := by decide +kernel
theorem dX12_start_20 : decode cX12_start 20 = .ok (.iadd, 1) := by decide +kernel
theorem dX12_start_21 : decode cX12_start 21 = .ok (.iaload, 1) := by decide +kernel
theorem dX12_start_22 : decode cX12_start 22 = .ok (.ifCond .eq 11, 3) := by decide +kernel
theorem dX12_start_25 : decode cX12_start 25 = .ok (.aload_n 0, 1) := by decide +kernel
theorem dX12_start_26 : decode cX12_start 26 = .ok (.iload_n 1, 1) := by decide +kernel
theorem dX12_start_27 : decode cX12_start 27 = .ok (.invokevirtual 409, 3) := by decide +kernel
theorem dX12_start_30 : decode cX12_start 30 = .ok (.ifCond .eq 9, 3) := by decide +kernel
theorem dX12_start_33 : decode cX12_start 33 = .ok (.aload_n 0, 1) := by decide +kernel
theorem dX12_start_34 : decode cX12_start 34 = .ok (.iconst 1, 1) := by decide +kernel
theorem dX12_start_35 : decode cX12_start 35 = .ok (.invokevirtual 403, 3) := by decide +kernel
theorem dX12_start_38 : decode cX12_start 38 = .ok (.ireturn, 1) := by decide +kernel
theorem dX12_start_39 : decode cX12_start 39 = .ok (.aload_n 0, 1) := by decide +kernel
theorem dX12_start_40 : decode cX12_start 40 = .ok (.invokevirtual 406, 3) := by decide +kernel
theorem dX12_start_43 : decode cX12_start 43 = .ok (.aload_n 0, 1) := by decide +kernel
theorem dX12_start_44 : decode cX12_start 44 = .ok (.getfield 58, 3) := by decide +kernel
theorem dX12_start_47 : decode cX12_start 47 = .ok (.bipush 10, 2) := by decide +kernel
theorem dX12_start_49 : decode cX12_start 49 = .ok (.iload_n 1, 1) := by decide +kernel
theorem dX12_start_50 : decode cX12_start 50 = .ok (.iadd, 1) := by decide +kernel
theorem dX12_start_51 : decode cX12_start 51 = .ok (.iconst 0, 1) := by decide +kernel
theorem dX12_start_52 : decode cX12_start 52 = .ok (.iastore, 1) := by decide +kernel
theorem dX12_start_53 : decode cX12_start 53 = .ok (.aload_n 0, 1) := by decide +kernel
theorem dX12_start_54 : decode cX12_start 54 = .ok (.getfield 58, 3) := by decide +kernel
theorem dX12_start_57 : decode cX12_start 57 = .ok (.bipush 15, 2) := by decide +kernel
theorem dX12_start_59 : decode cX12_start 59 = .ok (.iload_n 1, 1) := by decide +kernel
theorem dX12_start_60 : decode cX12_start 60 = .ok (.iadd, 1) := by decide +kernel
theorem dX12_start_61 : decode cX12_start 61 = .ok (.iconst 0, 1) := by decide +kernel
theorem dX12_start_62 : decode cX12_start 62 = .ok (.iastore, 1) := by decide +kernel
theorem dX12_start_63 : decode cX12_start 63 = .ok (.aload_n 0, 1) := by decide +kernel
theorem dX12_start_64 : decode cX12_start 64 = .ok (.iconst 5, 1) := by decide +kernel
theorem dX12_start_65 : decode cX12_start 65 = .ok (.iload_n 1, 1) := by decide +kernel
theorem dX12_start_66 : decode cX12_start 66 = .ok (.iconst (-1), 1) := by decide +kernel
theorem dX12_start_67 : decode cX12_start 67 = .ok (.invokevirtual 290, 3) := by decide +kernel
theorem dX12_start_70 : decode cX12_start 70 = .ok (.aload_n 0, 1) := by decide +kernel
theorem dX12_start_71 : decode cX12_start 71 = .ok (.getfield 58, 3) := by decide +kernel
theorem dX12_start_74 : decode cX12_start 74 = .ok (.bipush 20, 2) := by decide +kernel
theorem dX12_start_76 : decode cX12_start 76 = .ok (.iload_n 1, 1) := by decide +kernel
theorem dX12_start_77 : decode cX12_start 77 = .ok (.iadd, 1) := by decide +kernel
theorem dX12_start_78 : decode cX12_start 78 = .ok (.iaload, 1) := by decide +kernel
theorem dX12_start_79 : decode cX12_start 79 = .ok (.ireturn, 1) := by decide +kernel
theorem dX12_foresee_0 : decode cX12_foresee 0 = .ok (.aload_n 0, 1) := by decide +kernel
theorem dX12_foresee_1 : decode cX12_foresee 1 = .ok (.iconst 0, 1) := by decide +kernel
theorem dX12_foresee_2 : decode cX12_foresee 2 = .ok (.putfield 131, 3) := by decide +kernel
theorem dX12_foresee_5 : decode cX12_foresee 5 = .ok (.iload_n 1, 1) := by decide +kernel
theorem dX12_foresee_6 : decode cX12_foresee 6 = .ok (.iconst 0, 1) := by decide +kernel
theorem dX12_foresee_7 : decode cX12_foresee 7 = .ok (.bipush 9, 2) := by decide +kernel
theorem dX12_foresee_9 : decode cX12_foresee 9 = .ok (.invokestatic 378, 3) := by decide +kernel
theorem dX12_foresee_12 : decode cX12_foresee 12 = .ok (.ifCond .eq 15, 3) := by decide +kernel
theorem dX12_foresee_15 : decode cX12_foresee 15 = .ok (.aload_n 0, 1) := by decide +kernel
theorem dX12_foresee_16 : decode cX12_foresee 16 = .ok (.getfield 58, 3) := by decide +kernel
theorem dX12_foresee_19 : decode cX12_foresee 19 = .ok (.sipush 143, 3) := by decide +kernel
theorem dX12_foresee_22 : decode cX12_foresee 22 = .ok (.iaload, 1) := by decide +kernel
theorem dX12_foresee_23 : decode cX12_foresee 23 = .ok (.iload_n 1, 1) := by decide +kernel
theorem dX12_foresee_24 : decode cX12_foresee 24 = .ok (.if_icmp .ne 9, 3) := by decide +kernel
theorem dX12_foresee_27 : decode cX12_foresee 27 = .ok (.aload_n 0, 1) := by decide +kernel
theorem dX12_foresee_28 : decode cX12_foresee 28 = .ok (.iconst 1, 1) := by decide +kernel
theorem dX12_foresee_29 : decode cX12_foresee 29 = .ok (.invokevirtual 403, 3) := by decide +kernel
theorem dX12_foresee_32 : decode cX12_foresee 32 = .ok (.ireturn, 1) := by decide +kernel
theorem dX12_foresee_33 : decode cX12_foresee 33 = .ok (.aload_n 0, 1) := by decide +kernel
theorem dX12_foresee_34 : decode cX12_foresee 34 = .ok (.invokevirtual 406, 3) := by decide +kernel
theorem dX12_foresee_37 : decode cX12_foresee 37 = .ok (.aload_n 0, 1) := by decide +kernel
theorem dX12_foresee_38 : decode cX12_foresee 38 = .ok (.getfield 58, 3) := by decide +kernel
theorem dX12_foresee_41 : decode cX12_foresee 41 = .ok (.sipush 143, 3) := by decide +kernel
theorem dX12_foresee_44 : decode cX12_foresee 44 = .ok (.iaload, 1) := by decide +kernel
theorem dX12_foresee_45 : decode cX12_foresee 45 = .ok (.istore_n 2, 1) := by decide +kernel
theorem dX12_foresee_46 : decode cX12_foresee 46 = .ok (.aload_n 0, 1) := by decide +kernel
theorem dX12_foresee_47 : decode cX12_foresee 47 = .ok (.getfield 58, 3) := by decide +kernel
theorem dX12_foresee_50 : decode cX12_foresee 50 = .ok (.sipush 143, 3) := by decide +kernel
theorem dX12_foresee_53 : decode cX12_foresee 53 = .ok (.iload_n 1, 1) := by decide +kernel
theorem dX12_foresee_54 : decode cX12_foresee 54 = .ok (.iastore, 1) := by decide +kernel
theorem dX12_foresee_55 : decode cX12_foresee 55 = .ok (.iload_n 2, 1) := by decide +kernel
theorem dX12_foresee_56 : decode cX12_foresee 56 = .ok (.ireturn, 1) := by decide +kernel
theorem dX12_undo_0 : decode cX12_undo 0 = .ok (.aload_n 0, 1) := by decide +kernel
theorem dX12_undo_1 : decode cX12_undo 1 = .ok (.iconst 0, 1) := by decide +kernel
theorem dX12_undo_2 : decode cX12_undo 2 = .ok (.putfield 131, 3) := by decide +kernel
theorem dX12_undo_5 : decode cX12_undo 5 = .ok (.aload_n 0, 1) := by decide +kernel
theorem dX12_undo_6 : decode cX12_undo 6 = .ok (.getfield 254, 3) := by decide +kernel
theorem dX12_undo_9 : decode cX12_undo 9 = .ok (.ifCond .ne 5, 3) := by decide +kernel
theorem dX12_undo_12 : decode cX12_undo 12 = .ok (.iconst (-1), 1) := by decide +kernel
theorem dX12_undo_13 : decode cX12_undo 13 = .ok (.ireturn, 1) := by decide +kernel
theorem dX12_undo_14 : decode cX12_undo 14 = .ok (.aload_n 0, 1) := by decide +kernel
theorem dX12_undo_15 : decode cX12_undo 15 = .ok (.dup, 1) := by decide +kernel
theorem dX12_undo_16 : decode cX12_undo 16 = .ok (.getfield 254, 3) := by decide +kernel
theorem dX12_undo_19 : decode cX12_undo 19 = .ok (.iconst 1, 1) := by decide +kernel
theorem dX12_undo_20 : decode cX12_undo 20 = .ok (.isub, 1) := by decide +kernel
theorem dX12_undo_21 : decode cX12_undo 21 = .ok (.putfield 254, 3) := by decide +kernel
theorem dX12_undo_24 : decode cX12_undo 24 = .ok (.iconst 0, 1) := by decide +kernel
theorem dX12_undo_25 : decode cX12_undo 25 = .ok (.istore_n 1, 1) := by decide +kernel
theorem dX12_undo_26 : decode cX12_undo 26 = .ok (.iload_n 1, 1) := by decide +kernel
theorem dX12_undo_27 : decode cX12_undo 27 = .ok (.sipush 305, 3) := by decide +kernel
theorem dX12_undo_30 : decode cX12_undo 30 = .ok (.if_icmp .ge 30, 3) := by decide +kernel
theorem dX12_undo_33 : decode cX12_undo 33 = .ok (.aload_n 0, 1) := by decide +kernel
theorem dX12_undo_34 : decode cX12_undo 34 = .ok (.getfield 58, 3) := by decide +kernel
theorem dX12_undo_37 : decode cX12_undo 37 = .ok (.iload_n 1, 1) := by decide +kernel
theorem dX12_undo_38 : decode cX12_undo 38 = .ok (.aload_n 0, 1) := by decide +kernel
theorem dX12_undo_39 : decode cX12_undo 39 = .ok (.getfield 91, 3) := by decide +kernel
theorem dX12_undo_42 : decode cX12_undo 42 = .ok (.sipush 305, 3) := by decide +kernel
theorem dX12_undo_45 : decode cX12_undo 45 = .ok (.aload_n 0, 1) := by decide +kernel
theorem dX12_undo_46 : decode cX12_undo 46 = .ok (.getfield 254, 3) := by decide +kernel
theorem dX12_undo_49 : decode cX12_undo 49 = .ok (.imul, 1) := by decide +kernel
theorem dX12_undo_50 : decode cX12_undo 50 = .ok (.iload_n 1, 1) := by decide +kernel
theorem dX12_undo_51 : decode cX12_undo 51 = .ok (.iadd, 1) := by decide +kernel
theorem dX12_undo_52 : decode cX12_undo 52 = .ok (.iaload, 1) := by decide +kernel
theorem dX12_undo_53 : decode cX12_undo 53 = .ok (.iastore, 1) := by decide +kernel
theorem dX12_undo_54 : decode cX12_undo 54 = .ok (.iinc 1 1, 3) := by decide +kernel
theorem dX12_undo_57 : decode cX12_undo 57 = .ok (.goto (-31), 3) := by decide +kernel
theorem dX12_undo_60 : decode cX12_undo 60 = .ok (.aload_n 0, 1) := by decide +kernel
theorem dX12_undo_61 : decode cX12_undo 61 = .ok (.getfield 254, 3) := by decide +kernel
theorem dX12_undo_64 : decode cX12_undo 64 = .ok (.ireturn, 1) := by decide +kernel
theorem dX12_note_0 : decode cX12_note 0 = .ok (.aload_n 0, 1) := by decide +kernel
theorem dX12_note_1 : decode cX12_note 1 = .ok (.iconst 0, 1) := by decide +kernel
theorem dX12_note_2 : decode cX12_note 2 = .ok (.putfield 131, 3) := by decide +kernel
theorem dX12_note_5 : decode cX12_note 5 = .ok (.aload_n 0, 1) := by decide +kernel
theorem dX12_note_6 : decode cX12_note 6 = .ok (.getfield 257, 3) := by decide +kernel
theorem dX12_note_9 : decode cX12_note 9 = .ok (.bipush 8, 2) := by decide +kernel
theorem dX12_note_11 : decode cX12_note 11 = .ok (.if_icmp .eq 32, 3) := by decide +kernel
theorem dX12_note_14 : decode cX12_note 14 = .ok (.aload_n 0, 1) := by decide +kernel
theorem dX12_note_15 : decode cX12_note 15 = .ok (.iload_n 1, 1) := by decide +kernel
theorem dX12_note_16 : decode cX12_note 16 = .ok (.invokevirtual 382, 3) := by decide +kernel
theorem dX12_note_19 : decode cX12_note 19 = .ok (.ifCond .eq 24, 3) := by decide +kernel
theorem dX12_note_22 : decode cX12_note 22 = .ok (.iload_n 2, 1) := by decide +kernel
theorem dX12_note_23 : decode cX12_note 23 = .ok (.iconst 0, 1) := by decide +kernel
theorem dX12_note_24 : decode cX12_note 24 = .ok (.bipush 60, 2) := by decide +kernel
theorem dX12_note_26 : decode cX12_note 26 = .ok (.invokestatic 378, 3) := by decide +kernel
theorem dX12_note_29 : decode cX12_note 29 = .ok (.ifCond .eq 14, 3) := by decide +kernel
theorem dX12_note_32 : decode cX12_note 32 = .ok (.iload_n 3, 1) := by decide +kernel
theorem dX12_note_33 : decode cX12_note 33 = .ok (.iconst 0, 1) := by decide +kernel
theorem dX12_note_34 : decode cX12_note 34 = .ok (.sipush 1500, 3) := by decide +kernel
theorem dX12_note_37 : decode cX12_note 37 = .ok (.invokestatic 378, 3) := by decide +kernel
theorem dX12_note_40 : decode cX12_note 40 = .ok (.ifCond .ne 9, 3) := by decide +kernel
theorem dX12_note_43 : decode cX12_note 43 = .ok (.aload_n 0, 1) := by decide +kernel
theorem dX12_note_44 : decode cX12_note 44 = .ok (.iconst 2, 1) := by decide +kernel
theorem dX12_note_45 : decode cX12_note 45 = .ok (.invokevirtual 403, 3) := by decide +kernel
theorem dX12_note_48 : decode cX12_note 48 = .ok (.ireturn, 1) := by decide +kernel
theorem dX12_note_49 : decode cX12_note 49 = .ok (.aload_n 0, 1) := by decide +kernel
theorem dX12_note_50 : decode cX12_note 50 = .ok (.getfield 94, 3) := by decide +kernel
theorem dX12_note_53 : decode cX12_note 53 = .ok (.aload_n 0, 1) := by decide +kernel
theorem dX12_note_54 : decode cX12_note 54 = .ok (.getfield 257, 3) := by decide +kernel
theorem dX12_note_57 : decode cX12_note 57 = .ok (.iload_n 1, 1) := by decide +kernel
theorem dX12_note_58 : decode cX12_note 58 = .ok (.iastore, 1) := by decide +kernel
theorem dX12_note_59 : decode cX12_note 59 = .ok (.aload_n 0, 1) := by decide +kernel
theorem dX12_note_60 : decode cX12_note 60 = .ok (.getfield 97, 3) := by decide +kernel
theorem dX12_note_63 : decode cX12_note 63 = .ok (.aload_n 0, 1) := by decide +kernel
theorem dX12_note_64 : decode cX12_note 64 = .ok (.getfield 257, 3) := by decide +kernel
theorem dX12_note_67 : decode cX12_note 67 = .ok (.iload_n 2, 1) := by decide +kernel
theorem dX12_note_68 : decode cX12_note 68 = .ok (.iastore, 1) := by decide +kernel
theorem dX12_note_69 : decode cX12_note 69 = .ok (.aload_n 0, 1) := by decide +kernel
theorem dX12_note_70 : decode cX12_note 70 = .ok (.getfield 100, 3) := by decide +kernel
theorem dX12_note_73 : decode cX12_note 73 = .ok (.aload_n 0, 1) := by decide +kernel
theorem dX12_note_74 : decode cX12_note 74 = .ok (.getfield 257, 3) := by decide +kernel
theorem dX12_note_77 : decode cX12_note 77 = .ok (.iload_n 3, 1) := by decide +kernel
theorem dX12_note_78 : decode cX12_note 78 = .ok (.iastore, 1) := by decide +kernel
theorem dX12_note_79 : decode cX12_note 79 = .ok (.aload_n 0, 1) := by decide +kernel
theorem dX12_note_80 : decode cX12_note 80 = .ok (.dup, 1) := by decide +kernel
theorem dX12_note_81 : decode cX12_note 81 = .ok (.getfield 257, 3) := by decide +kernel
theorem dX12_note_84 : decode cX12_note 84 = .ok (.iconst 1, 1) := by decide +kernel
theorem dX12_note_85 : decode cX12_note 85 = .ok (.iadd, 1) := by decide +kernel
theorem dX12_note_86 : decode cX12_note 86 = .ok (.putfield 257, 3) := by decide +kernel
theorem dX12_note_89 : decode cX12_note 89 = .ok (.aload_n 0, 1) := by decide +kernel
theorem dX12_note_90 : decode cX12_note 90 = .ok (.getfield 257, 3) := by decide +kernel
theorem dX12_note_93 : decode cX12_note 93 = .ok (.ireturn, 1) := by decide +kernel
theorem dX12_forget_0 : decode cX12_forget 0 = .ok (.aload_n 0, 1) := by decide +kernel
theorem dX12_forget_1 : decode cX12_forget 1 = .ok (.iconst 0, 1) := by decide +kernel
theorem dX12_forget_2 : decode cX12_forget 2 = .ok (.putfield 131, 3) := by decide +kernel
theorem dX12_forget_5 : decode cX12_forget 5 = .ok (.aload_n 0, 1) := by decide +kernel
theorem dX12_forget_6 : decode cX12_forget 6 = .ok (.iconst 0, 1) := by decide +kernel
theorem dX12_forget_7 : decode cX12_forget 7 = .ok (.putfield 257, 3) := by decide +kernel
theorem dX12_forget_10 : decode cX12_forget 10 = .ok (.return_, 1) := by decide +kernel
theorem dX12_tellFits_0 : decode cX12_tellFits 0 = .ok (.aload_n 0, 1) := by decide +kernel
theorem dX12_tellFits_1 : decode cX12_tellFits 1 = .ok (.getfield 62, 3) := by decide +kernel
theorem dX12_tellFits_4 : decode cX12_tellFits 4 = .ok (.iconst 0, 1) := by decide +kernel
theorem dX12_tellFits_5 : decode cX12_tellFits 5 = .ok (.iload_n 1, 1) := by decide +kernel
theorem dX12_tellFits_6 : decode cX12_tellFits 6 = .ok (.iadd, 1) := by decide +kernel
theorem dX12_tellFits_7 : decode cX12_tellFits 7 = .ok (.iaload, 1) := by decide +kernel
theorem dX12_tellFits_8 : decode cX12_tellFits 8 = .ok (.istore_n 2, 1) := by decide +kernel
theorem dX12_tellFits_9 : decode cX12_tellFits 9 = .ok (.iconst 1, 1) := by decide +kernel
theorem dX12_tellFits_10 : decode cX12_tellFits 10 = .ok (.istore_n 3, 1) := by decide +kernel
theorem dX12_tellFits_11 : decode cX12_tellFits 11 = .ok (.iload_n 3, 1) := by decide +kernel
theorem dX12_tellFits_12 : decode cX12_tellFits 12 = .ok (.bipush 50, 2) := by decide +kernel
theorem dX12_tellFits_14 : decode cX12_tellFits 14 = .ok (.if_icmp .gt 155, 3) := by decide +kernel
theorem dX12_tellFits_17 : decode cX12_tellFits 17 = .ok (.aload_n 0, 1) := by decide +kernel
theorem dX12_tellFits_18 : decode cX12_tellFits 18 = .ok (.getfield 62, 3) := by decide +kernel
theorem dX12_tellFits_21 : decode cX12_tellFits 21 = .ok (.iconst 0, 1) := by decide +kernel
theorem dX12_tellFits_22 : decode cX12_tellFits 22 = .ok (.iload_n 1, 1) := by decide +kernel
theorem dX12_tellFits_23 : decode cX12_tellFits 23 = .ok (.iadd, 1) := by decide +kernel
theorem dX12_tellFits_24 : decode cX12_tellFits 24 = .ok (.iload_n 3, 1) := by decide +kernel
theorem dX12_tellFits_25 : decode cX12_tellFits 25 = .ok (.iastore, 1) := by decide +kernel
theorem dX12_tellFits_26 : decode cX12_tellFits 26 = .ok (.aload_n 0, 1) := by decide +kernel
theorem dX12_tellFits_27 : decode cX12_tellFits 27 = .ok (.invokevirtual 342, 3) := by decide +kernel
theorem dX12_tellFits_30 : decode cX12_tellFits 30 = .ok (.iconst 1, 1) := by decide +kernel
theorem dX12_tellFits_31 : decode cX12_tellFits 31 = .ok (.istore 4, 2) := by decide +kernel
theorem dX12_tellFits_33 : decode cX12_tellFits 33 = .ok (.iconst 0, 1) := by decide +kernel
theorem dX12_tellFits_34 : decode cX12_tellFits 34 = .ok (.istore 5, 2) := by decide +kernel
theorem dX12_tellFits_36 : decode cX12_tellFits 36 = .ok (.iload 5, 2) := by decide +kernel
theorem dX12_tellFits_38 : decode cX12_tellFits 38 = .ok (.bipush 60, 2) := by decide +kernel
theorem dX12_tellFits_40 : decode cX12_tellFits 40 = .ok (.if_icmp .gt 111, 3) := by decide +kernel
theorem dX12_tellFits_43 : decode cX12_tellFits 43 = .ok (.iload 5, 2) := by decide +kernel
theorem dX12_tellFits_45 : decode cX12_tellFits 45 = .ok (.ifCond .le 7, 3) := by decide +kernel
theorem dX12_tellFits_48 : decode cX12_tellFits 48 = .ok (.aload_n 0, 1) := by decide +kernel
theorem dX12_tellFits_49 : decode cX12_tellFits 49 = .ok (.invokevirtual 351, 3) := by decide +kernel
theorem dX12_tellFits_52 : decode cX12_tellFits 52 = .ok (.iconst 0, 1) := by decide +kernel
theorem dX12_tellFits_53 : decode cX12_tellFits 53 = .ok (.istore 6, 2) := by decide +kernel
theorem dX12_tellFits_55 : decode cX12_tellFits 55 = .ok (.iload 6, 2) := by decide +kernel
theorem dX12_tellFits_57 : decode cX12_tellFits 57 = .ok (.aload_n 0, 1) := by decide +kernel
theorem dX12_tellFits_58 : decode cX12_tellFits 58 = .ok (.getfield 257, 3) := by decide +kernel
theorem dX12_tellFits_61 : decode cX12_tellFits 61 = .ok (.if_icmp .ge 57, 3) := by decide +kernel
theorem dX12_tellFits_64 : decode cX12_tellFits 64 = .ok (.iload 4, 2) := by decide +kernel
theorem dX12_tellFits_66 : decode cX12_tellFits 66 = .ok (.ifCond .eq 43, 3) := by decide +kernel
theorem dX12_tellFits_69 : decode cX12_tellFits 69 = .ok (.aload_n 0, 1) := by decide +kernel
theorem dX12_tellFits_70 : decode cX12_tellFits 70 = .ok (.getfield 97, 3) := by decide +kernel
theorem dX12_tellFits_73 : decode cX12_tellFits 73 = .ok (.iload 6, 2) := by decide +kernel
theorem dX12_tellFits_75 : decode cX12_tellFits 75 = .ok (.iaload, 1) := by decide +kernel
theorem dX12_tellFits_76 : decode cX12_tellFits 76 = .ok (.iload 5, 2) := by decide +kernel
theorem dX12_tellFits_78 : decode cX12_tellFits 78 = .ok (.if_icmp .ne 27, 3) := by decide +kernel
theorem dX12_tellFits_81 : decode cX12_tellFits 81 = .ok (.aload_n 0, 1) := by decide +kernel
theorem dX12_tellFits_82 : decode cX12_tellFits 82 = .ok (.getfield 58, 3) := by decide +kernel
theorem dX12_tellFits_85 : decode cX12_tellFits 85 = .ok (.iconst 0, 1) := by decide +kernel
theorem dX12_tellFits_86 : decode cX12_tellFits 86 = .ok (.aload_n 0, 1) := by decide +kernel
theorem dX12_tellFits_87 : decode cX12_tellFits 87 = .ok (.getfield 94, 3) := by decide +kernel
theorem dX12_tellFits_90 : decode cX12_tellFits 90 = .ok (.iload 6, 2) := by decide +kernel
theorem dX12_tellFits_92 : decode cX12_tellFits 92 = .ok (.iaload, 1) := by decide +kernel
theorem dX12_tellFits_93 : decode cX12_tellFits 93 = .ok (.iadd, 1) := by decide +kernel
theorem dX12_tellFits_94 : decode cX12_tellFits 94 = .ok (.iaload, 1) := by decide +kernel
theorem dX12_tellFits_95 : decode cX12_tellFits 95 = .ok (.aload_n 0, 1) := by decide +kernel
theorem dX12_tellFits_96 : decode cX12_tellFits 96 = .ok (.getfield 100, 3) := by decide +kernel
theorem dX12_tellFits_99 : decode cX12_tellFits 99 = .ok (.iload 6, 2) := by decide +kernel
theorem dX12_tellFits_101 : decode cX12_tellFits 101 = .ok (.iaload, 1) := by decide +kernel
theorem dX12_tellFits_102 : decode cX12_tellFits 102 = .ok (.if_icmp .ne 7, 3) := by decide +kernel
theorem dX12_tellFits_105 : decode cX12_tellFits 105 = .ok (.iconst 1, 1) := by decide +kernel
theorem dX12_tellFits_106 : decode cX12_tellFits 106 = .ok (.goto 4, 3) := by decide +kernel
theorem dX12_tellFits_109 : decode cX12_tellFits 109 = .ok (.iconst 0, 1) := by decide +kernel
theorem dX12_tellFits_110 : decode cX12_tellFits 110 = .ok (.istore 4, 2) := by decide +kernel
theorem dX12_tellFits_112 : decode cX12_tellFits 112 = .ok (.iinc 6 1, 3) := by decide +kernel
theorem dX12_tellFits_115 : decode cX12_tellFits 115 = .ok (.goto (-60), 3) := by decide +kernel
theorem dX12_tellFits_118 : decode cX12_tellFits 118 = .ok (.iload 5, 2) := by decide +kernel
theorem dX12_tellFits_120 : decode cX12_tellFits 120 = .ok (.bipush 20, 2) := by decide +kernel
theorem dX12_tellFits_122 : decode cX12_tellFits 122 = .ok (.if_icmp .gt 23, 3) := by decide +kernel
theorem dX12_tellFits_125 : decode cX12_tellFits 125 = .ok (.aload_n 0, 1) := by decide +kernel
theorem dX12_tellFits_126 : decode cX12_tellFits 126 = .ok (.getfield 106, 3) := by decide +kernel
theorem dX12_tellFits_129 : decode cX12_tellFits 129 = .ok (.bipush 21, 2) := by decide +kernel
theorem dX12_tellFits_131 : decode cX12_tellFits 131 = .ok (.iload_n 3, 1) := by decide +kernel
theorem dX12_tellFits_132 : decode cX12_tellFits 132 = .ok (.imul, 1) := by decide +kernel
theorem dX12_tellFits_133 : decode cX12_tellFits 133 = .ok (.iload 5, 2) := by decide +kernel
theorem dX12_tellFits_135 : decode cX12_tellFits 135 = .ok (.iadd, 1) := by decide +kernel
theorem dX12_tellFits_136 : decode cX12_tellFits 136 = .ok (.aload_n 0, 1) := by decide +kernel
theorem dX12_tellFits_137 : decode cX12_tellFits 137 = .ok (.getfield 58, 3) := by decide +kernel
theorem dX12_tellFits_140 : decode cX12_tellFits 140 = .ok (.iconst 0, 1) := by decide +kernel
theorem dX12_tellFits_141 : decode cX12_tellFits 141 = .ok (.iload_n 1, 1) := by decide +kernel
theorem dX12_tellFits_142 : decode cX12_tellFits 142 = .ok (.iadd, 1) := by decide +kernel
theorem dX12_tellFits_143 : decode cX12_tellFits 143 = .ok (.iaload, 1) := by decide +kernel
theorem dX12_tellFits_144 : decode cX12_tellFits 144 = .ok (.iastore, 1) := by decide +kernel
theorem dX12_tellFits_145 : decode cX12_tellFits 145 = .ok (.iinc 5 1, 3) := by decide +kernel
theorem dX12_tellFits_148 : decode cX12_tellFits 148 = .ok (.goto (-112), 3) := by decide +kernel
theorem dX12_tellFits_151 : decode cX12_tellFits 151 = .ok (.aload_n 0, 1) := by decide +kernel
theorem dX12_tellFits_152 : decode cX12_tellFits 152 = .ok (.getfield 103, 3) := by decide +kernel
theorem dX12_tellFits_155 : decode cX12_tellFits 155 = .ok (.iload_n 3, 1) := by decide +kernel
theorem dX12_tellFits_156 : decode cX12_tellFits 156 = .ok (.iload 4, 2) := by decide +kernel
theorem dX12_tellFits_158 : decode cX12_tellFits 158 = .ok (.bastore, 1) := by decide +kernel
theorem dX12_tellFits_159 : decode cX12_tellFits 159 = .ok (.aload_n 0, 1) := by decide +kernel
theorem dX12_tellFits_160 : decode cX12_tellFits 160 = .ok (.invokevirtual 359, 3) := by decide +kernel
theorem dX12_tellFits_163 : decode cX12_tellFits 163 = .ok (.iinc 3 1, 3) := by decide +kernel
theorem dX12_tellFits_166 : decode cX12_tellFits 166 = .ok (.goto (-155), 3) := by decide +kernel
theorem dX12_tellFits_169 : decode cX12_tellFits 169 = .ok (.aload_n 0, 1) := by decide +kernel
theorem dX12_tellFits_170 : decode cX12_tellFits 170 = .ok (.getfield 62, 3) := by decide +kernel
theorem dX12_tellFits_173 : decode cX12_tellFits 173 = .ok (.iconst 0, 1) := by decide +kernel
theorem dX12_tellFits_174 : decode cX12_tellFits 174 = .ok (.iload_n 1, 1) := by decide +kernel
theorem dX12_tellFits_175 : decode cX12_tellFits 175 = .ok (.iadd, 1) := by decide +kernel
theorem dX12_tellFits_176 : decode cX12_tellFits 176 = .ok (.iload_n 2, 1) := by decide +kernel
theorem dX12_tellFits_177 : decode cX12_tellFits 177 = .ok (.iastore, 1) := by decide +kernel
theorem dX12_tellFits_178 : decode cX12_tellFits 178 = .ok (.return_, 1) := by decide +kernel
theorem dX12_fits_0 : decode cX12_fits 0 = .ok (.aload_n 0, 1) := by decide +kernel
theorem dX12_fits_1 : decode cX12_fits 1 = .ok (.iconst 0, 1) := by decide +kernel
theorem dX12_fits_2 : decode cX12_fits 2 = .ok (.putfield 131, 3) := by decide +kernel
theorem dX12_fits_5 : decode cX12_fits 5 = .ok (.aload_n 0, 1) := by decide +kernel
theorem dX12_fits_6 : decode cX12_fits 6 = .ok (.iload_n 1, 1) := by decide +kernel
theorem dX12_fits_7 : decode cX12_fits 7 = .ok (.invokevirtual 382, 3) := by decide +kernel
theorem dX12_fits_10 : decode cX12_fits 10 = .ok (.ifCond .eq 12, 3) := by decide +kernel
theorem dX12_fits_13 : decode cX12_fits 13 = .ok (.iload_n 2, 1) := by decide +kernel
theorem dX12_fits_14 : decode cX12_fits 14 = .ok (.iconst 0, 1) := by decide +kernel
theorem dX12_fits_15 : decode cX12_fits 15 = .ok (.iconst 1, 1) := by decide +kernel
theorem dX12_fits_16 : decode cX12_fits 16 = .ok (.invokestatic 378, 3) := by decide +kernel
theorem dX12_fits_19 : decode cX12_fits 19 = .ok (.ifCond .ne 9, 3) := by decide +kernel
theorem dX12_fits_22 : decode cX12_fits 22 = .ok (.aload_n 0, 1) := by decide +kernel
theorem dX12_fits_23 : decode cX12_fits 23 = .ok (.iconst 1, 1) := by decide +kernel
theorem dX12_fits_24 : decode cX12_fits 24 = .ok (.invokevirtual 245, 3) := by decide +kernel
theorem dX12_fits_27 : decode cX12_fits 27 = .ok (.ireturn, 1) := by decide +kernel
theorem dX12_fits_28 : decode cX12_fits 28 = .ok (.aload_n 0, 1) := by decide +kernel
theorem dX12_fits_29 : decode cX12_fits 29 = .ok (.iload_n 1, 1) := by decide +kernel
theorem dX12_fits_30 : decode cX12_fits 30 = .ok (.invokevirtual 412, 3) := by decide +kernel
theorem dX12_fits_33 : decode cX12_fits 33 = .ok (.iconst 0, 1) := by decide +kernel
theorem dX12_fits_34 : decode cX12_fits 34 = .ok (.istore_n 3, 1) := by decide +kernel
theorem dX12_fits_35 : decode cX12_fits 35 = .ok (.iconst (-1), 1) := by decide +kernel
theorem dX12_fits_36 : decode cX12_fits 36 = .ok (.istore 4, 2) := by decide +kernel
theorem dX12_fits_38 : decode cX12_fits 38 = .ok (.bipush 50, 2) := by decide +kernel
theorem dX12_fits_40 : decode cX12_fits 40 = .ok (.istore 5, 2) := by decide +kernel
theorem dX12_fits_42 : decode cX12_fits 42 = .ok (.iload 5, 2) := by decide +kernel
theorem dX12_fits_44 : decode cX12_fits 44 = .ok (.ifCond .le 29, 3) := by decide +kernel
theorem dX12_fits_47 : decode cX12_fits 47 = .ok (.aload_n 0, 1) := by decide +kernel
theorem dX12_fits_48 : decode cX12_fits 48 = .ok (.getfield 103, 3) := by decide +kernel
theorem dX12_fits_51 : decode cX12_fits 51 = .ok (.iload 5, 2) := by decide +kernel
theorem dX12_fits_53 : decode cX12_fits 53 = .ok (.baload, 1) := by decide +kernel
theorem dX12_fits_54 : decode cX12_fits 54 = .ok (.ifCond .ne 6, 3) := by decide +kernel
theorem dX12_fits_57 : decode cX12_fits 57 = .ok (.goto 10, 3) := by decide +kernel
theorem dX12_fits_60 : decode cX12_fits 60 = .ok (.iinc 3 1, 3) := by decide +kernel
theorem dX12_fits_63 : decode cX12_fits 63 = .ok (.iload 5, 2) := by decide +kernel
theorem dX12_fits_65 : decode cX12_fits 65 = .ok (.istore 4, 2) := by decide +kernel
theorem dX12_fits_67 : decode cX12_fits 67 = .ok (.iinc 5 (-1), 3) := by decide +kernel
theorem dX12_fits_70 : decode cX12_fits 70 = .ok (.goto (-28), 3) := by decide +kernel
theorem dX12_fits_73 : decode cX12_fits 73 = .ok (.iload_n 2, 1) := by decide +kernel
theorem dX12_fits_74 : decode cX12_fits 74 = .ok (.ifCond .ne 7, 3) := by decide +kernel
theorem dX12_fits_77 : decode cX12_fits 77 = .ok (.iload_n 3, 1) := by decide +kernel
theorem dX12_fits_78 : decode cX12_fits 78 = .ok (.goto 5, 3) := by decide +kernel
theorem dX12_fits_81 : decode cX12_fits 81 = .ok (.iload 4, 2) := by decide +kernel
theorem dX12_fits_83 : decode cX12_fits 83 = .ok (.ireturn, 1) := by decide +kernel
theorem dX12_unlike_0 : decode cX12_unlike 0 = .ok (.iconst 0, 1) := by decide +kernel
theorem dX12_unlike_1 : decode cX12_unlike 1 = .ok (.istore_n 2, 1) := by decide +kernel
theorem dX12_unlike_2 : decode cX12_unlike 2 = .ok (.iconst 1, 1) := by decide +kernel
theorem dX12_unlike_3 : decode cX12_unlike 3 = .ok (.istore_n 3, 1) := by decide +kernel
theorem dX12_unlike_4 : decode cX12_unlike 4 = .ok (.iload_n 3, 1) := by decide +kernel
theorem dX12_unlike_5 : decode cX12_unlike 5 = .ok (.bipush 50, 2) := by decide +kernel
theorem dX12_unlike_7 : decode cX12_unlike 7 = .ok (.if_icmp .gt 93, 3) := by decide +kernel
theorem dX12_unlike_10 : decode cX12_unlike 10 = .ok (.aload_n 0, 1) := by decide +kernel
theorem dX12_unlike_11 : decode cX12_unlike 11 = .ok (.getfield 103, 3) := by decide +kernel
theorem dX12_unlike_14 : decode cX12_unlike 14 = .ok (.iload_n 3, 1) := by decide +kernel
theorem dX12_unlike_15 : decode cX12_unlike 15 = .ok (.baload, 1) := by decide +kernel
theorem dX12_unlike_16 : decode cX12_unlike 16 = .ok (.istore 4, 2) := by decide +kernel
theorem dX12_unlike_18 : decode cX12_unlike 18 = .ok (.iconst 1, 1) := by decide +kernel
theorem dX12_unlike_19 : decode cX12_unlike 19 = .ok (.istore 5, 2) := by decide +kernel
theorem dX12_unlike_21 : decode cX12_unlike 21 = .ok (.iload 5, 2) := by decide +kernel
theorem dX12_unlike_23 : decode cX12_unlike 23 = .ok (.iload_n 3, 1) := by decide +kernel
theorem dX12_unlike_24 : decode cX12_unlike 24 = .ok (.if_icmp .ge 57, 3) := by decide +kernel
theorem dX12_unlike_27 : decode cX12_unlike 27 = .ok (.iload 4, 2) := by decide +kernel
theorem dX12_unlike_29 : decode cX12_unlike 29 = .ok (.ifCond .eq 52, 3) := by decide +kernel
theorem dX12_unlike_32 : decode cX12_unlike 32 = .ok (.aload_n 0, 1) := by decide +kernel
theorem dX12_unlike_33 : decode cX12_unlike 33 = .ok (.getfield 103, 3) := by decide +kernel
theorem dX12_unlike_36 : decode cX12_unlike 36 = .ok (.iload 5, 2) := by decide +kernel
theorem dX12_unlike_38 : decode cX12_unlike 38 = .ok (.baload, 1) := by decide +kernel
theorem dX12_unlike_39 : decode cX12_unlike 39 = .ok (.ifCond .eq 29, 3) := by decide +kernel
theorem dX12_unlike_42 : decode cX12_unlike 42 = .ok (.aload_n 0, 1) := by decide +kernel
theorem dX12_unlike_43 : decode cX12_unlike 43 = .ok (.getfield 106, 3) := by decide +kernel
theorem dX12_unlike_46 : decode cX12_unlike 46 = .ok (.bipush 21, 2) := by decide +kernel
theorem dX12_unlike_48 : decode cX12_unlike 48 = .ok (.iload 5, 2) := by decide +kernel
theorem dX12_unlike_50 : decode cX12_unlike 50 = .ok (.imul, 1) := by decide +kernel
theorem dX12_unlike_51 : decode cX12_unlike 51 = .ok (.iload_n 1, 1) := by decide +kernel
theorem dX12_unlike_52 : decode cX12_unlike 52 = .ok (.iadd, 1) := by decide +kernel
theorem dX12_unlike_53 : decode cX12_unlike 53 = .ok (.iaload, 1) := by decide +kernel
theorem dX12_unlike_54 : decode cX12_unlike 54 = .ok (.aload_n 0, 1) := by decide +kernel
theorem dX12_unlike_55 : decode cX12_unlike 55 = .ok (.getfield 106, 3) := by decide +kernel
theorem dX12_unlike_58 : decode cX12_unlike 58 = .ok (.bipush 21, 2) := by decide +kernel
theorem dX12_unlike_60 : decode cX12_unlike 60 = .ok (.iload_n 3, 1) := by decide +kernel
theorem dX12_unlike_61 : decode cX12_unlike 61 = .ok (.imul, 1) := by decide +kernel
theorem dX12_unlike_62 : decode cX12_unlike 62 = .ok (.iload_n 1, 1) := by decide +kernel
theorem dX12_unlike_63 : decode cX12_unlike 63 = .ok (.iadd, 1) := by decide +kernel
theorem dX12_unlike_64 : decode cX12_unlike 64 = .ok (.iaload, 1) := by decide +kernel
theorem dX12_unlike_65 : decode cX12_unlike 65 = .ok (.if_icmp .eq 7, 3) := by decide +kernel
theorem dX12_unlike_68 : decode cX12_unlike 68 = .ok (.iconst 1, 1) := by decide +kernel
theorem dX12_unlike_69 : decode cX12_unlike 69 = .ok (.goto 4, 3) := by decide +kernel
theorem dX12_unlike_72 : decode cX12_unlike 72 = .ok (.iconst 0, 1) := by decide +kernel
theorem dX12_unlike_73 : decode cX12_unlike 73 = .ok (.istore 4, 2) := by decide +kernel
theorem dX12_unlike_75 : decode cX12_unlike 75 = .ok (.iinc 5 1, 3) := by decide +kernel
theorem dX12_unlike_78 : decode cX12_unlike 78 = .ok (.goto (-57), 3) := by decide +kernel
theorem dX12_unlike_81 : decode cX12_unlike 81 = .ok (.iload_n 2, 1) := by decide +kernel
theorem dX12_unlike_82 : decode cX12_unlike 82 = .ok (.iload 4, 2) := by decide +kernel
theorem dX12_unlike_84 : decode cX12_unlike 84 = .ok (.ifCond .eq 7, 3) := by decide +kernel
theorem dX12_unlike_87 : decode cX12_unlike 87 = .ok (.iconst 1, 1) := by decide +kernel
theorem dX12_unlike_88 : decode cX12_unlike 88 = .ok (.goto 4, 3) := by decide +kernel
theorem dX12_unlike_91 : decode cX12_unlike 91 = .ok (.iconst 0, 1) := by decide +kernel
theorem dX12_unlike_92 : decode cX12_unlike 92 = .ok (.iadd, 1) := by decide +kernel
theorem dX12_unlike_93 : decode cX12_unlike 93 = .ok (.istore_n 2, 1) := by decide +kernel
theorem dX12_unlike_94 : decode cX12_unlike 94 = .ok (.iinc 3 1, 3) := by decide +kernel
theorem dX12_unlike_97 : decode cX12_unlike 97 = .ok (.goto (-93), 3) := by decide +kernel
theorem dX12_unlike_100 : decode cX12_unlike 100 = .ok (.iload_n 2, 1) := by decide +kernel
theorem dX12_unlike_101 : decode cX12_unlike 101 = .ok (.ireturn, 1) := by decide +kernel
theorem dX12_look_0 : decode cX12_look 0 = .ok (.aload_n 0, 1) := by decide +kernel
theorem dX12_look_1 : decode cX12_look 1 = .ok (.iconst 0, 1) := by decide +kernel
theorem dX12_look_2 : decode cX12_look 2 = .ok (.putfield 131, 3) := by decide +kernel
theorem dX12_look_5 : decode cX12_look 5 = .ok (.aload_n 0, 1) := by decide +kernel
theorem dX12_look_6 : decode cX12_look 6 = .ok (.iload_n 1, 1) := by decide +kernel
theorem dX12_look_7 : decode cX12_look 7 = .ok (.invokevirtual 382, 3) := by decide +kernel
theorem dX12_look_10 : decode cX12_look 10 = .ok (.ifCond .eq 12, 3) := by decide +kernel
theorem dX12_look_13 : decode cX12_look 13 = .ok (.iload_n 2, 1) := by decide +kernel
theorem dX12_look_14 : decode cX12_look 14 = .ok (.iconst 0, 1) := by decide +kernel
theorem dX12_look_15 : decode cX12_look 15 = .ok (.iconst 1, 1) := by decide +kernel
theorem dX12_look_16 : decode cX12_look 16 = .ok (.invokestatic 378, 3) := by decide +kernel
theorem dX12_look_19 : decode cX12_look 19 = .ok (.ifCond .ne 9, 3) := by decide +kernel
theorem dX12_look_22 : decode cX12_look 22 = .ok (.aload_n 0, 1) := by decide +kernel
theorem dX12_look_23 : decode cX12_look 23 = .ok (.iconst 1, 1) := by decide +kernel
theorem dX12_look_24 : decode cX12_look 24 = .ok (.invokevirtual 245, 3) := by decide +kernel
theorem dX12_look_27 : decode cX12_look 27 = .ok (.ireturn, 1) := by decide +kernel
theorem dX12_look_28 : decode cX12_look 28 = .ok (.aload_n 0, 1) := by decide +kernel
theorem dX12_look_29 : decode cX12_look 29 = .ok (.iload_n 1, 1) := by decide +kernel
theorem dX12_look_30 : decode cX12_look 30 = .ok (.invokevirtual 412, 3) := by decide +kernel
theorem dX12_look_33 : decode cX12_look 33 = .ok (.iconst (-1), 1) := by decide +kernel
theorem dX12_look_34 : decode cX12_look 34 = .ok (.istore_n 3, 1) := by decide +kernel
theorem dX12_look_35 : decode cX12_look 35 = .ok (.iconst 0, 1) := by decide +kernel
theorem dX12_look_36 : decode cX12_look 36 = .ok (.istore 4, 2) := by decide +kernel
theorem dX12_look_38 : decode cX12_look 38 = .ok (.iconst 0, 1) := by decide +kernel
theorem dX12_look_39 : decode cX12_look 39 = .ok (.istore 5, 2) := by decide +kernel
theorem dX12_look_41 : decode cX12_look 41 = .ok (.iload 5, 2) := by decide +kernel
theorem dX12_look_43 : decode cX12_look 43 = .ok (.bipush 20, 2) := by decide +kernel
theorem dX12_look_45 : decode cX12_look 45 = .ok (.if_icmp .gt 34, 3) := by decide +kernel
theorem dX12_look_48 : decode cX12_look 48 = .ok (.aload_n 0, 1) := by decide +kernel
theorem dX12_look_49 : decode cX12_look 49 = .ok (.iload 5, 2) := by decide +kernel
theorem dX12_look_51 : decode cX12_look 51 = .ok (.invokevirtual 415, 3) := by decide +kernel
theorem dX12_look_54 : decode cX12_look 54 = .ok (.istore 6, 2) := by decide +kernel
theorem dX12_look_56 : decode cX12_look 56 = .ok (.iload 6, 2) := by decide +kernel
theorem dX12_look_58 : decode cX12_look 58 = .ok (.iload 4, 2) := by decide +kernel
theorem dX12_look_60 : decode cX12_look 60 = .ok (.if_icmp .gt 6, 3) := by decide +kernel
theorem dX12_look_63 : decode cX12_look 63 = .ok (.goto 10, 3) := by decide +kernel
theorem dX12_look_66 : decode cX12_look 66 = .ok (.iload 5, 2) := by decide +kernel
theorem dX12_look_68 : decode cX12_look 68 = .ok (.istore_n 3, 1) := by decide +kernel
theorem dX12_look_69 : decode cX12_look 69 = .ok (.iload 6, 2) := by decide +kernel
theorem dX12_look_71 : decode cX12_look 71 = .ok (.istore 4, 2) := by decide +kernel
theorem dX12_look_73 : decode cX12_look 73 = .ok (.iinc 5 1, 3) := by decide +kernel
theorem dX12_look_76 : decode cX12_look 76 = .ok (.goto (-35), 3) := by decide +kernel
theorem dX12_look_79 : decode cX12_look 79 = .ok (.iload_n 2, 1) := by decide +kernel
theorem dX12_look_80 : decode cX12_look 80 = .ok (.ifCond .ne 7, 3) := by decide +kernel
theorem dX12_look_83 : decode cX12_look 83 = .ok (.iload_n 3, 1) := by decide +kernel
theorem dX12_look_84 : decode cX12_look 84 = .ok (.goto 5, 3) := by decide +kernel
theorem dX12_look_87 : decode cX12_look 87 = .ok (.iload 4, 2) := by decide +kernel
theorem dX12_look_89 : decode cX12_look 89 = .ok (.ireturn, 1) := by decide +kernel
theorem dX12_draw_0 : decode cX12_draw 0 = .ok (.aload_n 0, 1) := by decide +kernel
theorem dX12_draw_1 : decode cX12_draw 1 = .ok (.aload_n 0, 1) := by decide +kernel
theorem dX12_draw_2 : decode cX12_draw 2 = .ok (.getfield 418, 3) := by decide +kernel
theorem dX12_draw_5 : decode cX12_draw 5 = .ok (.ldc_w 421, 3) := by decide +kernel
theorem dX12_draw_8 : decode cX12_draw 8 = .ok (.imul, 1) := by decide +kernel
theorem dX12_draw_9 : decode cX12_draw 9 = .ok (.sipush 12345, 3) := by decide +kernel
theorem dX12_draw_12 : decode cX12_draw 12 = .ok (.iadd, 1) := by decide +kernel
theorem dX12_draw_13 : decode cX12_draw 13 = .ok (.putfield 418, 3) := by decide +kernel
theorem dX12_draw_16 : decode cX12_draw 16 = .ok (.aload_n 0, 1) := by decide +kernel
theorem dX12_draw_17 : decode cX12_draw 17 = .ok (.getfield 418, 3) := by decide +kernel
theorem dX12_draw_20 : decode cX12_draw 20 = .ok (.bipush 16, 2) := by decide +kernel
theorem dX12_draw_22 : decode cX12_draw 22 = .ok (.ishr, 1) := by decide +kernel
theorem dX12_draw_23 : decode cX12_draw 23 = .ok (.sipush 32767, 3) := by decide +kernel
theorem dX12_draw_26 : decode cX12_draw 26 = .ok (.iand, 1) := by decide +kernel
theorem dX12_draw_27 : decode cX12_draw 27 = .ok (.iload_n 1, 1) := by decide +kernel
theorem dX12_draw_28 : decode cX12_draw 28 = .ok (.irem, 1) := by decide +kernel
theorem dX12_draw_29 : decode cX12_draw 29 = .ok (.ireturn, 1) := by decide +kernel
theorem dX12_years_0 : decode cX12_years 0 = .ok (.aload_n 0, 1) := by decide +kernel
theorem dX12_years_1 : decode cX12_years 1 = .ok (.iconst 0, 1) := by decide +kernel
theorem dX12_years_2 : decode cX12_years 2 = .ok (.putfield 131, 3) := by decide +kernel
theorem dX12_years_5 : decode cX12_years 5 = .ok (.iload_n 3, 1) := by decide +kernel
theorem dX12_years_6 : decode cX12_years 6 = .ok (.iconst 0, 1) := by decide +kernel
theorem dX12_years_7 : decode cX12_years 7 = .ok (.iconst 2, 1) := by decide +kernel
theorem dX12_years_8 : decode cX12_years 8 = .ok (.invokestatic 378, 3) := by decide +kernel
theorem dX12_years_11 : decode cX12_years 11 = .ok (.ifCond .ne 9, 3) := by decide +kernel
theorem dX12_years_14 : decode cX12_years 14 = .ok (.aload_n 0, 1) := by decide +kernel
theorem dX12_years_15 : decode cX12_years 15 = .ok (.iconst 1, 1) := by decide +kernel
theorem dX12_years_16 : decode cX12_years 16 = .ok (.invokevirtual 245, 3) := by decide +kernel
theorem dX12_years_19 : decode cX12_years 19 = .ok (.ireturn, 1) := by decide +kernel
theorem dX12_years_20 : decode cX12_years 20 = .ok (.iload_n 2, 1) := by decide +kernel
theorem dX12_years_21 : decode cX12_years 21 = .ok (.iconst 0, 1) := by decide +kernel
theorem dX12_years_22 : decode cX12_years 22 = .ok (.bipush 60, 2) := by decide +kernel
theorem dX12_years_24 : decode cX12_years 24 = .ok (.invokestatic 378, 3) := by decide +kernel
theorem dX12_years_27 : decode cX12_years 27 = .ok (.ifCond .ne 9, 3) := by decide +kernel
theorem dX12_years_30 : decode cX12_years 30 = .ok (.aload_n 0, 1) := by decide +kernel
theorem dX12_years_31 : decode cX12_years 31 = .ok (.iconst 2, 1) := by decide +kernel
theorem dX12_years_32 : decode cX12_years 32 = .ok (.invokevirtual 245, 3) := by decide +kernel
theorem dX12_years_35 : decode cX12_years 35 = .ok (.ireturn, 1) := by decide +kernel
theorem dX12_years_36 : decode cX12_years 36 = .ok (.aload_n 0, 1) := by decide +kernel
theorem dX12_years_37 : decode cX12_years 37 = .ok (.invokevirtual 342, 3) := by decide +kernel
theorem dX12_years_40 : decode cX12_years 40 = .ok (.aload_n 0, 1) := by decide +kernel
theorem dX12_years_41 : decode cX12_years 41 = .ok (.iload_n 1, 1) := by decide +kernel
theorem dX12_years_42 : decode cX12_years 42 = .ok (.putfield 418, 3) := by decide +kernel
theorem dX12_years_45 : decode cX12_years 45 = .ok (.iconst 0, 1) := by decide +kernel
theorem dX12_years_46 : decode cX12_years 46 = .ok (.istore 4, 2) := by decide +kernel
theorem dX12_years_48 : decode cX12_years 48 = .ok (.iconst 0, 1) := by decide +kernel
theorem dX12_years_49 : decode cX12_years 49 = .ok (.istore 5, 2) := by decide +kernel
theorem dX12_years_51 : decode cX12_years 51 = .ok (.iload 5, 2) := by decide +kernel
theorem dX12_years_53 : decode cX12_years 53 = .ok (.iload_n 2, 1) := by decide +kernel
theorem dX12_years_54 : decode cX12_years 54 = .ok (.if_icmp .ge 87, 3) := by decide +kernel
theorem dX12_years_57 : decode cX12_years 57 = .ok (.aload_n 0, 1) := by decide +kernel
theorem dX12_years_58 : decode cX12_years 58 = .ok (.iconst 4, 1) := by decide +kernel
theorem dX12_years_59 : decode cX12_years 59 = .ok (.invokevirtual 422, 3) := by decide +kernel
theorem dX12_years_62 : decode cX12_years 62 = .ok (.ifCond .ne 35, 3) := by decide +kernel
theorem dX12_years_65 : decode cX12_years 65 = .ok (.aload_n 0, 1) := by decide +kernel
theorem dX12_years_66 : decode cX12_years 66 = .ok (.invokevirtual 266, 3) := by decide +kernel
theorem dX12_years_69 : decode cX12_years 69 = .ok (.ifCond .le 28, 3) := by decide +kernel
theorem dX12_years_72 : decode cX12_years 72 = .ok (.aload_n 0, 1) := by decide +kernel
theorem dX12_years_73 : decode cX12_years 73 = .ok (.aload_n 0, 1) := by decide +kernel
theorem dX12_years_74 : decode cX12_years 74 = .ok (.invokevirtual 266, 3) := by decide +kernel
theorem dX12_years_77 : decode cX12_years 77 = .ok (.invokevirtual 422, 3) := by decide +kernel
theorem dX12_years_80 : decode cX12_years 80 = .ok (.istore 6, 2) := by decide +kernel
theorem dX12_years_82 : decode cX12_years 82 = .ok (.aload_n 0, 1) := by decide +kernel
theorem dX12_years_83 : decode cX12_years 83 = .ok (.getfield 58, 3) := by decide +kernel
theorem dX12_years_86 : decode cX12_years 86 = .ok (.iconst 5, 1) := by decide +kernel
theorem dX12_years_87 : decode cX12_years 87 = .ok (.iload 6, 2) := by decide +kernel
theorem dX12_years_89 : decode cX12_years 89 = .ok (.iadd, 1) := by decide +kernel
theorem dX12_years_90 : decode cX12_years 90 = .ok (.aload_n 0, 1) := by decide +kernel
theorem dX12_years_91 : decode cX12_years 91 = .ok (.bipush 100, 2) := by decide +kernel
theorem dX12_years_93 : decode cX12_years 93 = .ok (.invokevirtual 422, 3) := by decide +kernel
theorem dX12_years_96 : decode cX12_years 96 = .ok (.iastore, 1) := by decide +kernel
theorem dX12_years_97 : decode cX12_years 97 = .ok (.aload_n 0, 1) := by decide +kernel
theorem dX12_years_98 : decode cX12_years 98 = .ok (.invokevirtual 351, 3) := by decide +kernel
theorem dX12_years_101 : decode cX12_years 101 = .ok (.iconst 0, 1) := by decide +kernel
theorem dX12_years_102 : decode cX12_years 102 = .ok (.istore 6, 2) := by decide +kernel
theorem dX12_years_104 : decode cX12_years 104 = .ok (.iload 6, 2) := by decide +kernel
theorem dX12_years_106 : decode cX12_years 106 = .ok (.aload_n 0, 1) := by decide +kernel
theorem dX12_years_107 : decode cX12_years 107 = .ok (.invokevirtual 266, 3) := by decide +kernel
theorem dX12_years_110 : decode cX12_years 110 = .ok (.if_icmp .ge 25, 3) := by decide +kernel
theorem dX12_years_113 : decode cX12_years 113 = .ok (.iload 4, 2) := by decide +kernel
theorem dX12_years_115 : decode cX12_years 115 = .ok (.aload_n 0, 1) := by decide +kernel
theorem dX12_years_116 : decode cX12_years 116 = .ok (.getfield 58, 3) := by decide +kernel
theorem dX12_years_119 : decode cX12_years 119 = .ok (.iconst 0, 1) := by decide +kernel
theorem dX12_years_120 : decode cX12_years 120 = .ok (.iload 6, 2) := by decide +kernel
theorem dX12_years_122 : decode cX12_years 122 = .ok (.iadd, 1) := by decide +kernel
theorem dX12_years_123 : decode cX12_years 123 = .ok (.iaload, 1) := by decide +kernel
theorem dX12_years_124 : decode cX12_years 124 = .ok (.invokestatic 297, 3) := by decide +kernel
theorem dX12_years_127 : decode cX12_years 127 = .ok (.istore 4, 2) := by decide +kernel
theorem dX12_years_129 : decode cX12_years 129 = .ok (.iinc 6 1, 3) := by decide +kernel
theorem dX12_years_132 : decode cX12_years 132 = .ok (.goto (-28), 3) := by decide +kernel
theorem dX12_years_135 : decode cX12_years 135 = .ok (.iinc 5 1, 3) := by decide +kernel
theorem dX12_years_138 : decode cX12_years 138 = .ok (.goto (-87), 3) := by decide +kernel
theorem dX12_years_141 : decode cX12_years 141 = .ok (.iload_n 3, 1) := by decide +kernel
theorem dX12_years_142 : decode cX12_years 142 = .ok (.ifCond .ne 8, 3) := by decide +kernel
theorem dX12_years_145 : decode cX12_years 145 = .ok (.iload 4, 2) := by decide +kernel
theorem dX12_years_147 : decode cX12_years 147 = .ok (.goto 32, 3) := by decide +kernel
theorem dX12_years_150 : decode cX12_years 150 = .ok (.iload_n 3, 1) := by decide +kernel
theorem dX12_years_151 : decode cX12_years 151 = .ok (.iconst 1, 1) := by decide +kernel
theorem dX12_years_152 : decode cX12_years 152 = .ok (.if_icmp .ne 10, 3) := by decide +kernel
theorem dX12_years_155 : decode cX12_years 155 = .ok (.aload_n 0, 1) := by decide +kernel
theorem dX12_years_156 : decode cX12_years 156 = .ok (.invokevirtual 345, 3) := by decide +kernel
theorem dX12_years_159 : decode cX12_years 159 = .ok (.goto 20, 3) := by decide +kernel
theorem dX12_years_162 : decode cX12_years 162 = .ok (.aload_n 0, 1) := by decide +kernel
theorem dX12_years_163 : decode cX12_years 163 = .ok (.getfield 58, 3) := by decide +kernel
theorem dX12_years_166 : decode cX12_years 166 = .ok (.sipush 144, 3) := by decide +kernel
theorem dX12_years_169 : decode cX12_years 169 = .ok (.iaload, 1) := by decide +kernel
theorem dX12_years_170 : decode cX12_years 170 = .ok (.aload_n 0, 1) := by decide +kernel
theorem dX12_years_171 : decode cX12_years 171 = .ok (.getfield 88, 3) := by decide +kernel
theorem dX12_years_174 : decode cX12_years 174 = .ok (.sipush 144, 3) := by decide +kernel
theorem dX12_years_177 : decode cX12_years 177 = .ok (.iaload, 1) := by decide +kernel
theorem dX12_years_178 : decode cX12_years 178 = .ok (.isub, 1) := by decide +kernel
theorem dX12_years_179 : decode cX12_years 179 = .ok (.istore 5, 2) := by decide +kernel
theorem dX12_years_181 : decode cX12_years 181 = .ok (.aload_n 0, 1) := by decide +kernel
theorem dX12_years_182 : decode cX12_years 182 = .ok (.invokevirtual 359, 3) := by decide +kernel
theorem dX12_years_185 : decode cX12_years 185 = .ok (.iload 5, 2) := by decide +kernel
theorem dX12_years_187 : decode cX12_years 187 = .ok (.ireturn, 1) := by decide +kernel
theorem dX12_image_0 : decode cX12_image 0 = .ok (.aload_n 0, 1) := by decide +kernel
theorem dX12_image_1 : decode cX12_image 1 = .ok (.iconst 0, 1) := by decide +kernel
theorem dX12_image_2 : decode cX12_image 2 = .ok (.putfield 131, 3) := by decide +kernel
theorem dX12_image_5 : decode cX12_image 5 = .ok (.aload_n 0, 1) := by decide +kernel
theorem dX12_image_6 : decode cX12_image 6 = .ok (.iconst 1, 1) := by decide +kernel
theorem dX12_image_7 : decode cX12_image 7 = .ok (.putfield 260, 3) := by decide +kernel
theorem dX12_image_10 : decode cX12_image 10 = .ok (.aload_n 0, 1) := by decide +kernel
theorem dX12_image_11 : decode cX12_image 11 = .ok (.aload_n 0, 1) := by decide +kernel
theorem dX12_image_12 : decode cX12_image 12 = .ok (.getfield 254, 3) := by decide +kernel
theorem dX12_image_15 : decode cX12_image 15 = .ok (.putfield 425, 3) := by decide +kernel
theorem dX12_image_18 : decode cX12_image 18 = .ok (.aload_n 0, 1) := by decide +kernel
theorem dX12_image_19 : decode cX12_image 19 = .ok (.aload_n 0, 1) := by decide +kernel
theorem dX12_image_20 : decode cX12_image 20 = .ok (.getfield 257, 3) := by decide +kernel
theorem dX12_image_23 : decode cX12_image 23 = .ok (.putfield 428, 3) := by decide +kernel
theorem dX12_image_26 : decode cX12_image 26 = .ok (.aload_n 0, 1) := by decide +kernel
theorem dX12_image_27 : decode cX12_image 27 = .ok (.getfield 109, 3) := by decide +kernel
theorem dX12_image_30 : decode cX12_image 30 = .ok (.aload_n 0, 1) := by decide +kernel
theorem dX12_image_31 : decode cX12_image 31 = .ok (.getfield 58, 3) := by decide +kernel
theorem dX12_image_34 : decode cX12_image 34 = .ok (.invokestatic 251, 3) := by decide +kernel
theorem dX12_image_37 : decode cX12_image 37 = .ok (.aload_n 0, 1) := by decide +kernel
theorem dX12_image_38 : decode cX12_image 38 = .ok (.getfield 112, 3) := by decide +kernel
theorem dX12_image_41 : decode cX12_image 41 = .ok (.aload_n 0, 1) := by decide +kernel
theorem dX12_image_42 : decode cX12_image 42 = .ok (.getfield 91, 3) := by decide +kernel
theorem dX12_image_45 : decode cX12_image 45 = .ok (.invokestatic 251, 3) := by decide +kernel
theorem dX12_image_48 : decode cX12_image 48 = .ok (.aload_n 0, 1) := by decide +kernel
theorem dX12_image_49 : decode cX12_image 49 = .ok (.getfield 115, 3) := by decide +kernel
theorem dX12_image_52 : decode cX12_image 52 = .ok (.aload_n 0, 1) := by decide +kernel
theorem dX12_image_53 : decode cX12_image 53 = .ok (.getfield 94, 3) := by decide +kernel
theorem dX12_image_56 : decode cX12_image 56 = .ok (.invokestatic 251, 3) := by decide +kernel
theorem dX12_image_59 : decode cX12_image 59 = .ok (.aload_n 0, 1) := by decide +kernel
theorem dX12_image_60 : decode cX12_image 60 = .ok (.getfield 118, 3) := by decide +kernel
theorem dX12_image_63 : decode cX12_image 63 = .ok (.aload_n 0, 1) := by decide +kernel
theorem dX12_image_64 : decode cX12_image 64 = .ok (.getfield 97, 3) := by decide +kernel
theorem dX12_image_67 : decode cX12_image 67 = .ok (.invokestatic 251, 3) := by decide +kernel
theorem dX12_image_70 : decode cX12_image 70 = .ok (.aload_n 0, 1) := by decide +kernel
theorem dX12_image_71 : decode cX12_image 71 = .ok (.getfield 121, 3) := by decide +kernel
theorem dX12_image_74 : decode cX12_image 74 = .ok (.aload_n 0, 1) := by decide +kernel
theorem dX12_image_75 : decode cX12_image 75 = .ok (.getfield 100, 3) := by decide +kernel
theorem dX12_image_78 : decode cX12_image 78 = .ok (.invokestatic 251, 3) := by decide +kernel
theorem dX12_image_81 : decode cX12_image 81 = .ok (.aload_n 0, 1) := by decide +kernel
theorem dX12_image_82 : decode cX12_image 82 = .ok (.getfield 124, 3) := by decide +kernel
theorem dX12_image_85 : decode cX12_image 85 = .ok (.aload_n 0, 1) := by decide +kernel
theorem dX12_image_86 : decode cX12_image 86 = .ok (.getfield 71, 3) := by decide +kernel
theorem dX12_image_89 : decode cX12_image 89 = .ok (.invokestatic 251, 3) := by decide +kernel
theorem dX12_image_92 : decode cX12_image 92 = .ok (.return_, 1) := by decide +kernel
theorem dX12_restore_0 : decode cX12_restore 0 = .ok (.aload_n 0, 1) := by decide +kernel
theorem dX12_restore_1 : decode cX12_restore 1 = .ok (.iconst 0, 1) := by decide +kernel
theorem dX12_restore_2 : decode cX12_restore 2 = .ok (.putfield 131, 3) := by decide +kernel
theorem dX12_restore_5 : decode cX12_restore 5 = .ok (.aload_n 0, 1) := by decide +kernel
theorem dX12_restore_6 : decode cX12_restore 6 = .ok (.getfield 260, 3) := by decide +kernel
theorem dX12_restore_9 : decode cX12_restore 9 = .ok (.ifCond .ne 5, 3) := by decide +kernel
theorem dX12_restore_12 : decode cX12_restore 12 = .ok (.iconst 0, 1) := by decide +kernel
theorem dX12_restore_13 : decode cX12_restore 13 = .ok (.ireturn, 1) := by decide +kernel
theorem dX12_restore_14 : decode cX12_restore 14 = .ok (.aload_n 0, 1) := by decide +kernel
theorem dX12_restore_15 : decode cX12_restore 15 = .ok (.aload_n 0, 1) := by decide +kernel
theorem dX12_restore_16 : decode cX12_restore 16 = .ok (.getfield 425, 3) := by decide +kernel
theorem dX12_restore_19 : decode cX12_restore 19 = .ok (.putfield 254, 3) := by decide +kernel
theorem dX12_restore_22 : decode cX12_restore 22 = .ok (.aload_n 0, 1) := by decide +kernel
theorem dX12_restore_23 : decode cX12_restore 23 = .ok (.aload_n 0, 1) := by decide +kernel
theorem dX12_restore_24 : decode cX12_restore 24 = .ok (.getfield 428, 3) := by decide +kernel
theorem dX12_restore_27 : decode cX12_restore 27 = .ok (.putfield 257, 3) := by decide +kernel
theorem dX12_restore_30 : decode cX12_restore 30 = .ok (.aload_n 0, 1) := by decide +kernel
theorem dX12_restore_31 : decode cX12_restore 31 = .ok (.getfield 58, 3) := by decide +kernel
theorem dX12_restore_34 : decode cX12_restore 34 = .ok (.aload_n 0, 1) := by decide +kernel
theorem dX12_restore_35 : decode cX12_restore 35 = .ok (.getfield 109, 3) := by decide +kernel
theorem dX12_restore_38 : decode cX12_restore 38 = .ok (.invokestatic 251, 3) := by decide +kernel
theorem dX12_restore_41 : decode cX12_restore 41 = .ok (.aload_n 0, 1) := by decide +kernel
theorem dX12_restore_42 : decode cX12_restore 42 = .ok (.getfield 91, 3) := by decide +kernel
theorem dX12_restore_45 : decode cX12_restore 45 = .ok (.aload_n 0, 1) := by decide +kernel
theorem dX12_restore_46 : decode cX12_restore 46 = .ok (.getfield 112, 3) := by decide +kernel
