theorem dX11_years_6 : decode cX11_years 6 = .ok (.iconst 0, 1) := by decide +kernel
theorem dX11_years_7 : decode cX11_years 7 = .ok (.bipush 60, 2) := by decide +kernel
theorem dX11_years_9 : decode cX11_years 9 = .ok (.invokestatic 289, 3) := by decide +kernel
theorem dX11_years_12 : decode cX11_years 12 = .ok (.aload_n 0, 1) := by decide +kernel
theorem dX11_years_13 : decode cX11_years 13 = .ok (.getfield 67, 3) := by decide +kernel
theorem dX11_years_16 : decode cX11_years 16 = .ok (.aload_n 0, 1) := by decide +kernel
theorem dX11_years_17 : decode cX11_years 17 = .ok (.getfield 44, 3) := by decide +kernel
theorem dX11_years_20 : decode cX11_years 20 = .ok (.getfield 96, 3) := by decide +kernel
theorem dX11_years_23 : decode cX11_years 23 = .ok (.iload_n 1, 1) := by decide +kernel
theorem dX11_years_24 : decode cX11_years 24 = .ok (.iload_n 2, 1) := by decide +kernel
theorem dX11_years_25 : decode cX11_years 25 = .ok (.invokevirtual 356, 3) := by decide +kernel
theorem dX11_years_28 : decode cX11_years 28 = .ok (.istore 4, 2) := by decide +kernel
theorem dX11_years_30 : decode cX11_years 30 = .ok (.iload_n 3, 1) := by decide +kernel
theorem dX11_years_31 : decode cX11_years 31 = .ok (.lookupswitch 39 #[(0, 25), (1, 28)], 25) := by decide +kernel
theorem dX11_years_56 : decode cX11_years 56 = .ok (.iload 4, 2) := by decide +kernel
theorem dX11_years_58 : decode cX11_years 58 = .ok (.ireturn, 1) := by decide +kernel
theorem dX11_years_59 : decode cX11_years 59 = .ok (.aload_n 0, 1) := by decide +kernel
theorem dX11_years_60 : decode cX11_years 60 = .ok (.getfield 67, 3) := by decide +kernel
theorem dX11_years_63 : decode cX11_years 63 = .ok (.getfield 359, 3) := by decide +kernel
theorem dX11_years_66 : decode cX11_years 66 = .ok (.invokevirtual 123, 3) := by decide +kernel
theorem dX11_years_69 : decode cX11_years 69 = .ok (.ireturn, 1) := by decide +kernel
theorem dX11_years_70 : decode cX11_years 70 = .ok (.aload_n 0, 1) := by decide +kernel
theorem dX11_years_71 : decode cX11_years 71 = .ok (.getfield 67, 3) := by decide +kernel
theorem dX11_years_74 : decode cX11_years 74 = .ok (.getfield 359, 3) := by decide +kernel
theorem dX11_years_77 : decode cX11_years 77 = .ok (.getfield 362, 3) := by decide +kernel
theorem dX11_years_80 : decode cX11_years 80 = .ok (.aload_n 0, 1) := by decide +kernel
theorem dX11_years_81 : decode cX11_years 81 = .ok (.getfield 44, 3) := by decide +kernel
theorem dX11_years_84 : decode cX11_years 84 = .ok (.getfield 96, 3) := by decide +kernel
theorem dX11_years_87 : decode cX11_years 87 = .ok (.getfield 362, 3) := by decide +kernel
theorem dX11_years_90 : decode cX11_years 90 = .ok (.isub, 1) := by decide +kernel
theorem dX11_years_91 : decode cX11_years 91 = .ok (.ireturn, 1) := by decide +kernel
theorem dX11_image_0 : decode cX11_image 0 = .ok (.aload_n 0, 1) := by decide +kernel
theorem dX11_image_1 : decode cX11_image 1 = .ok (.getfield 48, 3) := by decide +kernel
theorem dX11_image_4 : decode cX11_image 4 = .ok (.aload_n 0, 1) := by decide +kernel
theorem dX11_image_5 : decode cX11_image 5 = .ok (.getfield 44, 3) := by decide +kernel
theorem dX11_image_8 : decode cX11_image 8 = .ok (.invokevirtual 365, 3) := by decide +kernel
theorem dX11_image_11 : decode cX11_image 11 = .ok (.aload_n 0, 1) := by decide +kernel
theorem dX11_image_12 : decode cX11_image 12 = .ok (.iconst 1, 1) := by decide +kernel
theorem dX11_image_13 : decode cX11_image 13 = .ok (.putfield 51, 3) := by decide +kernel
theorem dX11_image_16 : decode cX11_image 16 = .ok (.return_, 1) := by decide +kernel
theorem dX11_restore_0 : decode cX11_restore 0 = .ok (.aload_n 0, 1) := by decide +kernel
theorem dX11_restore_1 : decode cX11_restore 1 = .ok (.getfield 51, 3) := by decide +kernel
theorem dX11_restore_4 : decode cX11_restore 4 = .ok (.ifCond .ne 5, 3) := by decide +kernel
theorem dX11_restore_7 : decode cX11_restore 7 = .ok (.iconst 0, 1) := by decide +kernel
theorem dX11_restore_8 : decode cX11_restore 8 = .ok (.ireturn, 1) := by decide +kernel
theorem dX11_restore_9 : decode cX11_restore 9 = .ok (.aload_n 0, 1) := by decide +kernel
theorem dX11_restore_10 : decode cX11_restore 10 = .ok (.getfield 44, 3) := by decide +kernel
theorem dX11_restore_13 : decode cX11_restore 13 = .ok (.aload_n 0, 1) := by decide +kernel
theorem dX11_restore_14 : decode cX11_restore 14 = .ok (.getfield 48, 3) := by decide +kernel
theorem dX11_restore_17 : decode cX11_restore 17 = .ok (.invokevirtual 365, 3) := by decide +kernel
theorem dX11_restore_20 : decode cX11_restore 20 = .ok (.iconst 1, 1) := by decide +kernel
theorem dX11_restore_21 : decode cX11_restore 21 = .ok (.ireturn, 1) := by decide +kernel
theorem dX11_refuseAct_0 : decode cX11_refuseAct 0 = .ok (.aload_n 0, 1) := by decide +kernel
theorem dX11_refuseAct_1 : decode cX11_refuseAct 1 = .ok (.getfield 44, 3) := by decide +kernel
theorem dX11_refuseAct_4 : decode cX11_refuseAct 4 = .ok (.getfield 89, 3) := by decide +kernel
theorem dX11_refuseAct_7 : decode cX11_refuseAct 7 = .ok (.iconst 1, 1) := by decide +kernel
theorem dX11_refuseAct_8 : decode cX11_refuseAct 8 = .ok (.dup2, 1) := by decide +kernel
theorem dX11_refuseAct_9 : decode cX11_refuseAct 9 = .ok (.iaload, 1) := by decide +kernel
theorem dX11_refuseAct_10 : decode cX11_refuseAct 10 = .ok (.iconst 1, 1) := by decide +kernel
theorem dX11_refuseAct_11 : decode cX11_refuseAct 11 = .ok (.iadd, 1) := by decide +kernel
theorem dX11_refuseAct_12 : decode cX11_refuseAct 12 = .ok (.iastore, 1) := by decide +kernel
theorem dX11_refuseAct_13 : decode cX11_refuseAct 13 = .ok (.iload_n 1, 1) := by decide +kernel
theorem dX11_refuseAct_14 : decode cX11_refuseAct 14 = .ok (.ireturn, 1) := by decide +kernel
theorem dX11_needZone_0 : decode cX11_needZone 0 = .ok (.aload_n 0, 1) := by decide +kernel
theorem dX11_needZone_1 : decode cX11_needZone 1 = .ok (.getfield 32, 3) := by decide +kernel
theorem dX11_needZone_4 : decode cX11_needZone 4 = .ok (.iload_n 1, 1) := by decide +kernel
theorem dX11_needZone_5 : decode cX11_needZone 5 = .ok (.invokevirtual 317, 3) := by decide +kernel
theorem dX11_needZone_8 : decode cX11_needZone 8 = .ok (.ifCond .ne 14, 3) := by decide +kernel
theorem dX11_needZone_11 : decode cX11_needZone 11 = .ok (.new 151, 3) := by decide +kernel
theorem dX11_needZone_14 : decode cX11_needZone 14 = .ok (.dup, 1) := by decide +kernel
theorem dX11_needZone_15 : decode cX11_needZone 15 = .ok (.ldc_w 369, 3) := by decide +kernel
theorem dX11_needZone_18 : decode cX11_needZone 18 = .ok (.invokespecial 155, 3) := by decide +kernel
theorem dX11_needZone_21 : decode cX11_needZone 21 = .ok (.athrow, 1) := by decide +kernel
theorem dX11_needZone_22 : decode cX11_needZone 22 = .ok (.return_, 1) := by decide +kernel
theorem dX11_needTrip_0 : decode cX11_needTrip 0 = .ok (.aload_n 0, 1) := by decide +kernel
theorem dX11_needTrip_1 : decode cX11_needTrip 1 = .ok (.getfield 32, 3) := by decide +kernel
theorem dX11_needTrip_4 : decode cX11_needTrip 4 = .ok (.iload_n 1, 1) := by decide +kernel
theorem dX11_needTrip_5 : decode cX11_needTrip 5 = .ok (.invokevirtual 371, 3) := by decide +kernel
theorem dX11_needTrip_8 : decode cX11_needTrip 8 = .ok (.ifCond .ne 14, 3) := by decide +kernel
theorem dX11_needTrip_11 : decode cX11_needTrip 11 = .ok (.new 151, 3) := by decide +kernel
theorem dX11_needTrip_14 : decode cX11_needTrip 14 = .ok (.dup, 1) := by decide +kernel
theorem dX11_needTrip_15 : decode cX11_needTrip 15 = .ok (.ldc_w 374, 3) := by decide +kernel
theorem dX11_needTrip_18 : decode cX11_needTrip 18 = .ok (.invokespecial 155, 3) := by decide +kernel
theorem dX11_needTrip_21 : decode cX11_needTrip 21 = .ok (.athrow, 1) := by decide +kernel
theorem dX11_needTrip_22 : decode cX11_needTrip 22 = .ok (.return_, 1) := by decide +kernel
theorem dX11_needDevice_0 : decode cX11_needDevice 0 = .ok (.aload_n 0, 1) := by decide +kernel
theorem dX11_needDevice_1 : decode cX11_needDevice 1 = .ok (.getfield 32, 3) := by decide +kernel
theorem dX11_needDevice_4 : decode cX11_needDevice 4 = .ok (.iload_n 1, 1) := by decide +kernel
theorem dX11_needDevice_5 : decode cX11_needDevice 5 = .ok (.invokevirtual 320, 3) := by decide +kernel
theorem dX11_needDevice_8 : decode cX11_needDevice 8 = .ok (.ifCond .ne 14, 3) := by decide +kernel
theorem dX11_needDevice_11 : decode cX11_needDevice 11 = .ok (.new 151, 3) := by decide +kernel
theorem dX11_needDevice_14 : decode cX11_needDevice 14 = .ok (.dup, 1) := by decide +kernel
theorem dX11_needDevice_15 : decode cX11_needDevice 15 = .ok (.ldc_w 376, 3) := by decide +kernel
theorem dX11_needDevice_18 : decode cX11_needDevice 18 = .ok (.invokespecial 155, 3) := by decide +kernel
theorem dX11_needDevice_21 : decode cX11_needDevice 21 = .ok (.athrow, 1) := by decide +kernel
theorem dX11_needDevice_22 : decode cX11_needDevice 22 = .ok (.return_, 1) := by decide +kernel
theorem dX11_needWhat_0 : decode cX11_needWhat 0 = .ok (.iload_n 0, 1) := by decide +kernel
theorem dX11_needWhat_1 : decode cX11_needWhat 1 = .ok (.ifCond .lt 8, 3) := by decide +kernel
theorem dX11_needWhat_4 : decode cX11_needWhat 4 = .ok (.iload_n 0, 1) := by decide +kernel
theorem dX11_needWhat_5 : decode cX11_needWhat 5 = .ok (.iload_n 1, 1) := by decide +kernel
theorem dX11_needWhat_6 : decode cX11_needWhat 6 = .ok (.if_icmp .le 13, 3) := by decide +kernel
theorem dX11_needWhat_9 : decode cX11_needWhat 9 = .ok (.new 151, 3) := by decide +kernel
theorem dX11_needWhat_12 : decode cX11_needWhat 12 = .ok (.dup, 1) := by decide +kernel
theorem dX11_needWhat_13 : decode cX11_needWhat 13 = .ok (.ldc 153, 2) := by decide +kernel
theorem dX11_needWhat_15 : decode cX11_needWhat 15 = .ok (.invokespecial 155, 3) := by decide +kernel
theorem dX11_needWhat_18 : decode cX11_needWhat 18 = .ok (.athrow, 1) := by decide +kernel
theorem dX11_needWhat_19 : decode cX11_needWhat 19 = .ok (.return_, 1) := by decide +kernel
theorem dX11_needMinutes_0 : decode cX11_needMinutes 0 = .ok (.iload_n 0, 1) := by decide +kernel
theorem dX11_needMinutes_1 : decode cX11_needMinutes 1 = .ok (.iload_n 1, 1) := by decide +kernel
theorem dX11_needMinutes_2 : decode cX11_needMinutes 2 = .ok (.if_icmp .lt 8, 3) := by decide +kernel
theorem dX11_needMinutes_5 : decode cX11_needMinutes 5 = .ok (.iload_n 0, 1) := by decide +kernel
theorem dX11_needMinutes_6 : decode cX11_needMinutes 6 = .ok (.iload_n 2, 1) := by decide +kernel
theorem dX11_needMinutes_7 : decode cX11_needMinutes 7 = .ok (.if_icmp .le 14, 3) := by decide +kernel
theorem dX11_needMinutes_10 : decode cX11_needMinutes 10 = .ok (.new 75, 3) := by decide +kernel
theorem dX11_needMinutes_13 : decode cX11_needMinutes 13 = .ok (.dup, 1) := by decide +kernel
theorem dX11_needMinutes_14 : decode cX11_needMinutes 14 = .ok (.ldc_w 378, 3) := by decide +kernel
theorem dX11_needMinutes_17 : decode cX11_needMinutes 17 = .ok (.invokespecial 79, 3) := by decide +kernel
theorem dX11_needMinutes_20 : decode cX11_needMinutes 20 = .ok (.athrow, 1) := by decide +kernel
theorem dX11_needMinutes_21 : decode cX11_needMinutes 21 = .ok (.return_, 1) := by decide +kernel
theorem dX11_quotient_0 : decode cX11_quotient 0 = .ok (.iload_n 1, 1) := by decide +kernel
theorem dX11_quotient_1 : decode cX11_quotient 1 = .ok (.ifCond .le 11, 3) := by decide +kernel
theorem dX11_quotient_4 : decode cX11_quotient 4 = .ok (.iload_n 0, 1) := by decide +kernel
theorem dX11_quotient_5 : decode cX11_quotient 5 = .ok (.iload_n 1, 1) := by decide +kernel
theorem dX11_quotient_6 : decode cX11_quotient 6 = .ok (.invokestatic 380, 3) := by decide +kernel
theorem dX11_quotient_9 : decode cX11_quotient 9 = .ok (.goto 4, 3) := by decide +kernel
theorem dX11_quotient_12 : decode cX11_quotient 12 = .ok (.iconst 0, 1) := by decide +kernel
theorem dX11_quotient_13 : decode cX11_quotient 13 = .ok (.ireturn, 1) := by decide +kernel
theorem dX11_within_0 : decode cX11_within 0 = .ok (.iload_n 1, 1) := by decide +kernel
theorem dX11_within_1 : decode cX11_within 1 = .ok (.iload_n 2, 1) := by decide +kernel
theorem dX11_within_2 : decode cX11_within 2 = .ok (.iload_n 0, 1) := by decide +kernel
theorem dX11_within_3 : decode cX11_within 3 = .ok (.invokestatic 385, 3) := by decide +kernel
theorem dX11_within_6 : decode cX11_within 6 = .ok (.invokestatic 388, 3) := by decide +kernel
theorem dX11_within_9 : decode cX11_within 9 = .ok (.ireturn, 1) := by decide +kernel
theorem dX12_init_0 : decode cX12_init 0 = .ok (.aload_n 0, 1) := by decide +kernel
theorem dX12_init_1 : decode cX12_init 1 = .ok (.invokespecial 1, 3) := by decide +kernel
theorem dX12_init_4 : decode cX12_init 4 = .ok (.aload_n 0, 1) := by decide +kernel
theorem dX12_init_5 : decode cX12_init 5 = .ok (.bipush 6, 2) := by decide +kernel
theorem dX12_init_7 : decode cX12_init 7 = .ok (.anewarray 7, 3) := by decide +kernel
theorem dX12_init_10 : decode cX12_init 10 = .ok (.dup, 1) := by decide +kernel
theorem dX12_init_11 : decode cX12_init 11 = .ok (.iconst 0, 1) := by decide +kernel
theorem dX12_init_12 : decode cX12_init 12 = .ok (.ldc 9, 2) := by decide +kernel
theorem dX12_init_14 : decode cX12_init 14 = .ok (.aastore, 1) := by decide +kernel
theorem dX12_init_15 : decode cX12_init 15 = .ok (.dup, 1) := by decide +kernel
theorem dX12_init_16 : decode cX12_init 16 = .ok (.iconst 1, 1) := by decide +kernel
theorem dX12_init_17 : decode cX12_init 17 = .ok (.ldc 11, 2) := by decide +kernel
theorem dX12_init_19 : decode cX12_init 19 = .ok (.aastore, 1) := by decide +kernel
theorem dX12_init_20 : decode cX12_init 20 = .ok (.dup, 1) := by decide +kernel
theorem dX12_init_21 : decode cX12_init 21 = .ok (.iconst 2, 1) := by decide +kernel
theorem dX12_init_22 : decode cX12_init 22 = .ok (.ldc 13, 2) := by decide +kernel
theorem dX12_init_24 : decode cX12_init 24 = .ok (.aastore, 1) := by decide +kernel
theorem dX12_init_25 : decode cX12_init 25 = .ok (.dup, 1) := by decide +kernel
theorem dX12_init_26 : decode cX12_init 26 = .ok (.iconst 3, 1) := by decide +kernel
theorem dX12_init_27 : decode cX12_init 27 = .ok (.ldc 15, 2) := by decide +kernel
theorem dX12_init_29 : decode cX12_init 29 = .ok (.aastore, 1) := by decide +kernel
theorem dX12_init_30 : decode cX12_init 30 = .ok (.dup, 1) := by decide +kernel
theorem dX12_init_31 : decode cX12_init 31 = .ok (.iconst 4, 1) := by decide +kernel
theorem dX12_init_32 : decode cX12_init 32 = .ok (.ldc 17, 2) := by decide +kernel
theorem dX12_init_34 : decode cX12_init 34 = .ok (.aastore, 1) := by decide +kernel
theorem dX12_init_35 : decode cX12_init 35 = .ok (.dup, 1) := by decide +kernel
theorem dX12_init_36 : decode cX12_init 36 = .ok (.iconst 5, 1) := by decide +kernel
theorem dX12_init_37 : decode cX12_init 37 = .ok (.ldc 19, 2) := by decide +kernel
theorem dX12_init_39 : decode cX12_init 39 = .ok (.aastore, 1) := by decide +kernel
theorem dX12_init_40 : decode cX12_init 40 = .ok (.putfield 21, 3) := by decide +kernel
theorem dX12_init_43 : decode cX12_init 43 = .ok (.aload_n 0, 1) := by decide +kernel
theorem dX12_init_44 : decode cX12_init 44 = .ok (.iconst 4, 1) := by decide +kernel
theorem dX12_init_45 : decode cX12_init 45 = .ok (.anewarray 7, 3) := by decide +kernel
theorem dX12_init_48 : decode cX12_init 48 = .ok (.dup, 1) := by decide +kernel
theorem dX12_init_49 : decode cX12_init 49 = .ok (.iconst 0, 1) := by decide +kernel
theorem dX12_init_50 : decode cX12_init 50 = .ok (.ldc 27, 2) := by decide +kernel
theorem dX12_init_52 : decode cX12_init 52 = .ok (.aastore, 1) := by decide +kernel
theorem dX12_init_53 : decode cX12_init 53 = .ok (.dup, 1) := by decide +kernel
theorem dX12_init_54 : decode cX12_init 54 = .ok (.iconst 1, 1) := by decide +kernel
theorem dX12_init_55 : decode cX12_init 55 = .ok (.ldc 29, 2) := by decide +kernel
theorem dX12_init_57 : decode cX12_init 57 = .ok (.aastore, 1) := by decide +kernel
theorem dX12_init_58 : decode cX12_init 58 = .ok (.dup, 1) := by decide +kernel
theorem dX12_init_59 : decode cX12_init 59 = .ok (.iconst 2, 1) := by decide +kernel
theorem dX12_init_60 : decode cX12_init 60 = .ok (.ldc 31, 2) := by decide +kernel
theorem dX12_init_62 : decode cX12_init 62 = .ok (.aastore, 1) := by decide +kernel
theorem dX12_init_63 : decode cX12_init 63 = .ok (.dup, 1) := by decide +kernel
theorem dX12_init_64 : decode cX12_init 64 = .ok (.iconst 3, 1) := by decide +kernel
theorem dX12_init_65 : decode cX12_init 65 = .ok (.ldc 33, 2) := by decide +kernel
theorem dX12_init_67 : decode cX12_init 67 = .ok (.aastore, 1) := by decide +kernel
theorem dX12_init_68 : decode cX12_init 68 = .ok (.putfield 35, 3) := by decide +kernel
theorem dX12_init_71 : decode cX12_init 71 = .ok (.aload_n 0, 1) := by decide +kernel
theorem dX12_init_72 : decode cX12_init 72 = .ok (.iconst 4, 1) := by decide +kernel
theorem dX12_init_73 : decode cX12_init 73 = .ok (.anewarray 7, 3) := by decide +kernel
theorem dX12_init_76 : decode cX12_init 76 = .ok (.dup, 1) := by decide +kernel
theorem dX12_init_77 : decode cX12_init 77 = .ok (.iconst 0, 1) := by decide +kernel
theorem dX12_init_78 : decode cX12_init 78 = .ok (.ldc 38, 2) := by decide +kernel
theorem dX12_init_80 : decode cX12_init 80 = .ok (.aastore, 1) := by decide +kernel
theorem dX12_init_81 : decode cX12_init 81 = .ok (.dup, 1) := by decide +kernel
theorem dX12_init_82 : decode cX12_init 82 = .ok (.iconst 1, 1) := by decide +kernel
theorem dX12_init_83 : decode cX12_init 83 = .ok (.ldc 40, 2) := by decide +kernel
theorem dX12_init_85 : decode cX12_init 85 = .ok (.aastore, 1) := by decide +kernel
theorem dX12_init_86 : decode cX12_init 86 = .ok (.dup, 1) := by decide +kernel
theorem dX12_init_87 : decode cX12_init 87 = .ok (.iconst 2, 1) := by decide +kernel
theorem dX12_init_88 : decode cX12_init 88 = .ok (.ldc 42, 2) := by decide +kernel
theorem dX12_init_90 : decode cX12_init 90 = .ok (.aastore, 1) := by decide +kernel
theorem dX12_init_91 : decode cX12_init 91 = .ok (.dup, 1) := by decide +kernel
theorem dX12_init_92 : decode cX12_init 92 = .ok (.iconst 3, 1) := by decide +kernel
theorem dX12_init_93 : decode cX12_init 93 = .ok (.ldc 44, 2) := by decide +kernel
theorem dX12_init_95 : decode cX12_init 95 = .ok (.aastore, 1) := by decide +kernel
theorem dX12_init_96 : decode cX12_init 96 = .ok (.putfield 46, 3) := by decide +kernel
theorem dX12_init_99 : decode cX12_init 99 = .ok (.aload_n 0, 1) := by decide +kernel
theorem dX12_init_100 : decode cX12_init 100 = .ok (.iconst 3, 1) := by decide +kernel
theorem dX12_init_101 : decode cX12_init 101 = .ok (.anewarray 7, 3) := by decide +kernel
theorem dX12_init_104 : decode cX12_init 104 = .ok (.dup, 1) := by decide +kernel
theorem dX12_init_105 : decode cX12_init 105 = .ok (.iconst 0, 1) := by decide +kernel
theorem dX12_init_106 : decode cX12_init 106 = .ok (.ldc 49, 2) := by decide +kernel
theorem dX12_init_108 : decode cX12_init 108 = .ok (.aastore, 1) := by decide +kernel
theorem dX12_init_109 : decode cX12_init 109 = .ok (.dup, 1) := by decide +kernel
theorem dX12_init_110 : decode cX12_init 110 = .ok (.iconst 1, 1) := by decide +kernel
theorem dX12_init_111 : decode cX12_init 111 = .ok (.ldc 51, 2) := by decide +kernel
theorem dX12_init_113 : decode cX12_init 113 = .ok (.aastore, 1) := by decide +kernel
theorem dX12_init_114 : decode cX12_init 114 = .ok (.dup, 1) := by decide +kernel
theorem dX12_init_115 : decode cX12_init 115 = .ok (.iconst 2, 1) := by decide +kernel
theorem dX12_init_116 : decode cX12_init 116 = .ok (.ldc 53, 2) := by decide +kernel
theorem dX12_init_118 : decode cX12_init 118 = .ok (.aastore, 1) := by decide +kernel
theorem dX12_init_119 : decode cX12_init 119 = .ok (.putfield 55, 3) := by decide +kernel
theorem dX12_init_122 : decode cX12_init 122 = .ok (.aload_n 0, 1) := by decide +kernel
theorem dX12_init_123 : decode cX12_init 123 = .ok (.sipush 305, 3) := by decide +kernel
theorem dX12_init_126 : decode cX12_init 126 = .ok (.newarray .int, 2) := by decide +kernel
theorem dX12_init_128 : decode cX12_init 128 = .ok (.putfield 58, 3) := by decide +kernel
theorem dX12_init_131 : decode cX12_init 131 = .ok (.aload_n 0, 1) := by decide +kernel
theorem dX12_init_132 : decode cX12_init 132 = .ok (.sipush 168, 3) := by decide +kernel
theorem dX12_init_135 : decode cX12_init 135 = .ok (.newarray .int, 2) := by decide +kernel
theorem dX12_init_137 : decode cX12_init 137 = .ok (.putfield 62, 3) := by decide +kernel
theorem dX12_init_140 : decode cX12_init 140 = .ok (.aload_n 0, 1) := by decide +kernel
theorem dX12_init_141 : decode cX12_init 141 = .ok (.sipush 305, 3) := by decide +kernel
theorem dX12_init_144 : decode cX12_init 144 = .ok (.newarray .int, 2) := by decide +kernel
theorem dX12_init_146 : decode cX12_init 146 = .ok (.putfield 65, 3) := by decide +kernel
theorem dX12_init_149 : decode cX12_init 149 = .ok (.aload_n 0, 1) := by decide +kernel
theorem dX12_init_150 : decode cX12_init 150 = .ok (.sipush 168, 3) := by decide +kernel
theorem dX12_init_153 : decode cX12_init 153 = .ok (.newarray .int, 2) := by decide +kernel
theorem dX12_init_155 : decode cX12_init 155 = .ok (.putfield 68, 3) := by decide +kernel
theorem dX12_init_158 : decode cX12_init 158 = .ok (.aload_n 0, 1) := by decide +kernel
theorem dX12_init_159 : decode cX12_init 159 = .ok (.iconst 3, 1) := by decide +kernel
theorem dX12_init_160 : decode cX12_init 160 = .ok (.newarray .int, 2) := by decide +kernel
theorem dX12_init_162 : decode cX12_init 162 = .ok (.putfield 71, 3) := by decide +kernel
theorem dX12_init_165 : decode cX12_init 165 = .ok (.aload_n 0, 1) := by decide +kernel
theorem dX12_init_166 : decode cX12_init 166 = .ok (.sipush 700, 3) := by decide +kernel
theorem dX12_init_169 : decode cX12_init 169 = .ok (.newarray .int, 2) := by decide +kernel
theorem dX12_init_171 : decode cX12_init 171 = .ok (.putfield 74, 3) := by decide +kernel
theorem dX12_init_174 : decode cX12_init 174 = .ok (.aload_n 0, 1) := by decide +kernel
theorem dX12_init_175 : decode cX12_init 175 = .ok (.iconst (-1), 1) := by decide +kernel
theorem dX12_init_176 : decode cX12_init 176 = .ok (.putfield 77, 3) := by decide +kernel
theorem dX12_init_179 : decode cX12_init 179 = .ok (.aload_n 0, 1) := by decide +kernel
theorem dX12_init_180 : decode cX12_init 180 = .ok (.iconst 5, 1) := by decide +kernel
theorem dX12_init_181 : decode cX12_init 181 = .ok (.newarray .int, 2) := by decide +kernel
theorem dX12_init_183 : decode cX12_init 183 = .ok (.putfield 81, 3) := by decide +kernel
theorem dX12_init_186 : decode cX12_init 186 = .ok (.aload_n 0, 1) := by decide +kernel
theorem dX12_init_187 : decode cX12_init 187 = .ok (.bipush 6, 2) := by decide +kernel
theorem dX12_init_189 : decode cX12_init 189 = .ok (.newarray .boolean, 2) := by decide +kernel
theorem dX12_init_191 : decode cX12_init 191 = .ok (.putfield 84, 3) := by decide +kernel
theorem dX12_init_194 : decode cX12_init 194 = .ok (.aload_n 0, 1) := by decide +kernel
theorem dX12_init_195 : decode cX12_init 195 = .ok (.sipush 305, 3) := by decide +kernel
theorem dX12_init_198 : decode cX12_init 198 = .ok (.newarray .int, 2) := by decide +kernel
theorem dX12_init_200 : decode cX12_init 200 = .ok (.putfield 88, 3) := by decide +kernel
theorem dX12_init_203 : decode cX12_init 203 = .ok (.aload_n 0, 1) := by decide +kernel
theorem dX12_init_204 : decode cX12_init 204 = .ok (.sipush 12200, 3) := by decide +kernel
theorem dX12_init_207 : decode cX12_init 207 = .ok (.newarray .int, 2) := by decide +kernel
theorem dX12_init_209 : decode cX12_init 209 = .ok (.putfield 91, 3) := by decide +kernel
theorem dX12_init_212 : decode cX12_init 212 = .ok (.aload_n 0, 1) := by decide +kernel
theorem dX12_init_213 : decode cX12_init 213 = .ok (.bipush 8, 2) := by decide +kernel
theorem dX12_init_215 : decode cX12_init 215 = .ok (.newarray .int, 2) := by decide +kernel
theorem dX12_init_217 : decode cX12_init 217 = .ok (.putfield 94, 3) := by decide +kernel
theorem dX12_init_220 : decode cX12_init 220 = .ok (.aload_n 0, 1) := by decide +kernel
theorem dX12_init_221 : decode cX12_init 221 = .ok (.bipush 8, 2) := by decide +kernel
theorem dX12_init_223 : decode cX12_init 223 = .ok (.newarray .int, 2) := by decide +kernel
theorem dX12_init_225 : decode cX12_init 225 = .ok (.putfield 97, 3) := by decide +kernel
theorem dX12_init_228 : decode cX12_init 228 = .ok (.aload_n 0, 1) := by decide +kernel
theorem dX12_init_229 : decode cX12_init 229 = .ok (.bipush 8, 2) := by decide +kernel
theorem dX12_init_231 : decode cX12_init 231 = .ok (.newarray .int, 2) := by decide +kernel
theorem dX12_init_233 : decode cX12_init 233 = .ok (.putfield 100, 3) := by decide +kernel
theorem dX12_init_236 : decode cX12_init 236 = .ok (.aload_n 0, 1) := by decide +kernel
theorem dX12_init_237 : decode cX12_init 237 = .ok (.bipush 51, 2) := by decide +kernel
theorem dX12_init_239 : decode cX12_init 239 = .ok (.newarray .boolean, 2) := by decide +kernel
theorem dX12_init_241 : decode cX12_init 241 = .ok (.putfield 103, 3) := by decide +kernel
theorem dX12_init_244 : decode cX12_init 244 = .ok (.aload_n 0, 1) := by decide +kernel
theorem dX12_init_245 : decode cX12_init 245 = .ok (.sipush 1071, 3) := by decide +kernel
theorem dX12_init_248 : decode cX12_init 248 = .ok (.newarray .int, 2) := by decide +kernel
theorem dX12_init_250 : decode cX12_init 250 = .ok (.putfield 106, 3) := by decide +kernel
theorem dX12_init_253 : decode cX12_init 253 = .ok (.aload_n 0, 1) := by decide +kernel
theorem dX12_init_254 : decode cX12_init 254 = .ok (.sipush 305, 3) := by decide +kernel
theorem dX12_init_257 : decode cX12_init 257 = .ok (.newarray .int, 2) := by decide +kernel
theorem dX12_init_259 : decode cX12_init 259 = .ok (.putfield 109, 3) := by decide +kernel
theorem dX12_init_262 : decode cX12_init 262 = .ok (.aload_n 0, 1) := by decide +kernel
theorem dX12_init_263 : decode cX12_init 263 = .ok (.sipush 12200, 3) := by decide +kernel
theorem dX12_init_266 : decode cX12_init 266 = .ok (.newarray .int, 2) := by decide +kernel
theorem dX12_init_268 : decode cX12_init 268 = .ok (.putfield 112, 3) := by decide +kernel
theorem dX12_init_271 : decode cX12_init 271 = .ok (.aload_n 0, 1) := by decide +kernel
theorem dX12_init_272 : decode cX12_init 272 = .ok (.bipush 8, 2) := by decide +kernel
theorem dX12_init_274 : decode cX12_init 274 = .ok (.newarray .int, 2) := by decide +kernel
theorem dX12_init_276 : decode cX12_init 276 = .ok (.putfield 115, 3) := by decide +kernel
theorem dX12_init_279 : decode cX12_init 279 = .ok (.aload_n 0, 1) := by decide +kernel
theorem dX12_init_280 : decode cX12_init 280 = .ok (.bipush 8, 2) := by decide +kernel
theorem dX12_init_282 : decode cX12_init 282 = .ok (.newarray .int, 2) := by decide +kernel
theorem dX12_init_284 : decode cX12_init 284 = .ok (.putfield 118, 3) := by decide +kernel
theorem dX12_init_287 : decode cX12_init 287 = .ok (.aload_n 0, 1) := by decide +kernel
theorem dX12_init_288 : decode cX12_init 288 = .ok (.bipush 8, 2) := by decide +kernel
theorem dX12_init_290 : decode cX12_init 290 = .ok (.newarray .int, 2) := by decide +kernel
theorem dX12_init_292 : decode cX12_init 292 = .ok (.putfield 121, 3) := by decide +kernel
theorem dX12_init_295 : decode cX12_init 295 = .ok (.aload_n 0, 1) := by decide +kernel
theorem dX12_init_296 : decode cX12_init 296 = .ok (.iconst 3, 1) := by decide +kernel
theorem dX12_init_297 : decode cX12_init 297 = .ok (.newarray .int, 2) := by decide +kernel
theorem dX12_init_299 : decode cX12_init 299 = .ok (.putfield 124, 3) := by decide +kernel
theorem dX12_init_302 : decode cX12_init 302 = .ok (.aload_n 0, 1) := by decide +kernel
theorem dX12_init_303 : decode cX12_init 303 = .ok (.getfield 58, 3) := by decide +kernel
theorem dX12_init_306 : decode cX12_init 306 = .ok (.aload_n 0, 1) := by decide +kernel
theorem dX12_init_307 : decode cX12_init 307 = .ok (.getfield 62, 3) := by decide +kernel
theorem dX12_init_310 : decode cX12_init 310 = .ok (.invokestatic 127, 3) := by decide +kernel
theorem dX12_init_313 : decode cX12_init 313 = .ok (.return_, 1) := by decide +kernel
theorem dX12_thrown_0 : decode cX12_thrown 0 = .ok (.aload_n 0, 1) := by decide +kernel
theorem dX12_thrown_1 : decode cX12_thrown 1 = .ok (.getfield 131, 3) := by decide +kernel
theorem dX12_thrown_4 : decode cX12_thrown 4 = .ok (.ireturn, 1) := by decide +kernel
theorem dX12_fail_0 : decode cX12_fail 0 = .ok (.aload_n 0, 1) := by decide +kernel
theorem dX12_fail_1 : decode cX12_fail 1 = .ok (.iload_n 1, 1) := by decide +kernel
theorem dX12_fail_2 : decode cX12_fail 2 = .ok (.putfield 131, 3) := by decide +kernel
theorem dX12_fail_5 : decode cX12_fail 5 = .ok (.iconst 0, 1) := by decide +kernel
theorem dX12_fail_6 : decode cX12_fail 6 = .ok (.ireturn, 1) := by decide +kernel
theorem dX12_isIn_0 : decode cX12_isIn 0 = .ok (.iload_n 0, 1) := by decide +kernel
theorem dX12_isIn_1 : decode cX12_isIn 1 = .ok (.iload_n 1, 1) := by decide +kernel
theorem dX12_isIn_2 : decode cX12_isIn 2 = .ok (.if_icmp .lt 12, 3) := by decide +kernel
theorem dX12_isIn_5 : decode cX12_isIn 5 = .ok (.iload_n 0, 1) := by decide +kernel
theorem dX12_isIn_6 : decode cX12_isIn 6 = .ok (.iload_n 2, 1) := by decide +kernel
theorem dX12_isIn_7 : decode cX12_isIn 7 = .ok (.if_icmp .gt 7, 3) := by decide +kernel
theorem dX12_isIn_10 : decode cX12_isIn 10 = .ok (.iconst 1, 1) := by decide +kernel
theorem dX12_isIn_11 : decode cX12_isIn 11 = .ok (.goto 4, 3) := by decide +kernel
theorem dX12_isIn_14 : decode cX12_isIn 14 = .ok (.iconst 0, 1) := by decide +kernel
theorem dX12_isIn_15 : decode cX12_isIn 15 = .ok (.ireturn, 1) := by decide +kernel
theorem dX12_copyTo_0 : decode cX12_copyTo 0 = .ok (.iconst 0, 1) := by decide +kernel
theorem dX12_copyTo_1 : decode cX12_copyTo 1 = .ok (.istore_n 2, 1) := by decide +kernel
theorem dX12_copyTo_2 : decode cX12_copyTo 2 = .ok (.iload_n 2, 1) := by decide +kernel
theorem dX12_copyTo_3 : decode cX12_copyTo 3 = .ok (.aload_n 0, 1) := by decide +kernel
theorem dX12_copyTo_4 : decode cX12_copyTo 4 = .ok (.arraylength, 1) := by decide +kernel
theorem dX12_copyTo_5 : decode cX12_copyTo 5 = .ok (.if_icmp .ge 15, 3) := by decide +kernel
theorem dX12_copyTo_8 : decode cX12_copyTo 8 = .ok (.aload_n 0, 1) := by decide +kernel
theorem dX12_copyTo_9 : decode cX12_copyTo 9 = .ok (.iload_n 2, 1) := by decide +kernel
theorem dX12_copyTo_10 : decode cX12_copyTo 10 = .ok (.aload_n 1, 1) := by decide +kernel
theorem dX12_copyTo_11 : decode cX12_copyTo 11 = .ok (.iload_n 2, 1) := by decide +kernel
theorem dX12_copyTo_12 : decode cX12_copyTo 12 = .ok (.iaload, 1) := by decide +kernel
theorem dX12_copyTo_13 : decode cX12_copyTo 13 = .ok (.iastore, 1) := by decide +kernel
theorem dX12_copyTo_14 : decode cX12_copyTo 14 = .ok (.iinc 2 1, 3) := by decide +kernel
theorem dX12_copyTo_17 : decode cX12_copyTo 17 = .ok (.goto (-15), 3) := by decide +kernel
theorem dX12_copyTo_20 : decode cX12_copyTo 20 = .ok (.return_, 1) := by decide +kernel
theorem dX12_empties_0 : decode cX12_empties 0 = .ok (.iconst 0, 1) := by decide +kernel
theorem dX12_empties_1 : decode cX12_empties 1 = .ok (.istore_n 2, 1) := by decide +kernel
theorem dX12_empties_2 : decode cX12_empties 2 = .ok (.iload_n 2, 1) := by decide +kernel
theorem dX12_empties_3 : decode cX12_empties 3 = .ok (.sipush 305, 3) := by decide +kernel
theorem dX12_empties_6 : decode cX12_empties 6 = .ok (.if_icmp .ge 13, 3) := by decide +kernel
theorem dX12_empties_9 : decode cX12_empties 9 = .ok (.aload_n 0, 1) := by decide +kernel
theorem dX12_empties_10 : decode cX12_empties 10 = .ok (.iload_n 2, 1) := by decide +kernel
theorem dX12_empties_11 : decode cX12_empties 11 = .ok (.iconst 0, 1) := by decide +kernel
theorem dX12_empties_12 : decode cX12_empties 12 = .ok (.iastore, 1) := by decide +kernel
theorem dX12_empties_13 : decode cX12_empties 13 = .ok (.iinc 2 1, 3) := by decide +kernel
theorem dX12_empties_16 : decode cX12_empties 16 = .ok (.goto (-14), 3) := by decide +kernel
theorem dX12_empties_19 : decode cX12_empties 19 = .ok (.iconst 0, 1) := by decide +kernel
theorem dX12_empties_20 : decode cX12_empties 20 = .ok (.istore_n 2, 1) := by decide +kernel
theorem dX12_empties_21 : decode cX12_empties 21 = .ok (.iload_n 2, 1) := by decide +kernel
theorem dX12_empties_22 : decode cX12_empties 22 = .ok (.sipush 168, 3) := by decide +kernel
theorem dX12_empties_25 : decode cX12_empties 25 = .ok (.if_icmp .ge 13, 3) := by decide +kernel
theorem dX12_empties_28 : decode cX12_empties 28 = .ok (.aload_n 1, 1) := by decide +kernel
theorem dX12_empties_29 : decode cX12_empties 29 = .ok (.iload_n 2, 1) := by decide +kernel
theorem dX12_empties_30 : decode cX12_empties 30 = .ok (.iconst 0, 1) := by decide +kernel
theorem dX12_empties_31 : decode cX12_empties 31 = .ok (.iastore, 1) := by decide +kernel
theorem dX12_empties_32 : decode cX12_empties 32 = .ok (.iinc 2 1, 3) := by decide +kernel
theorem dX12_empties_35 : decode cX12_empties 35 = .ok (.goto (-14), 3) := by decide +kernel
theorem dX12_empties_38 : decode cX12_empties 38 = .ok (.iconst 0, 1) := by decide +kernel
theorem dX12_empties_39 : decode cX12_empties 39 = .ok (.istore_n 2, 1) := by decide +kernel
theorem dX12_empties_40 : decode cX12_empties 40 = .ok (.iload_n 2, 1) := by decide +kernel
theorem dX12_empties_41 : decode cX12_empties 41 = .ok (.iconst 5, 1) := by decide +kernel
theorem dX12_empties_42 : decode cX12_empties 42 = .ok (.if_icmp .ge 52, 3) := by decide +kernel
theorem dX12_empties_45 : decode cX12_empties 45 = .ok (.aload_n 0, 1) := by decide +kernel
theorem dX12_empties_46 : decode cX12_empties 46 = .ok (.iconst 0, 1) := by decide +kernel
theorem dX12_empties_47 : decode cX12_empties 47 = .ok (.iload_n 2, 1) := by decide +kernel
theorem dX12_empties_48 : decode cX12_empties 48 = .ok (.iadd, 1) := by decide +kernel
theorem dX12_empties_49 : decode cX12_empties 49 = .ok (.sipush 200, 3) := by decide +kernel
theorem dX12_empties_52 : decode cX12_empties 52 = .ok (.iastore, 1) := by decide +kernel
theorem dX12_empties_53 : decode cX12_empties 53 = .ok (.aload_n 0, 1) := by decide +kernel
theorem dX12_empties_54 : decode cX12_empties 54 = .ok (.bipush 20, 2) := by decide +kernel
theorem dX12_empties_56 : decode cX12_empties 56 = .ok (.iload_n 2, 1) := by decide +kernel
theorem dX12_empties_57 : decode cX12_empties 57 = .ok (.iadd, 1) := by decide +kernel
theorem dX12_empties_58 : decode cX12_empties 58 = .ok (.sipush 200, 3) := by decide +kernel
theorem dX12_empties_61 : decode cX12_empties 61 = .ok (.iastore, 1) := by decide +kernel
theorem dX12_empties_62 : decode cX12_empties 62 = .ok (.iconst 0, 1) := by decide +kernel
theorem dX12_empties_63 : decode cX12_empties 63 = .ok (.istore_n 3, 1) := by decide +kernel
theorem dX12_empties_64 : decode cX12_empties 64 = .ok (.iload_n 3, 1) := by decide +kernel
theorem dX12_empties_65 : decode cX12_empties 65 = .ok (.iconst 4, 1) := by decide +kernel
theorem dX12_empties_66 : decode cX12_empties 66 = .ok (.if_icmp .ge 22, 3) := by decide +kernel
theorem dX12_empties_69 : decode cX12_empties 69 = .ok (.aload_n 0, 1) := by decide +kernel
theorem dX12_empties_70 : decode cX12_empties 70 = .ok (.bipush 30, 2) := by decide +kernel
theorem dX12_empties_72 : decode cX12_empties 72 = .ok (.iconst 4, 1) := by decide +kernel
theorem dX12_empties_73 : decode cX12_empties 73 = .ok (.iload_n 2, 1) := by decide +kernel
theorem dX12_empties_74 : decode cX12_empties 74 = .ok (.imul, 1) := by decide +kernel
theorem dX12_empties_75 : decode cX12_empties 75 = .ok (.iadd, 1) := by decide +kernel
theorem dX12_empties_76 : decode cX12_empties 76 = .ok (.iload_n 3, 1) := by decide +kernel
theorem dX12_empties_77 : decode cX12_empties 77 = .ok (.iadd, 1) := by decide +kernel
theorem dX12_empties_78 : decode cX12_empties 78 = .ok (.sipush 200, 3) := by decide +kernel
theorem dX12_empties_81 : decode cX12_empties 81 = .ok (.iastore, 1) := by decide +kernel
theorem dX12_empties_82 : decode cX12_empties 82 = .ok (.iinc 3 1, 3) := by decide +kernel
theorem dX12_empties_85 : decode cX12_empties 85 = .ok (.goto (-21), 3) := by decide +kernel
theorem dX12_empties_88 : decode cX12_empties 88 = .ok (.iinc 2 1, 3) := by decide +kernel
theorem dX12_empties_91 : decode cX12_empties 91 = .ok (.goto (-51), 3) := by decide +kernel
theorem dX12_empties_94 : decode cX12_empties 94 = .ok (.iconst 0, 1) := by decide +kernel
theorem dX12_empties_95 : decode cX12_empties 95 = .ok (.istore_n 2, 1) := by decide +kernel
theorem dX12_empties_96 : decode cX12_empties 96 = .ok (.iload_n 2, 1) := by decide +kernel
theorem dX12_empties_97 : decode cX12_empties 97 = .ok (.bipush 6, 2) := by decide +kernel
theorem dX12_empties_99 : decode cX12_empties 99 = .ok (.if_icmp .ge 16, 3) := by decide +kernel
theorem dX12_empties_102 : decode cX12_empties 102 = .ok (.aload_n 0, 1) := by decide +kernel
theorem dX12_empties_103 : decode cX12_empties 103 = .ok (.bipush 76, 2) := by decide +kernel
theorem dX12_empties_105 : decode cX12_empties 105 = .ok (.iload_n 2, 1) := by decide +kernel
theorem dX12_empties_106 : decode cX12_empties 106 = .ok (.iadd, 1) := by decide +kernel
theorem dX12_empties_107 : decode cX12_empties 107 = .ok (.iconst (-1), 1) := by decide +kernel
theorem dX12_empties_108 : decode cX12_empties 108 = .ok (.iastore, 1) := by decide +kernel
theorem dX12_empties_109 : decode cX12_empties 109 = .ok (.iinc 2 1, 3) := by decide +kernel
theorem dX12_empties_112 : decode cX12_empties 112 = .ok (.goto (-16), 3) := by decide +kernel
theorem dX12_empties_115 : decode cX12_empties 115 = .ok (.return_, 1) := by decide +kernel
theorem dX12_by_0 : decode cX12_by 0 = .ok (.iload_n 0, 1) := by decide +kernel
theorem dX12_by_1 : decode cX12_by 1 = .ok (.ifCond .lt 9, 3) := by decide +kernel
theorem dX12_by_4 : decode cX12_by 4 = .ok (.iload_n 0, 1) := by decide +kernel
theorem dX12_by_5 : decode cX12_by 5 = .ok (.iload_n 1, 1) := by decide +kernel
theorem dX12_by_6 : decode cX12_by 6 = .ok (.idiv, 1) := by decide +kernel
theorem dX12_by_7 : decode cX12_by 7 = .ok (.goto 12, 3) := by decide +kernel
theorem dX12_by_10 : decode cX12_by 10 = .ok (.iload_n 0, 1) := by decide +kernel
theorem dX12_by_11 : decode cX12_by 11 = .ok (.ineg, 1) := by decide +kernel
theorem dX12_by_12 : decode cX12_by 12 = .ok (.iload_n 1, 1) := by decide +kernel
theorem dX12_by_13 : decode cX12_by 13 = .ok (.iadd, 1) := by decide +kernel
theorem dX12_by_14 : decode cX12_by 14 = .ok (.iconst 1, 1) := by decide +kernel
theorem dX12_by_15 : decode cX12_by 15 = .ok (.isub, 1) := by decide +kernel
theorem dX12_by_16 : decode cX12_by 16 = .ok (.iload_n 1, 1) := by decide +kernel
theorem dX12_by_17 : decode cX12_by 17 = .ok (.idiv, 1) := by decide +kernel
theorem dX12_by_18 : decode cX12_by 18 = .ok (.ineg, 1) := by decide +kernel
theorem dX12_by_19 : decode cX12_by 19 = .ok (.ireturn, 1) := by decide +kernel
theorem dX12_held_0 : decode cX12_held 0 = .ok (.iload_n 0, 1) := by decide +kernel
theorem dX12_held_1 : decode cX12_held 1 = .ok (.iload_n 1, 1) := by decide +kernel
theorem dX12_held_2 : decode cX12_held 2 = .ok (.if_icmp .ge 7, 3) := by decide +kernel
theorem dX12_held_5 : decode cX12_held 5 = .ok (.iload_n 1, 1) := by decide +kernel
theorem dX12_held_6 : decode cX12_held 6 = .ok (.goto 13, 3) := by decide +kernel
theorem dX12_held_9 : decode cX12_held 9 = .ok (.iload_n 0, 1) := by decide +kernel
theorem dX12_held_10 : decode cX12_held 10 = .ok (.iload_n 2, 1) := by decide +kernel
theorem dX12_held_11 : decode cX12_held 11 = .ok (.if_icmp .le 7, 3) := by decide +kernel
theorem dX12_held_14 : decode cX12_held 14 = .ok (.iload_n 2, 1) := by decide +kernel
theorem dX12_held_15 : decode cX12_held 15 = .ok (.goto 4, 3) := by decide +kernel
theorem dX12_held_18 : decode cX12_held 18 = .ok (.iload_n 0, 1) := by decide +kernel
theorem dX12_held_19 : decode cX12_held 19 = .ok (.ireturn, 1) := by decide +kernel
theorem dX12_feed_0 : decode cX12_feed 0 = .ok (.aload_n 0, 1) := by decide +kernel
theorem dX12_feed_1 : decode cX12_feed 1 = .ok (.iconst 0, 1) := by decide +kernel
theorem dX12_feed_2 : decode cX12_feed 2 = .ok (.putfield 131, 3) := by decide +kernel
theorem dX12_feed_5 : decode cX12_feed 5 = .ok (.aload_n 0, 1) := by decide +kernel
theorem dX12_feed_6 : decode cX12_feed 6 = .ok (.getfield 134, 3) := by decide +kernel
theorem dX12_feed_9 : decode cX12_feed 9 = .ok (.bipush 20, 2) := by decide +kernel
theorem dX12_feed_11 : decode cX12_feed 11 = .ok (.iadd, 1) := by decide +kernel
theorem dX12_feed_12 : decode cX12_feed 12 = .ok (.sipush 700, 3) := by decide +kernel
theorem dX12_feed_15 : decode cX12_feed 15 = .ok (.if_icmp .le 5, 3) := by decide +kernel
theorem dX12_feed_18 : decode cX12_feed 18 = .ok (.iconst (-1), 1) := by decide +kernel
theorem dX12_feed_19 : decode cX12_feed 19 = .ok (.ireturn, 1) := by decide +kernel
theorem dX12_feed_20 : decode cX12_feed 20 = .ok (.iconst 0, 1) := by decide +kernel
theorem dX12_feed_21 : decode cX12_feed 21 = .ok (.istore 6, 2) := by decide +kernel
theorem dX12_feed_23 : decode cX12_feed 23 = .ok (.iload 6, 2) := by decide +kernel
theorem dX12_feed_25 : decode cX12_feed 25 = .ok (.bipush 20, 2) := by decide +kernel
theorem dX12_feed_27 : decode cX12_feed 27 = .ok (.if_icmp .ge 93, 3) := by decide +kernel
theorem dX12_feed_30 : decode cX12_feed 30 = .ok (.iload 6, 2) := by decide +kernel
theorem dX12_feed_32 : decode cX12_feed 32 = .ok (.iconst 4, 1) := by decide +kernel
theorem dX12_feed_33 : decode cX12_feed 33 = .ok (.if_icmp .ge 7, 3) := by decide +kernel
theorem dX12_feed_36 : decode cX12_feed 36 = .ok (.iload_n 1, 1) := by decide +kernel
theorem dX12_feed_37 : decode cX12_feed 37 = .ok (.goto 39, 3) := by decide +kernel
theorem dX12_feed_40 : decode cX12_feed 40 = .ok (.iload 6, 2) := by decide +kernel
theorem dX12_feed_42 : decode cX12_feed 42 = .ok (.bipush 8, 2) := by decide +kernel
theorem dX12_feed_44 : decode cX12_feed 44 = .ok (.if_icmp .ge 7, 3) := by decide +kernel
theorem dX12_feed_47 : decode cX12_feed 47 = .ok (.iload_n 2, 1) := by decide +kernel
theorem dX12_feed_48 : decode cX12_feed 48 = .ok (.goto 28, 3) := by decide +kernel
theorem dX12_feed_51 : decode cX12_feed 51 = .ok (.iload 6, 2) := by decide +kernel
theorem dX12_feed_53 : decode cX12_feed 53 = .ok (.bipush 12, 2) := by decide +kernel
theorem dX12_feed_55 : decode cX12_feed 55 = .ok (.if_icmp .ge 7, 3) := by decide +kernel
theorem dX12_feed_58 : decode cX12_feed 58 = .ok (.iload_n 3, 1) := by decide +kernel
theorem dX12_feed_59 : decode cX12_feed 59 = .ok (.goto 17, 3) := by decide +kernel
theorem dX12_feed_62 : decode cX12_feed 62 = .ok (.iload 6, 2) := by decide +kernel
theorem dX12_feed_64 : decode cX12_feed 64 = .ok (.bipush 16, 2) := by decide +kernel
theorem dX12_feed_66 : decode cX12_feed 66 = .ok (.if_icmp .ge 8, 3) := by decide +kernel
theorem dX12_feed_69 : decode cX12_feed 69 = .ok (.iload 4, 2) := by decide +kernel
theorem dX12_feed_71 : decode cX12_feed 71 = .ok (.goto 5, 3) := by decide +kernel
theorem dX12_feed_74 : decode cX12_feed 74 = .ok (.iload 5, 2) := by decide +kernel
theorem dX12_feed_76 : decode cX12_feed 76 = .ok (.istore 7, 2) := by decide +kernel
theorem dX12_feed_78 : decode cX12_feed 78 = .ok (.aload_n 0, 1) := by decide +kernel
theorem dX12_feed_79 : decode cX12_feed 79 = .ok (.getfield 74, 3) := by decide +kernel
theorem dX12_feed_82 : decode cX12_feed 82 = .ok (.aload_n 0, 1) := by decide +kernel
theorem dX12_feed_83 : decode cX12_feed 83 = .ok (.getfield 134, 3) := by decide +kernel
theorem dX12_feed_86 : decode cX12_feed 86 = .ok (.iload 7, 2) := by decide +kernel
theorem dX12_feed_88 : decode cX12_feed 88 = .ok (.bipush 24, 2) := by decide +kernel
theorem dX12_feed_90 : decode cX12_feed 90 = .ok (.bipush 8, 2) := by decide +kernel
theorem dX12_feed_92 : decode cX12_feed 92 = .ok (.iload 6, 2) := by decide +kernel
theorem dX12_feed_94 : decode cX12_feed 94 = .ok (.iconst 4, 1) := by decide +kernel
theorem dX12_feed_95 : decode cX12_feed 95 = .ok (.irem, 1) := by decide +kernel
theorem dX12_feed_96 : decode cX12_feed 96 = .ok (.imul, 1) := by decide +kernel
theorem dX12_feed_97 : decode cX12_feed 97 = .ok (.isub, 1) := by decide +kernel
theorem dX12_feed_98 : decode cX12_feed 98 = .ok (.ishr, 1) := by decide +kernel
theorem dX12_feed_99 : decode cX12_feed 99 = .ok (.sipush 255, 3) := by decide +kernel
theorem dX12_feed_102 : decode cX12_feed 102 = .ok (.iand, 1) := by decide +kernel
theorem dX12_feed_103 : decode cX12_feed 103 = .ok (.iastore, 1) := by decide +kernel
theorem dX12_feed_104 : decode cX12_feed 104 = .ok (.aload_n 0, 1) := by decide +kernel
theorem dX12_feed_105 : decode cX12_feed 105 = .ok (.dup, 1) := by decide +kernel
theorem dX12_feed_106 : decode cX12_feed 106 = .ok (.getfield 134, 3) := by decide +kernel
theorem dX12_feed_109 : decode cX12_feed 109 = .ok (.iconst 1, 1) := by decide +kernel
theorem dX12_feed_110 : decode cX12_feed 110 = .ok (.iadd, 1) := by decide +kernel
theorem dX12_feed_111 : decode cX12_feed 111 = .ok (.putfield 134, 3) := by decide +kernel
theorem dX12_feed_114 : decode cX12_feed 114 = .ok (.iinc 6 1, 3) := by decide +kernel
theorem dX12_feed_117 : decode cX12_feed 117 = .ok (.goto (-94), 3) := by decide +kernel
theorem dX12_feed_120 : decode cX12_feed 120 = .ok (.aload_n 0, 1) := by decide +kernel
theorem dX12_feed_121 : decode cX12_feed 121 = .ok (.getfield 134, 3) := by decide +kernel
theorem dX12_feed_124 : decode cX12_feed 124 = .ok (.ireturn, 1) := by decide +kernel
theorem dX12_byteAt_0 : decode cX12_byteAt 0 = .ok (.iload_n 1, 1) := by decide +kernel
theorem dX12_byteAt_1 : decode cX12_byteAt 1 = .ok (.aload_n 0, 1) := by decide +kernel
theorem dX12_byteAt_2 : decode cX12_byteAt 2 = .ok (.getfield 137, 3) := by decide +kernel
theorem dX12_byteAt_5 : decode cX12_byteAt 5 = .ok (.if_icmp .ge 12, 3) := by decide +kernel
theorem dX12_byteAt_8 : decode cX12_byteAt 8 = .ok (.aload_n 0, 1) := by decide +kernel
theorem dX12_byteAt_9 : decode cX12_byteAt 9 = .ok (.getfield 74, 3) := by decide +kernel
theorem dX12_byteAt_12 : decode cX12_byteAt 12 = .ok (.iload_n 1, 1) := by decide +kernel
theorem dX12_byteAt_13 : decode cX12_byteAt 13 = .ok (.iaload, 1) := by decide +kernel
theorem dX12_byteAt_14 : decode cX12_byteAt 14 = .ok (.goto 4, 3) := by decide +kernel
theorem dX12_byteAt_17 : decode cX12_byteAt 17 = .ok (.iconst (-1), 1) := by decide +kernel
theorem dX12_byteAt_18 : decode cX12_byteAt 18 = .ok (.ireturn, 1) := by decide +kernel
theorem dX12_isLetter_0 : decode cX12_isLetter 0 = .ok (.iload_n 0, 1) := by decide +kernel
theorem dX12_isLetter_1 : decode cX12_isLetter 1 = .ok (.bipush 97, 2) := by decide +kernel
theorem dX12_isLetter_3 : decode cX12_isLetter 3 = .ok (.if_icmp .lt 13, 3) := by decide +kernel
theorem dX12_isLetter_6 : decode cX12_isLetter 6 = .ok (.iload_n 0, 1) := by decide +kernel
theorem dX12_isLetter_7 : decode cX12_isLetter 7 = .ok (.bipush 122, 2) := by decide +kernel
theorem dX12_isLetter_9 : decode cX12_isLetter 9 = .ok (.if_icmp .gt 7, 3) := by decide +kernel
theorem dX12_isLetter_12 : decode cX12_isLetter 12 = .ok (.iconst 1, 1) := by decide +kernel
theorem dX12_isLetter_13 : decode cX12_isLetter 13 = .ok (.goto 4, 3) := by decide +kernel
theorem dX12_isLetter_16 : decode cX12_isLetter 16 = .ok (.iconst 0, 1) := by decide +kernel
theorem dX12_isLetter_17 : decode cX12_isLetter 17 = .ok (.ireturn, 1) := by decide +kernel
theorem dX12_isDigit_0 : decode cX12_isDigit 0 = .ok (.iload_n 0, 1) := by decide +kernel
theorem dX12_isDigit_1 : decode cX12_isDigit 1 = .ok (.bipush 48, 2) := by decide +kernel
theorem dX12_isDigit_3 : decode cX12_isDigit 3 = .ok (.if_icmp .lt 13, 3) := by decide +kernel
theorem dX12_isDigit_6 : decode cX12_isDigit 6 = .ok (.iload_n 0, 1) := by decide +kernel
theorem dX12_isDigit_7 : decode cX12_isDigit 7 = .ok (.bipush 57, 2) := by decide +kernel
theorem dX12_isDigit_9 : decode cX12_isDigit 9 = .ok (.if_icmp .gt 7, 3) := by decide +kernel
theorem dX12_isDigit_12 : decode cX12_isDigit 12 = .ok (.iconst 1, 1) := by decide +kernel
theorem dX12_isDigit_13 : decode cX12_isDigit 13 = .ok (.goto 4, 3) := by decide +kernel
theorem dX12_isDigit_16 : decode cX12_isDigit 16 = .ok (.iconst 0, 1) := by decide +kernel
theorem dX12_isDigit_17 : decode cX12_isDigit 17 = .ok (.ireturn, 1) := by decide +kernel
theorem dX12_stepOn_0 : decode cX12_stepOn 0 = .ok (.aload_n 0, 1) := by decide +kernel
theorem dX12_stepOn_1 : decode cX12_stepOn 1 = .ok (.aload_n 0, 1) := by decide +kernel
theorem dX12_stepOn_2 : decode cX12_stepOn 2 = .ok (.getfield 140, 3) := by decide +kernel
theorem dX12_stepOn_5 : decode cX12_stepOn 5 = .ok (.invokevirtual 143, 3) := by decide +kernel
theorem dX12_stepOn_8 : decode cX12_stepOn 8 = .ok (.bipush 32, 2) := by decide +kernel
theorem dX12_stepOn_10 : decode cX12_stepOn 10 = .ok (.if_icmp .eq 16, 3) := by decide +kernel
theorem dX12_stepOn_13 : decode cX12_stepOn 13 = .ok (.aload_n 0, 1) := by decide +kernel
theorem dX12_stepOn_14 : decode cX12_stepOn 14 = .ok (.aload_n 0, 1) := by decide +kernel
theorem dX12_stepOn_15 : decode cX12_stepOn 15 = .ok (.getfield 140, 3) := by decide +kernel
theorem dX12_stepOn_18 : decode cX12_stepOn 18 = .ok (.invokevirtual 143, 3) := by decide +kernel
theorem dX12_stepOn_21 : decode cX12_stepOn 21 = .ok (.bipush 10, 2) := by decide +kernel
theorem dX12_stepOn_23 : decode cX12_stepOn 23 = .ok (.if_icmp .ne 16, 3) := by decide +kernel
theorem dX12_stepOn_26 : decode cX12_stepOn 26 = .ok (.aload_n 0, 1) := by decide +kernel
theorem dX12_stepOn_27 : decode cX12_stepOn 27 = .ok (.dup, 1) := by decide +kernel
theorem dX12_stepOn_28 : decode cX12_stepOn 28 = .ok (.getfield 140, 3) := by decide +kernel
theorem dX12_stepOn_31 : decode cX12_stepOn 31 = .ok (.iconst 1, 1) := by decide +kernel
theorem dX12_stepOn_32 : decode cX12_stepOn 32 = .ok (.iadd, 1) := by decide +kernel
theorem dX12_stepOn_33 : decode cX12_stepOn 33 = .ok (.putfield 140, 3) := by decide +kernel
theorem dX12_stepOn_36 : decode cX12_stepOn 36 = .ok (.goto (-36), 3) := by decide +kernel
theorem dX12_stepOn_39 : decode cX12_stepOn 39 = .ok (.aload_n 0, 1) := by decide +kernel
theorem dX12_stepOn_40 : decode cX12_stepOn 40 = .ok (.aload_n 0, 1) := by decide +kernel
theorem dX12_stepOn_41 : decode cX12_stepOn 41 = .ok (.getfield 140, 3) := by decide +kernel
theorem dX12_stepOn_44 : decode cX12_stepOn 44 = .ok (.putfield 147, 3) := by decide +kernel
theorem dX12_stepOn_47 : decode cX12_stepOn 47 = .ok (.aload_n 0, 1) := by decide +kernel
theorem dX12_stepOn_48 : decode cX12_stepOn 48 = .ok (.aload_n 0, 1) := by decide +kernel
theorem dX12_stepOn_49 : decode cX12_stepOn 49 = .ok (.getfield 140, 3) := by decide +kernel
theorem dX12_stepOn_52 : decode cX12_stepOn 52 = .ok (.invokevirtual 143, 3) := by decide +kernel
theorem dX12_stepOn_55 : decode cX12_stepOn 55 = .ok (.istore_n 1, 1) := by decide +kernel
theorem dX12_stepOn_56 : decode cX12_stepOn 56 = .ok (.iload_n 1, 1) := by decide +kernel
theorem dX12_stepOn_57 : decode cX12_stepOn 57 = .ok (.iconst (-1), 1) := by decide +kernel
theorem dX12_stepOn_58 : decode cX12_stepOn 58 = .ok (.if_icmp .ne 11, 3) := by decide +kernel
theorem dX12_stepOn_61 : decode cX12_stepOn 61 = .ok (.aload_n 0, 1) := by decide +kernel
theorem dX12_stepOn_62 : decode cX12_stepOn 62 = .ok (.iconst 0, 1) := by decide +kernel
theorem dX12_stepOn_63 : decode cX12_stepOn 63 = .ok (.putfield 150, 3) := by decide +kernel
theorem dX12_stepOn_66 : decode cX12_stepOn 66 = .ok (.goto 145, 3) := by decide +kernel
theorem dX12_stepOn_69 : decode cX12_stepOn 69 = .ok (.iload_n 1, 1) := by decide +kernel
theorem dX12_stepOn_70 : decode cX12_stepOn 70 = .ok (.invokestatic 153, 3) := by decide +kernel
theorem dX12_stepOn_73 : decode cX12_stepOn 73 = .ok (.ifCond .eq 38, 3) := by decide +kernel
theorem dX12_stepOn_76 : decode cX12_stepOn 76 = .ok (.aload_n 0, 1) := by decide +kernel
theorem dX12_stepOn_77 : decode cX12_stepOn 77 = .ok (.aload_n 0, 1) := by decide +kernel
theorem dX12_stepOn_78 : decode cX12_stepOn 78 = .ok (.getfield 140, 3) := by decide +kernel
theorem dX12_stepOn_81 : decode cX12_stepOn 81 = .ok (.invokevirtual 143, 3) := by decide +kernel
theorem dX12_stepOn_84 : decode cX12_stepOn 84 = .ok (.invokestatic 153, 3) := by decide +kernel
theorem dX12_stepOn_87 : decode cX12_stepOn 87 = .ok (.ifCond .eq 16, 3) := by decide +kernel
theorem dX12_stepOn_90 : decode cX12_stepOn 90 = .ok (.aload_n 0, 1) := by decide +kernel
theorem dX12_stepOn_91 : decode cX12_stepOn 91 = .ok (.dup, 1) := by decide +kernel
theorem dX12_stepOn_92 : decode cX12_stepOn 92 = .ok (.getfield 140, 3) := by decide +kernel
theorem dX12_stepOn_95 : decode cX12_stepOn 95 = .ok (.iconst 1, 1) := by decide +kernel
theorem dX12_stepOn_96 : decode cX12_stepOn 96 = .ok (.iadd, 1) := by decide +kernel
theorem dX12_stepOn_97 : decode cX12_stepOn 97 = .ok (.putfield 140, 3) := by decide +kernel
theorem dX12_stepOn_100 : decode cX12_stepOn 100 = .ok (.goto (-24), 3) := by decide +kernel
theorem dX12_stepOn_103 : decode cX12_stepOn 103 = .ok (.aload_n 0, 1) := by decide +kernel
theorem dX12_stepOn_104 : decode cX12_stepOn 104 = .ok (.iconst 1, 1) := by decide +kernel
theorem dX12_stepOn_105 : decode cX12_stepOn 105 = .ok (.putfield 150, 3) := by decide +kernel
theorem dX12_stepOn_108 : decode cX12_stepOn 108 = .ok (.goto 103, 3) := by decide +kernel
theorem dX12_stepOn_111 : decode cX12_stepOn 111 = .ok (.iload_n 1, 1) := by decide +kernel
theorem dX12_stepOn_112 : decode cX12_stepOn 112 = .ok (.invokestatic 157, 3) := by decide +kernel
theorem dX12_stepOn_115 : decode cX12_stepOn 115 = .ok (.ifCond .eq 71, 3) := by decide +kernel
theorem dX12_stepOn_118 : decode cX12_stepOn 118 = .ok (.aload_n 0, 1) := by decide +kernel
theorem dX12_stepOn_119 : decode cX12_stepOn 119 = .ok (.iconst 0, 1) := by decide +kernel
theorem dX12_stepOn_120 : decode cX12_stepOn 120 = .ok (.putfield 160, 3) := by decide +kernel
theorem dX12_stepOn_123 : decode cX12_stepOn 123 = .ok (.aload_n 0, 1) := by decide +kernel
theorem dX12_stepOn_124 : decode cX12_stepOn 124 = .ok (.aload_n 0, 1) := by decide +kernel
theorem dX12_stepOn_125 : decode cX12_stepOn 125 = .ok (.getfield 140, 3) := by decide +kernel
theorem dX12_stepOn_128 : decode cX12_stepOn 128 = .ok (.invokevirtual 143, 3) := by decide +kernel
theorem dX12_stepOn_131 : decode cX12_stepOn 131 = .ok (.invokestatic 157, 3) := by decide +kernel
theorem dX12_stepOn_134 : decode cX12_stepOn 134 = .ok (.ifCond .eq 44, 3) := by decide +kernel
theorem dX12_stepOn_137 : decode cX12_stepOn 137 = .ok (.aload_n 0, 1) := by decide +kernel
theorem dX12_stepOn_138 : decode cX12_stepOn 138 = .ok (.ldc 163, 2) := by decide +kernel
theorem dX12_stepOn_140 : decode cX12_stepOn 140 = .ok (.bipush 10, 2) := by decide +kernel
theorem dX12_stepOn_142 : decode cX12_stepOn 142 = .ok (.aload_n 0, 1) := by decide +kernel
theorem dX12_stepOn_143 : decode cX12_stepOn 143 = .ok (.getfield 160, 3) := by decide +kernel
theorem dX12_stepOn_146 : decode cX12_stepOn 146 = .ok (.imul, 1) := by decide +kernel
theorem dX12_stepOn_147 : decode cX12_stepOn 147 = .ok (.aload_n 0, 1) := by decide +kernel
theorem dX12_stepOn_148 : decode cX12_stepOn 148 = .ok (.aload_n 0, 1) := by decide +kernel
theorem dX12_stepOn_149 : decode cX12_stepOn 149 = .ok (.getfield 140, 3) := by decide +kernel
theorem dX12_stepOn_152 : decode cX12_stepOn 152 = .ok (.invokevirtual 143, 3) := by decide +kernel
theorem dX12_stepOn_155 : decode cX12_stepOn 155 = .ok (.iadd, 1) := by decide +kernel
theorem dX12_stepOn_156 : decode cX12_stepOn 156 = .ok (.bipush 48, 2) := by decide +kernel
theorem dX12_stepOn_158 : decode cX12_stepOn 158 = .ok (.isub, 1) := by decide +kernel
theorem dX12_stepOn_159 : decode cX12_stepOn 159 = .ok (.invokestatic 164, 3) := by decide +kernel
theorem dX12_stepOn_162 : decode cX12_stepOn 162 = .ok (.putfield 160, 3) := by decide +kernel
theorem dX12_stepOn_165 : decode cX12_stepOn 165 = .ok (.aload_n 0, 1) := by decide +kernel
theorem dX12_stepOn_166 : decode cX12_stepOn 166 = .ok (.dup, 1) := by decide +kernel
theorem dX12_stepOn_167 : decode cX12_stepOn 167 = .ok (.getfield 140, 3) := by decide +kernel
theorem dX12_stepOn_170 : decode cX12_stepOn 170 = .ok (.iconst 1, 1) := by decide +kernel
theorem dX12_stepOn_171 : decode cX12_stepOn 171 = .ok (.iadd, 1) := by decide +kernel
theorem dX12_stepOn_172 : decode cX12_stepOn 172 = .ok (.putfield 140, 3) := by decide +kernel
theorem dX12_stepOn_175 : decode cX12_stepOn 175 = .ok (.goto (-52), 3) := by decide +kernel
theorem dX12_stepOn_178 : decode cX12_stepOn 178 = .ok (.aload_n 0, 1) := by decide +kernel
theorem dX12_stepOn_179 : decode cX12_stepOn 179 = .ok (.iconst 2, 1) := by decide +kernel
theorem dX12_stepOn_180 : decode cX12_stepOn 180 = .ok (.putfield 150, 3) := by decide +kernel
theorem dX12_stepOn_183 : decode cX12_stepOn 183 = .ok (.goto 28, 3) := by decide +kernel
theorem dX12_stepOn_186 : decode cX12_stepOn 186 = .ok (.aload_n 0, 1) := by decide +kernel
theorem dX12_stepOn_187 : decode cX12_stepOn 187 = .ok (.dup, 1) := by decide +kernel
theorem dX12_stepOn_188 : decode cX12_stepOn 188 = .ok (.getfield 140, 3) := by decide +kernel
theorem dX12_stepOn_191 : decode cX12_stepOn 191 = .ok (.iconst 1, 1) := by decide +kernel
theorem dX12_stepOn_192 : decode cX12_stepOn 192 = .ok (.iadd, 1) := by decide +kernel
theorem dX12_stepOn_193 : decode cX12_stepOn 193 = .ok (.putfield 140, 3) := by decide +kernel
theorem dX12_stepOn_196 : decode cX12_stepOn 196 = .ok (.aload_n 0, 1) := by decide +kernel
theorem dX12_stepOn_197 : decode cX12_stepOn 197 = .ok (.iload_n 1, 1) := by decide +kernel
theorem dX12_stepOn_198 : decode cX12_stepOn 198 = .ok (.bipush 59, 2) := by decide +kernel
theorem dX12_stepOn_200 : decode cX12_stepOn 200 = .ok (.if_icmp .ne 7, 3) := by decide +kernel
theorem dX12_stepOn_203 : decode cX12_stepOn 203 = .ok (.iconst 3, 1) := by decide +kernel
theorem dX12_stepOn_204 : decode cX12_stepOn 204 = .ok (.goto 4, 3) := by decide +kernel
theorem dX12_stepOn_207 : decode cX12_stepOn 207 = .ok (.iconst 4, 1) := by decide +kernel
theorem dX12_stepOn_208 : decode cX12_stepOn 208 = .ok (.putfield 150, 3) := by decide +kernel
theorem dX12_stepOn_211 : decode cX12_stepOn 211 = .ok (.aload_n 0, 1) := by decide +kernel
theorem dX12_stepOn_212 : decode cX12_stepOn 212 = .ok (.aload_n 0, 1) := by decide +kernel
theorem dX12_stepOn_213 : decode cX12_stepOn 213 = .ok (.getfield 140, 3) := by decide +kernel
theorem dX12_stepOn_216 : decode cX12_stepOn 216 = .ok (.putfield 170, 3) := by decide +kernel
theorem dX12_stepOn_219 : decode cX12_stepOn 219 = .ok (.return_, 1) := by decide +kernel
theorem dX12_wrong_0 : decode cX12_wrong 0 = .ok (.aload_n 0, 1) := by decide +kernel
theorem dX12_wrong_1 : decode cX12_wrong 1 = .ok (.getfield 173, 3) := by decide +kernel
theorem dX12_wrong_4 : decode cX12_wrong 4 = .ok (.ifCond .eq 4, 3) := by decide +kernel
theorem dX12_wrong_7 : decode cX12_wrong 7 = .ok (.return_, 1) := by decide +kernel
theorem dX12_wrong_8 : decode cX12_wrong 8 = .ok (.aload_n 0, 1) := by decide +kernel
theorem dX12_wrong_9 : decode cX12_wrong 9 = .ok (.iload_n 1, 1) := by decide +kernel
theorem dX12_wrong_10 : decode cX12_wrong 10 = .ok (.putfield 173, 3) := by decide +kernel
theorem dX12_wrong_13 : decode cX12_wrong 13 = .ok (.aload_n 0, 1) := by decide +kernel
theorem dX12_wrong_14 : decode cX12_wrong 14 = .ok (.aload_n 0, 1) := by decide +kernel
theorem dX12_wrong_15 : decode cX12_wrong 15 = .ok (.getfield 147, 3) := by decide +kernel
theorem dX12_wrong_18 : decode cX12_wrong 18 = .ok (.putfield 176, 3) := by decide +kernel
theorem dX12_wrong_21 : decode cX12_wrong 21 = .ok (.return_, 1) := by decide +kernel
theorem dX12_is_0 : decode cX12_is 0 = .ok (.aload_n 0, 1) := by decide +kernel
theorem dX12_is_1 : decode cX12_is 1 = .ok (.getfield 173, 3) := by decide +kernel
theorem dX12_is_4 : decode cX12_is 4 = .ok (.ifCond .ne 31, 3) := by decide +kernel
theorem dX12_is_7 : decode cX12_is 7 = .ok (.aload_n 0, 1) := by decide +kernel
theorem dX12_is_8 : decode cX12_is 8 = .ok (.getfield 150, 3) := by decide +kernel
theorem dX12_is_11 : decode cX12_is 11 = .ok (.iconst 1, 1) := by decide +kernel
theorem dX12_is_12 : decode cX12_is 12 = .ok (.if_icmp .ne 23, 3) := by decide +kernel
theorem dX12_is_15 : decode cX12_is 15 = .ok (.aload_n 1, 1) := by decide +kernel
theorem dX12_is_16 : decode cX12_is 16 = .ok (.invokevirtual 179, 3) := by decide +kernel
theorem dX12_is_19 : decode cX12_is 19 = .ok (.aload_n 0, 1) := by decide +kernel
theorem dX12_is_20 : decode cX12_is 20 = .ok (.getfield 170, 3) := by decide +kernel
theorem dX12_is_23 : decode cX12_is 23 = .ok (.aload_n 0, 1) := by decide +kernel
theorem dX12_is_24 : decode cX12_is 24 = .ok (.getfield 147, 3) := by decide +kernel
theorem dX12_is_27 : decode cX12_is 27 = .ok (.isub, 1) := by decide +kernel
theorem dX12_is_28 : decode cX12_is 28 = .ok (.if_icmp .ne 7, 3) := by decide +kernel
theorem dX12_is_31 : decode cX12_is 31 = .ok (.iconst 1, 1) := by decide +kernel
theorem dX12_is_32 : decode cX12_is 32 = .ok (.goto 4, 3) := by decide +kernel
theorem dX12_is_35 : decode cX12_is 35 = .ok (.iconst 0, 1) := by decide +kernel
theorem dX12_is_36 : decode cX12_is 36 = .ok (.istore_n 2, 1) := by decide +kernel
theorem dX12_is_37 : decode cX12_is 37 = .ok (.iconst 0, 1) := by decide +kernel
theorem dX12_is_38 : decode cX12_is 38 = .ok (.istore_n 3, 1) := by decide +kernel
theorem dX12_is_39 : decode cX12_is 39 = .ok (.iload_n 2, 1) := by decide +kernel
theorem dX12_is_40 : decode cX12_is 40 = .ok (.ifCond .eq 42, 3) := by decide +kernel
theorem dX12_is_43 : decode cX12_is 43 = .ok (.iload_n 3, 1) := by decide +kernel
theorem dX12_is_44 : decode cX12_is 44 = .ok (.aload_n 1, 1) := by decide +kernel
theorem dX12_is_45 : decode cX12_is 45 = .ok (.invokevirtual 179, 3) := by decide +kernel
theorem dX12_is_48 : decode cX12_is 48 = .ok (.if_icmp .ge 34, 3) := by decide +kernel
theorem dX12_is_51 : decode cX12_is 51 = .ok (.aload_n 1, 1) := by decide +kernel
theorem dX12_is_52 : decode cX12_is 52 = .ok (.iload_n 3, 1) := by decide +kernel
theorem dX12_is_53 : decode cX12_is 53 = .ok (.invokevirtual 183, 3) := by decide +kernel
theorem dX12_is_56 : decode cX12_is 56 = .ok (.aload_n 0, 1) := by decide +kernel
theorem dX12_is_57 : decode cX12_is 57 = .ok (.getfield 74, 3) := by decide +kernel
theorem dX12_is_60 : decode cX12_is 60 = .ok (.aload_n 0, 1) := by decide +kernel
theorem dX12_is_61 : decode cX12_is 61 = .ok (.getfield 147, 3) := by decide +kernel
theorem dX12_is_64 : decode cX12_is 64 = .ok (.iload_n 3, 1) := by decide +kernel
theorem dX12_is_65 : decode cX12_is 65 = .ok (.iadd, 1) := by decide +kernel
theorem dX12_is_66 : decode cX12_is 66 = .ok (.iaload, 1) := by decide +kernel
theorem dX12_is_67 : decode cX12_is 67 = .ok (.if_icmp .ne 7, 3) := by decide +kernel
theorem dX12_is_70 : decode cX12_is 70 = .ok (.iconst 1, 1) := by decide +kernel
theorem dX12_is_71 : decode cX12_is 71 = .ok (.goto 4, 3) := by decide +kernel
theorem dX12_is_74 : decode cX12_is 74 = .ok (.iconst 0, 1) := by decide +kernel
theorem dX12_is_75 : decode cX12_is 75 = .ok (.istore_n 2, 1) := by decide +kernel
theorem dX12_is_76 : decode cX12_is 76 = .ok (.iinc 3 1, 3) := by decide +kernel
theorem dX12_is_79 : decode cX12_is 79 = .ok (.goto (-40), 3) := by decide +kernel
theorem dX12_is_82 : decode cX12_is 82 = .ok (.iload_n 2, 1) := by decide +kernel
theorem dX12_is_83 : decode cX12_is 83 = .ok (.ireturn, 1) := by decide +kernel
theorem dX12_which_0 : decode cX12_which 0 = .ok (.iconst 0, 1) := by decide +kernel
theorem dX12_which_1 : decode cX12_which 1 = .ok (.istore_n 2, 1) := by decide +kernel
theorem dX12_which_2 : decode cX12_which 2 = .ok (.iload_n 2, 1) := by decide +kernel
theorem dX12_which_3 : decode cX12_which 3 = .ok (.aload_n 1, 1) := by decide +kernel
theorem dX12_which_4 : decode cX12_which 4 = .ok (.arraylength, 1) := by decide +kernel
theorem dX12_which_5 : decode cX12_which 5 = .ok (.if_icmp .ge 21, 3) := by decide +kernel
theorem dX12_which_8 : decode cX12_which 8 = .ok (.aload_n 0, 1) := by decide +kernel
theorem dX12_which_9 : decode cX12_which 9 = .ok (.aload_n 1, 1) := by decide +kernel
theorem dX12_which_10 : decode cX12_which 10 = .ok (.iload_n 2, 1) := by decide +kernel
theorem dX12_which_11 : decode cX12_which 11 = .ok (.aaload, 1) := by decide +kernel
theorem dX12_which_12 : decode cX12_which 12 = .ok (.invokevirtual 187, 3) := by decide +kernel
theorem dX12_which_15 : decode cX12_which 15 = .ok (.ifCond .eq 5, 3) := by decide +kernel
theorem dX12_which_18 : decode cX12_which 18 = .ok (.iload_n 2, 1) := by decide +kernel
theorem dX12_which_19 : decode cX12_which 19 = .ok (.ireturn, 1) := by decide +kernel
theorem dX12_which_20 : decode cX12_which 20 = .ok (.iinc 2 1, 3) := by decide +kernel
theorem dX12_which_23 : decode cX12_which 23 = .ok (.goto (-21), 3) := by decide +kernel
theorem dX12_which_26 : decode cX12_which 26 = .ok (.iconst (-1), 1) := by decide +kernel
theorem dX12_which_27 : decode cX12_which 27 = .ok (.ireturn, 1) := by decide +kernel
theorem dX12_pass_0 : decode cX12_pass 0 = .ok (.aload_n 0, 1) := by decide +kernel
theorem dX12_pass_1 : decode cX12_pass 1 = .ok (.getfield 173, 3) := by decide +kernel
theorem dX12_pass_4 : decode cX12_pass 4 = .ok (.ifCond .ne 7, 3) := by decide +kernel
theorem dX12_pass_7 : decode cX12_pass 7 = .ok (.aload_n 0, 1) := by decide +kernel
theorem dX12_pass_8 : decode cX12_pass 8 = .ok (.invokevirtual 191, 3) := by decide +kernel
theorem dX12_pass_11 : decode cX12_pass 11 = .ok (.return_, 1) := by decide +kernel
theorem dX12_numberNow_0 : decode cX12_numberNow 0 = .ok (.aload_n 0, 1) := by decide +kernel
theorem dX12_numberNow_1 : decode cX12_numberNow 1 = .ok (.getfield 173, 3) := by decide +kernel
theorem dX12_numberNow_4 : decode cX12_numberNow 4 = .ok (.ifCond .eq 5, 3) := by decide +kernel
theorem dX12_numberNow_7 : decode cX12_numberNow 7 = .ok (.iload_n 1, 1) := by decide +kernel
theorem dX12_numberNow_8 : decode cX12_numberNow 8 = .ok (.ireturn, 1) := by decide +kernel
theorem dX12_numberNow_9 : decode cX12_numberNow 9 = .ok (.aload_n 0, 1) := by decide +kernel
theorem dX12_numberNow_10 : decode cX12_numberNow 10 = .ok (.getfield 150, 3) := by decide +kernel
theorem dX12_numberNow_13 : decode cX12_numberNow 13 = .ok (.iconst 2, 1) := by decide +kernel
theorem dX12_numberNow_14 : decode cX12_numberNow 14 = .ok (.if_icmp .eq 11, 3) := by decide +kernel
theorem dX12_numberNow_17 : decode cX12_numberNow 17 = .ok (.aload_n 0, 1) := by decide +kernel
theorem dX12_numberNow_18 : decode cX12_numberNow 18 = .ok (.iconst 1, 1) := by decide +kernel
theorem dX12_numberNow_19 : decode cX12_numberNow 19 = .ok (.invokevirtual 194, 3) := by decide +kernel
theorem dX12_numberNow_22 : decode cX12_numberNow 22 = .ok (.goto 37, 3) := by decide +kernel
theorem dX12_numberNow_25 : decode cX12_numberNow 25 = .ok (.aload_n 0, 1) := by decide +kernel
theorem dX12_numberNow_26 : decode cX12_numberNow 26 = .ok (.getfield 170, 3) := by decide +kernel
theorem dX12_numberNow_29 : decode cX12_numberNow 29 = .ok (.aload_n 0, 1) := by decide +kernel
theorem dX12_numberNow_30 : decode cX12_numberNow 30 = .ok (.getfield 147, 3) := by decide +kernel
theorem dX12_numberNow_33 : decode cX12_numberNow 33 = .ok (.isub, 1) := by decide +kernel
theorem dX12_numberNow_34 : decode cX12_numberNow 34 = .ok (.iconst 3, 1) := by decide +kernel
theorem dX12_numberNow_35 : decode cX12_numberNow 35 = .ok (.if_icmp .gt 19, 3) := by decide +kernel
theorem dX12_numberNow_38 : decode cX12_numberNow 38 = .ok (.aload_n 0, 1) := by decide +kernel
theorem dX12_numberNow_39 : decode cX12_numberNow 39 = .ok (.getfield 160, 3) := by decide +kernel
theorem dX12_numberNow_42 : decode cX12_numberNow 42 = .ok (.iload_n 1, 1) := by decide +kernel
theorem dX12_numberNow_43 : decode cX12_numberNow 43 = .ok (.if_icmp .lt 11, 3) := by decide +kernel
theorem dX12_numberNow_46 : decode cX12_numberNow 46 = .ok (.aload_n 0, 1) := by decide +kernel
theorem dX12_numberNow_47 : decode cX12_numberNow 47 = .ok (.getfield 160, 3) := by decide +kernel
theorem dX12_numberNow_50 : decode cX12_numberNow 50 = .ok (.iload_n 2, 1) := by decide +kernel
theorem dX12_numberNow_51 : decode cX12_numberNow 51 = .ok (.if_icmp .le 8, 3) := by decide +kernel
theorem dX12_numberNow_54 : decode cX12_numberNow 54 = .ok (.aload_n 0, 1) := by decide +kernel
theorem dX12_numberNow_55 : decode cX12_numberNow 55 = .ok (.iconst 2, 1) := by decide +kernel
theorem dX12_numberNow_56 : decode cX12_numberNow 56 = .ok (.invokevirtual 194, 3) := by decide +kernel
theorem dX12_numberNow_59 : decode cX12_numberNow 59 = .ok (.aload_n 0, 1) := by decide +kernel
theorem dX12_numberNow_60 : decode cX12_numberNow 60 = .ok (.getfield 173, 3) := by decide +kernel
theorem dX12_numberNow_63 : decode cX12_numberNow 63 = .ok (.ifCond .ne 10, 3) := by decide +kernel
theorem dX12_numberNow_66 : decode cX12_numberNow 66 = .ok (.aload_n 0, 1) := by decide +kernel
theorem dX12_numberNow_67 : decode cX12_numberNow 67 = .ok (.getfield 160, 3) := by decide +kernel
theorem dX12_numberNow_70 : decode cX12_numberNow 70 = .ok (.goto 4, 3) := by decide +kernel
theorem dX12_numberNow_73 : decode cX12_numberNow 73 = .ok (.iload_n 1, 1) := by decide +kernel
theorem dX12_numberNow_74 : decode cX12_numberNow 74 = .ok (.ireturn, 1) := by decide +kernel
theorem dX12_readNumber_0 : decode cX12_readNumber 0 = .ok (.aload_n 0, 1) := by decide +kernel
theorem dX12_readNumber_1 : decode cX12_readNumber 1 = .ok (.iload_n 1, 1) := by decide +kernel
theorem dX12_readNumber_2 : decode cX12_readNumber 2 = .ok (.iload_n 2, 1) := by decide +kernel
theorem dX12_readNumber_3 : decode cX12_readNumber 3 = .ok (.invokevirtual 198, 3) := by decide +kernel
theorem dX12_readNumber_6 : decode cX12_readNumber 6 = .ok (.istore_n 3, 1) := by decide +kernel
theorem dX12_readNumber_7 : decode cX12_readNumber 7 = .ok (.aload_n 0, 1) := by decide +kernel
theorem dX12_readNumber_8 : decode cX12_readNumber 8 = .ok (.invokevirtual 201, 3) := by decide +kernel
theorem dX12_readNumber_11 : decode cX12_readNumber 11 = .ok (.iload_n 3, 1) := by decide +kernel
theorem dX12_readNumber_12 : decode cX12_readNumber 12 = .ok (.ireturn, 1) := by decide +kernel
theorem dX12_oneNow_0 : decode cX12_oneNow 0 = .ok (.aload_n 0, 1) := by decide +kernel
theorem dX12_oneNow_1 : decode cX12_oneNow 1 = .ok (.iconst 0, 1) := by decide +kernel
theorem dX12_oneNow_2 : decode cX12_oneNow 2 = .ok (.iload_n 1, 1) := by decide +kernel
theorem dX12_oneNow_3 : decode cX12_oneNow 3 = .ok (.iconst 1, 1) := by decide +kernel
theorem dX12_oneNow_4 : decode cX12_oneNow 4 = .ok (.isub, 1) := by decide +kernel
theorem dX12_oneNow_5 : decode cX12_oneNow 5 = .ok (.invokevirtual 198, 3) := by decide +kernel
theorem dX12_oneNow_8 : decode cX12_oneNow 8 = .ok (.istore_n 3, 1) := by decide +kernel
theorem dX12_oneNow_9 : decode cX12_oneNow 9 = .ok (.aload_n 0, 1) := by decide +kernel
theorem dX12_oneNow_10 : decode cX12_oneNow 10 = .ok (.getfield 173, 3) := by decide +kernel
theorem dX12_oneNow_13 : decode cX12_oneNow 13 = .ok (.ifCond .ne 22, 3) := by decide +kernel
theorem dX12_oneNow_16 : decode cX12_oneNow 16 = .ok (.iload_n 3, 1) := by decide +kernel
theorem dX12_oneNow_17 : decode cX12_oneNow 17 = .ok (.aload_n 0, 1) := by decide +kernel
theorem dX12_oneNow_18 : decode cX12_oneNow 18 = .ok (.getfield 68, 3) := by decide +kernel
theorem dX12_oneNow_21 : decode cX12_oneNow 21 = .ok (.sipush 163, 3) := by decide +kernel
theorem dX12_oneNow_24 : decode cX12_oneNow 24 = .ok (.iload_n 2, 1) := by decide +kernel
theorem dX12_oneNow_25 : decode cX12_oneNow 25 = .ok (.iadd, 1) := by decide +kernel
theorem dX12_oneNow_26 : decode cX12_oneNow 26 = .ok (.iaload, 1) := by decide +kernel
theorem dX12_oneNow_27 : decode cX12_oneNow 27 = .ok (.if_icmp .lt 8, 3) := by decide +kernel
theorem dX12_oneNow_30 : decode cX12_oneNow 30 = .ok (.aload_n 0, 1) := by decide +kernel
theorem dX12_oneNow_31 : decode cX12_oneNow 31 = .ok (.iconst 3, 1) := by decide +kernel
theorem dX12_oneNow_32 : decode cX12_oneNow 32 = .ok (.invokevirtual 194, 3) := by decide +kernel
theorem dX12_oneNow_35 : decode cX12_oneNow 35 = .ok (.iload_n 3, 1) := by decide +kernel
theorem dX12_oneNow_36 : decode cX12_oneNow 36 = .ok (.ireturn, 1) := by decide +kernel
theorem dX12_readOne_0 : decode cX12_readOne 0 = .ok (.aload_n 0, 1) := by decide +kernel
theorem dX12_readOne_1 : decode cX12_readOne 1 = .ok (.iload_n 1, 1) := by decide +kernel
theorem dX12_readOne_2 : decode cX12_readOne 2 = .ok (.iload_n 2, 1) := by decide +kernel
theorem dX12_readOne_3 : decode cX12_readOne 3 = .ok (.invokevirtual 204, 3) := by decide +kernel
theorem dX12_readOne_6 : decode cX12_readOne 6 = .ok (.istore_n 3, 1) := by decide +kernel
theorem dX12_readOne_7 : decode cX12_readOne 7 = .ok (.aload_n 0, 1) := by decide +kernel
theorem dX12_readOne_8 : decode cX12_readOne 8 = .ok (.invokevirtual 201, 3) := by decide +kernel
theorem dX12_readOne_11 : decode cX12_readOne 11 = .ok (.iload_n 3, 1) := by decide +kernel
theorem dX12_readOne_12 : decode cX12_readOne 12 = .ok (.ireturn, 1) := by decide +kernel
theorem dX12_readWord_0 : decode cX12_readWord 0 = .ok (.aload_n 0, 1) := by decide +kernel
theorem dX12_readWord_1 : decode cX12_readWord 1 = .ok (.aload_n 1, 1) := by decide +kernel
theorem dX12_readWord_2 : decode cX12_readWord 2 = .ok (.invokevirtual 207, 3) := by decide +kernel
theorem dX12_readWord_5 : decode cX12_readWord 5 = .ok (.istore_n 2, 1) := by decide +kernel
theorem dX12_readWord_6 : decode cX12_readWord 6 = .ok (.iload_n 2, 1) := by decide +kernel
theorem dX12_readWord_7 : decode cX12_readWord 7 = .ok (.iconst (-1), 1) := by decide +kernel
theorem dX12_readWord_8 : decode cX12_readWord 8 = .ok (.if_icmp .ne 8, 3) := by decide +kernel
theorem dX12_readWord_11 : decode cX12_readWord 11 = .ok (.aload_n 0, 1) := by decide +kernel
theorem dX12_readWord_12 : decode cX12_readWord 12 = .ok (.iconst 1, 1) := by decide +kernel
theorem dX12_readWord_13 : decode cX12_readWord 13 = .ok (.invokevirtual 194, 3) := by decide +kernel
theorem dX12_readWord_16 : decode cX12_readWord 16 = .ok (.aload_n 0, 1) := by decide +kernel
theorem dX12_readWord_17 : decode cX12_readWord 17 = .ok (.invokevirtual 201, 3) := by decide +kernel
theorem dX12_readWord_20 : decode cX12_readWord 20 = .ok (.iload_n 2, 1) := by decide +kernel
theorem dX12_readWord_21 : decode cX12_readWord 21 = .ok (.ireturn, 1) := by decide +kernel
theorem dX12_readZone_0 : decode cX12_readZone 0 = .ok (.aload_n 0, 1) := by decide +kernel
theorem dX12_readZone_1 : decode cX12_readZone 1 = .ok (.getfield 68, 3) := by decide +kernel
theorem dX12_readZone_4 : decode cX12_readZone 4 = .ok (.sipush 163, 3) := by decide +kernel
theorem dX12_readZone_7 : decode cX12_readZone 7 = .ok (.iaload, 1) := by decide +kernel
theorem dX12_readZone_8 : decode cX12_readZone 8 = .ok (.istore_n 1, 1) := by decide +kernel
theorem dX12_readZone_9 : decode cX12_readZone 9 = .ok (.aload_n 0, 1) := by decide +kernel
theorem dX12_readZone_10 : decode cX12_readZone 10 = .ok (.getfield 65, 3) := by decide +kernel
theorem dX12_readZone_13 : decode cX12_readZone 13 = .ok (.iconst 5, 1) := by decide +kernel
theorem dX12_readZone_14 : decode cX12_readZone 14 = .ok (.iload_n 1, 1) := by decide +kernel
theorem dX12_readZone_15 : decode cX12_readZone 15 = .ok (.iadd, 1) := by decide +kernel
theorem dX12_readZone_16 : decode cX12_readZone 16 = .ok (.aload_n 0, 1) := by decide +kernel
theorem dX12_readZone_17 : decode cX12_readZone 17 = .ok (.iconst 0, 1) := by decide +kernel
theorem dX12_readZone_18 : decode cX12_readZone 18 = .ok (.bipush 99, 2) := by decide +kernel
theorem dX12_readZone_20 : decode cX12_readZone 20 = .ok (.invokevirtual 211, 3) := by decide +kernel
theorem dX12_readZone_23 : decode cX12_readZone 23 = .ok (.iastore, 1) := by decide +kernel
theorem dX12_readZone_24 : decode cX12_readZone 24 = .ok (.aload_n 0, 1) := by decide +kernel
theorem dX12_readZone_25 : decode cX12_readZone 25 = .ok (.getfield 68, 3) := by decide +kernel
theorem dX12_readZone_28 : decode cX12_readZone 28 = .ok (.iconst 0, 1) := by decide +kernel
theorem dX12_readZone_29 : decode cX12_readZone 29 = .ok (.iload_n 1, 1) := by decide +kernel
theorem dX12_readZone_30 : decode cX12_readZone 30 = .ok (.iadd, 1) := by decide +kernel
theorem dX12_readZone_31 : decode cX12_readZone 31 = .ok (.aload_n 0, 1) := by decide +kernel
theorem dX12_readZone_32 : decode cX12_readZone 32 = .ok (.iconst 1, 1) := by decide +kernel
theorem dX12_readZone_33 : decode cX12_readZone 33 = .ok (.bipush 50, 2) := by decide +kernel
theorem dX12_readZone_35 : decode cX12_readZone 35 = .ok (.invokevirtual 211, 3) := by decide +kernel
theorem dX12_readZone_38 : decode cX12_readZone 38 = .ok (.iastore, 1) := by decide +kernel
theorem dX12_readZone_39 : decode cX12_readZone 39 = .ok (.aload_n 0, 1) := by decide +kernel
theorem dX12_readZone_40 : decode cX12_readZone 40 = .ok (.aload_n 0, 1) := by decide +kernel
theorem dX12_readZone_41 : decode cX12_readZone 41 = .ok (.getfield 35, 3) := by decide +kernel
theorem dX12_readZone_44 : decode cX12_readZone 44 = .ok (.invokevirtual 207, 3) := by decide +kernel
theorem dX12_readZone_47 : decode cX12_readZone 47 = .ok (.istore_n 2, 1) := by decide +kernel
theorem dX12_readZone_48 : decode cX12_readZone 48 = .ok (.aload_n 0, 1) := by decide +kernel
theorem dX12_readZone_49 : decode cX12_readZone 49 = .ok (.getfield 68, 3) := by decide +kernel
theorem dX12_readZone_52 : decode cX12_readZone 52 = .ok (.iconst 5, 1) := by decide +kernel
theorem dX12_readZone_53 : decode cX12_readZone 53 = .ok (.iload_n 1, 1) := by decide +kernel
theorem dX12_readZone_54 : decode cX12_readZone 54 = .ok (.iadd, 1) := by decide +kernel
theorem dX12_readZone_55 : decode cX12_readZone 55 = .ok (.iload_n 2, 1) := by decide +kernel
theorem dX12_readZone_56 : decode cX12_readZone 56 = .ok (.ifCond .gt 7, 3) := by decide +kernel
theorem dX12_readZone_59 : decode cX12_readZone 59 = .ok (.iconst 0, 1) := by decide +kernel
theorem dX12_readZone_60 : decode cX12_readZone 60 = .ok (.goto 4, 3) := by decide +kernel
theorem dX12_readZone_63 : decode cX12_readZone 63 = .ok (.iload_n 2, 1) := by decide +kernel
theorem dX12_readZone_64 : decode cX12_readZone 64 = .ok (.iastore, 1) := by decide +kernel
theorem dX12_readZone_65 : decode cX12_readZone 65 = .ok (.aload_n 0, 1) := by decide +kernel
theorem dX12_readZone_66 : decode cX12_readZone 66 = .ok (.getfield 68, 3) := by decide +kernel
theorem dX12_readZone_69 : decode cX12_readZone 69 = .ok (.bipush 10, 2) := by decide +kernel
theorem dX12_readZone_71 : decode cX12_readZone 71 = .ok (.iload_n 1, 1) := by decide +kernel
theorem dX12_readZone_72 : decode cX12_readZone 72 = .ok (.iadd, 1) := by decide +kernel
theorem dX12_readZone_73 : decode cX12_readZone 73 = .ok (.iconst 1, 1) := by decide +kernel
theorem dX12_readZone_74 : decode cX12_readZone 74 = .ok (.iastore, 1) := by decide +kernel
theorem dX12_readZone_75 : decode cX12_readZone 75 = .ok (.iload_n 2, 1) := by decide +kernel
theorem dX12_readZone_76 : decode cX12_readZone 76 = .ok (.ifCond .gt 4, 3) := by decide +kernel
theorem dX12_readZone_79 : decode cX12_readZone 79 = .ok (.return_, 1) := by decide +kernel
theorem dX12_readZone_80 : decode cX12_readZone 80 = .ok (.aload_n 0, 1) := by decide +kernel
theorem dX12_readZone_81 : decode cX12_readZone 81 = .ok (.invokevirtual 201, 3) := by decide +kernel
theorem dX12_readZone_84 : decode cX12_readZone 84 = .ok (.aload_n 0, 1) := by decide +kernel
theorem dX12_readZone_85 : decode cX12_readZone 85 = .ok (.getfield 68, 3) := by decide +kernel
theorem dX12_readZone_88 : decode cX12_readZone 88 = .ok (.bipush 10, 2) := by decide +kernel
theorem dX12_readZone_90 : decode cX12_readZone 90 = .ok (.iload_n 1, 1) := by decide +kernel
theorem dX12_readZone_91 : decode cX12_readZone 91 = .ok (.iadd, 1) := by decide +kernel
theorem dX12_readZone_92 : decode cX12_readZone 92 = .ok (.aload_n 0, 1) := by decide +kernel
theorem dX12_readZone_93 : decode cX12_readZone 93 = .ok (.getfield 173, 3) := by decide +kernel
theorem dX12_readZone_96 : decode cX12_readZone 96 = .ok (.ifCond .ne 20, 3) := by decide +kernel
theorem dX12_readZone_99 : decode cX12_readZone 99 = .ok (.aload_n 0, 1) := by decide +kernel
theorem dX12_readZone_100 : decode cX12_readZone 100 = .ok (.getfield 150, 3) := by decide +kernel
theorem dX12_readZone_103 : decode cX12_readZone 103 = .ok (.iconst 2, 1) := by decide +kernel
theorem dX12_readZone_104 : decode cX12_readZone 104 = .ok (.if_icmp .ne 12, 3) := by decide +kernel
theorem dX12_readZone_107 : decode cX12_readZone 107 = .ok (.aload_n 0, 1) := by decide +kernel
theorem dX12_readZone_108 : decode cX12_readZone 108 = .ok (.iconst 1, 1) := by decide +kernel
theorem dX12_readZone_109 : decode cX12_readZone 109 = .ok (.iconst 4, 1) := by decide +kernel
theorem dX12_readZone_110 : decode cX12_readZone 110 = .ok (.invokevirtual 211, 3) := by decide +kernel
theorem dX12_readZone_113 : decode cX12_readZone 113 = .ok (.goto 4, 3) := by decide +kernel
theorem dX12_readZone_116 : decode cX12_readZone 116 = .ok (.iconst 3, 1) := by decide +kernel
theorem dX12_readZone_117 : decode cX12_readZone 117 = .ok (.iastore, 1) := by decide +kernel
theorem dX12_readZone_118 : decode cX12_readZone 118 = .ok (.return_, 1) := by decide +kernel
theorem dX12_hasCritical_0 : decode cX12_hasCritical 0 = .ok (.iconst 0, 1) := by decide +kernel
theorem dX12_hasCritical_1 : decode cX12_hasCritical 1 = .ok (.istore_n 2, 1) := by decide +kernel
theorem dX12_hasCritical_2 : decode cX12_hasCritical 2 = .ok (.iconst 0, 1) := by decide +kernel
theorem dX12_hasCritical_3 : decode cX12_hasCritical 3 = .ok (.istore_n 3, 1) := by decide +kernel
theorem dX12_hasCritical_4 : decode cX12_hasCritical 4 = .ok (.iload_n 3, 1) := by decide +kernel
theorem dX12_hasCritical_5 : decode cX12_hasCritical 5 = .ok (.aload_n 0, 1) := by decide +kernel
theorem dX12_hasCritical_6 : decode cX12_hasCritical 6 = .ok (.getfield 68, 3) := by decide +kernel
theorem dX12_hasCritical_9 : decode cX12_hasCritical 9 = .ok (.sipush 164, 3) := by decide +kernel
theorem dX12_hasCritical_12 : decode cX12_hasCritical 12 = .ok (.iaload, 1) := by decide +kernel
theorem dX12_hasCritical_13 : decode cX12_hasCritical 13 = .ok (.if_icmp .ge 45, 3) := by decide +kernel
theorem dX12_hasCritical_16 : decode cX12_hasCritical 16 = .ok (.iload_n 2, 1) := by decide +kernel
theorem dX12_hasCritical_17 : decode cX12_hasCritical 17 = .ok (.ifCond .ne 29, 3) := by decide +kernel
theorem dX12_hasCritical_20 : decode cX12_hasCritical 20 = .ok (.aload_n 0, 1) := by decide +kernel
theorem dX12_hasCritical_21 : decode cX12_hasCritical 21 = .ok (.getfield 68, 3) := by decide +kernel
theorem dX12_hasCritical_24 : decode cX12_hasCritical 24 = .ok (.bipush 25, 2) := by decide +kernel
theorem dX12_hasCritical_26 : decode cX12_hasCritical 26 = .ok (.iload_n 3, 1) := by decide +kernel
theorem dX12_hasCritical_27 : decode cX12_hasCritical 27 = .ok (.iadd, 1) := by decide +kernel
theorem dX12_hasCritical_28 : decode cX12_hasCritical 28 = .ok (.iaload, 1) := by decide +kernel
theorem dX12_hasCritical_29 : decode cX12_hasCritical 29 = .ok (.iconst 3, 1) := by decide +kernel
theorem dX12_hasCritical_30 : decode cX12_hasCritical 30 = .ok (.if_icmp .ne 20, 3) := by decide +kernel
theorem dX12_hasCritical_33 : decode cX12_hasCritical 33 = .ok (.aload_n 0, 1) := by decide +kernel
theorem dX12_hasCritical_34 : decode cX12_hasCritical 34 = .ok (.getfield 68, 3) := by decide +kernel
theorem dX12_hasCritical_37 : decode cX12_hasCritical 37 = .ok (.bipush 15, 2) := by decide +kernel
theorem dX12_hasCritical_39 : decode cX12_hasCritical 39 = .ok (.iload_n 3, 1) := by decide +kernel
theorem dX12_hasCritical_40 : decode cX12_hasCritical 40 = .ok (.iadd, 1) := by decide +kernel
theorem dX12_hasCritical_41 : decode cX12_hasCritical 41 = .ok (.iaload, 1) := by decide +kernel
theorem dX12_hasCritical_42 : decode cX12_hasCritical 42 = .ok (.iload_n 1, 1) := by decide +kernel
theorem dX12_hasCritical_43 : decode cX12_hasCritical 43 = .ok (.if_icmp .ne 7, 3) := by decide +kernel
theorem dX12_hasCritical_46 : decode cX12_hasCritical 46 = .ok (.iconst 1, 1) := by decide +kernel
theorem dX12_hasCritical_47 : decode cX12_hasCritical 47 = .ok (.goto 4, 3) := by decide +kernel
theorem dX12_hasCritical_50 : decode cX12_hasCritical 50 = .ok (.iconst 0, 1) := by decide +kernel
theorem dX12_hasCritical_51 : decode cX12_hasCritical 51 = .ok (.istore_n 2, 1) := by decide +kernel
theorem dX12_hasCritical_52 : decode cX12_hasCritical 52 = .ok (.iinc 3 1, 3) := by decide +kernel
theorem dX12_hasCritical_55 : decode cX12_hasCritical 55 = .ok (.goto (-51), 3) := by decide +kernel
theorem dX12_hasCritical_58 : decode cX12_hasCritical 58 = .ok (.iload_n 2, 1) := by decide +kernel
theorem dX12_hasCritical_59 : decode cX12_hasCritical 59 = .ok (.ireturn, 1) := by decide +kernel
theorem dX12_readTrip_0 : decode cX12_readTrip 0 = .ok (.aload_n 0, 1) := by decide +kernel
theorem dX12_readTrip_1 : decode cX12_readTrip 1 = .ok (.getfield 68, 3) := by decide +kernel
theorem dX12_readTrip_4 : decode cX12_readTrip 4 = .ok (.sipush 164, 3) := by decide +kernel
theorem dX12_readTrip_7 : decode cX12_readTrip 7 = .ok (.iaload, 1) := by decide +kernel
theorem dX12_readTrip_8 : decode cX12_readTrip 8 = .ok (.istore_n 1, 1) := by decide +kernel
theorem dX12_readTrip_9 : decode cX12_readTrip 9 = .ok (.aload_n 0, 1) := by decide +kernel
theorem dX12_readTrip_10 : decode cX12_readTrip 10 = .ok (.iconst 5, 1) := by decide +kernel
theorem dX12_readTrip_11 : decode cX12_readTrip 11 = .ok (.iconst 0, 1) := by decide +kernel
theorem dX12_readTrip_12 : decode cX12_readTrip 12 = .ok (.invokevirtual 214, 3) := by decide +kernel
theorem dX12_readTrip_15 : decode cX12_readTrip 15 = .ok (.istore_n 2, 1) := by decide +kernel
theorem dX12_readTrip_16 : decode cX12_readTrip 16 = .ok (.aload_n 0, 1) := by decide +kernel
theorem dX12_readTrip_17 : decode cX12_readTrip 17 = .ok (.aload_n 0, 1) := by decide +kernel
theorem dX12_readTrip_18 : decode cX12_readTrip 18 = .ok (.getfield 46, 3) := by decide +kernel
theorem dX12_readTrip_21 : decode cX12_readTrip 21 = .ok (.invokevirtual 207, 3) := by decide +kernel
theorem dX12_readTrip_24 : decode cX12_readTrip 24 = .ok (.istore_n 3, 1) := by decide +kernel
theorem dX12_readTrip_25 : decode cX12_readTrip 25 = .ok (.iload_n 3, 1) := by decide +kernel
theorem dX12_readTrip_26 : decode cX12_readTrip 26 = .ok (.iconst (-1), 1) := by decide +kernel
theorem dX12_readTrip_27 : decode cX12_readTrip 27 = .ok (.if_icmp .ne 8, 3) := by decide +kernel
theorem dX12_readTrip_30 : decode cX12_readTrip 30 = .ok (.aload_n 0, 1) := by decide +kernel
theorem dX12_readTrip_31 : decode cX12_readTrip 31 = .ok (.iconst 1, 1) := by decide +kernel
theorem dX12_readTrip_32 : decode cX12_readTrip 32 = .ok (.invokevirtual 194, 3) := by decide +kernel
theorem dX12_readTrip_35 : decode cX12_readTrip 35 = .ok (.iload_n 3, 1) := by decide +kernel
theorem dX12_readTrip_36 : decode cX12_readTrip 36 = .ok (.iconst 3, 1) := by decide +kernel
theorem dX12_readTrip_37 : decode cX12_readTrip 37 = .ok (.if_icmp .ne 16, 3) := by decide +kernel
theorem dX12_readTrip_40 : decode cX12_readTrip 40 = .ok (.aload_n 0, 1) := by decide +kernel
theorem dX12_readTrip_41 : decode cX12_readTrip 41 = .ok (.iload_n 2, 1) := by decide +kernel
theorem dX12_readTrip_42 : decode cX12_readTrip 42 = .ok (.invokevirtual 217, 3) := by decide +kernel
theorem dX12_readTrip_45 : decode cX12_readTrip 45 = .ok (.ifCond .eq 8, 3) := by decide +kernel
theorem dX12_readTrip_48 : decode cX12_readTrip 48 = .ok (.aload_n 0, 1) := by decide +kernel
theorem dX12_readTrip_49 : decode cX12_readTrip 49 = .ok (.iconst 4, 1) := by decide +kernel
theorem dX12_readTrip_50 : decode cX12_readTrip 50 = .ok (.invokevirtual 194, 3) := by decide +kernel
theorem dX12_readTrip_53 : decode cX12_readTrip 53 = .ok (.aload_n 0, 1) := by decide +kernel
theorem dX12_readTrip_54 : decode cX12_readTrip 54 = .ok (.invokevirtual 201, 3) := by decide +kernel
theorem dX12_readTrip_57 : decode cX12_readTrip 57 = .ok (.aload_n 0, 1) := by decide +kernel
theorem dX12_readTrip_58 : decode cX12_readTrip 58 = .ok (.getfield 68, 3) := by decide +kernel
theorem dX12_readTrip_61 : decode cX12_readTrip 61 = .ok (.bipush 15, 2) := by decide +kernel
theorem dX12_readTrip_63 : decode cX12_readTrip 63 = .ok (.iload_n 1, 1) := by decide +kernel
theorem dX12_readTrip_64 : decode cX12_readTrip 64 = .ok (.iadd, 1) := by decide +kernel
theorem dX12_readTrip_65 : decode cX12_readTrip 65 = .ok (.iload_n 2, 1) := by decide +kernel
theorem dX12_readTrip_66 : decode cX12_readTrip 66 = .ok (.iastore, 1) := by decide +kernel
theorem dX12_readTrip_67 : decode cX12_readTrip 67 = .ok (.aload_n 0, 1) := by decide +kernel
theorem dX12_readTrip_68 : decode cX12_readTrip 68 = .ok (.getfield 68, 3) := by decide +kernel
theorem dX12_readTrip_71 : decode cX12_readTrip 71 = .ok (.bipush 25, 2) := by decide +kernel
theorem dX12_readTrip_73 : decode cX12_readTrip 73 = .ok (.iload_n 1, 1) := by decide +kernel
theorem dX12_readTrip_74 : decode cX12_readTrip 74 = .ok (.iadd, 1) := by decide +kernel
theorem dX12_readTrip_75 : decode cX12_readTrip 75 = .ok (.iload_n 3, 1) := by decide +kernel
theorem dX12_readTrip_76 : decode cX12_readTrip 76 = .ok (.iastore, 1) := by decide +kernel
theorem dX12_readTrip_77 : decode cX12_readTrip 77 = .ok (.aload_n 0, 1) := by decide +kernel
theorem dX12_readTrip_78 : decode cX12_readTrip 78 = .ok (.getfield 68, 3) := by decide +kernel
theorem dX12_readTrip_81 : decode cX12_readTrip 81 = .ok (.bipush 35, 2) := by decide +kernel
theorem dX12_readTrip_83 : decode cX12_readTrip 83 = .ok (.iload_n 1, 1) := by decide +kernel
theorem dX12_readTrip_84 : decode cX12_readTrip 84 = .ok (.iadd, 1) := by decide +kernel
theorem dX12_readTrip_85 : decode cX12_readTrip 85 = .ok (.aload_n 0, 1) := by decide +kernel
theorem dX12_readTrip_86 : decode cX12_readTrip 86 = .ok (.sipush 200, 3) := by decide +kernel
theorem dX12_readTrip_89 : decode cX12_readTrip 89 = .ok (.sipush 999, 3) := by decide +kernel
theorem dX12_readTrip_92 : decode cX12_readTrip 92 = .ok (.invokevirtual 211, 3) := by decide +kernel
theorem dX12_readTrip_95 : decode cX12_readTrip 95 = .ok (.iastore, 1) := by decide +kernel
theorem dX12_readTrip_96 : decode cX12_readTrip 96 = .ok (.aload_n 0, 1) := by decide +kernel
theorem dX12_readTrip_97 : decode cX12_readTrip 97 = .ok (.getfield 68, 3) := by decide +kernel
theorem dX12_readTrip_100 : decode cX12_readTrip 100 = .ok (.bipush 45, 2) := by decide +kernel
theorem dX12_readTrip_102 : decode cX12_readTrip 102 = .ok (.iload_n 1, 1) := by decide +kernel
theorem dX12_readTrip_103 : decode cX12_readTrip 103 = .ok (.iadd, 1) := by decide +kernel
theorem dX12_readTrip_104 : decode cX12_readTrip 104 = .ok (.aload_n 0, 1) := by decide +kernel
theorem dX12_readTrip_105 : decode cX12_readTrip 105 = .ok (.iconst 0, 1) := by decide +kernel
theorem dX12_readTrip_106 : decode cX12_readTrip 106 = .ok (.bipush 99, 2) := by decide +kernel
theorem dX12_readTrip_108 : decode cX12_readTrip 108 = .ok (.invokevirtual 211, 3) := by decide +kernel
theorem dX12_readTrip_111 : decode cX12_readTrip 111 = .ok (.iastore, 1) := by decide +kernel
theorem dX12_readTrip_112 : decode cX12_readTrip 112 = .ok (.return_, 1) := by decide +kernel
theorem dX12_readDevice_0 : decode cX12_readDevice 0 = .ok (.aload_n 0, 1) := by decide +kernel
theorem dX12_readDevice_1 : decode cX12_readDevice 1 = .ok (.getfield 68, 3) := by decide +kernel
theorem dX12_readDevice_4 : decode cX12_readDevice 4 = .ok (.sipush 165, 3) := by decide +kernel
theorem dX12_readDevice_7 : decode cX12_readDevice 7 = .ok (.iaload, 1) := by decide +kernel
theorem dX12_readDevice_8 : decode cX12_readDevice 8 = .ok (.istore_n 1, 1) := by decide +kernel
theorem dX12_readDevice_9 : decode cX12_readDevice 9 = .ok (.aload_n 0, 1) := by decide +kernel
theorem dX12_readDevice_10 : decode cX12_readDevice 10 = .ok (.getfield 68, 3) := by decide +kernel
theorem dX12_readDevice_13 : decode cX12_readDevice 13 = .ok (.bipush 55, 2) := by decide +kernel
theorem dX12_readDevice_15 : decode cX12_readDevice 15 = .ok (.iload_n 1, 1) := by decide +kernel
theorem dX12_readDevice_16 : decode cX12_readDevice 16 = .ok (.iadd, 1) := by decide +kernel
theorem dX12_readDevice_17 : decode cX12_readDevice 17 = .ok (.aload_n 0, 1) := by decide +kernel
theorem dX12_readDevice_18 : decode cX12_readDevice 18 = .ok (.aload_n 0, 1) := by decide +kernel
theorem dX12_readDevice_19 : decode cX12_readDevice 19 = .ok (.getfield 55, 3) := by decide +kernel
theorem dX12_readDevice_22 : decode cX12_readDevice 22 = .ok (.invokevirtual 220, 3) := by decide +kernel
theorem dX12_readDevice_25 : decode cX12_readDevice 25 = .ok (.iastore, 1) := by decide +kernel
theorem dX12_readDevice_26 : decode cX12_readDevice 26 = .ok (.aload_n 0, 1) := by decide +kernel
theorem dX12_readDevice_27 : decode cX12_readDevice 27 = .ok (.getfield 68, 3) := by decide +kernel
theorem dX12_readDevice_30 : decode cX12_readDevice 30 = .ok (.bipush 61, 2) := by decide +kernel
theorem dX12_readDevice_32 : decode cX12_readDevice 32 = .ok (.iload_n 1, 1) := by decide +kernel
theorem dX12_readDevice_33 : decode cX12_readDevice 33 = .ok (.iadd, 1) := by decide +kernel
theorem dX12_readDevice_34 : decode cX12_readDevice 34 = .ok (.aload_n 0, 1) := by decide +kernel
theorem dX12_readDevice_35 : decode cX12_readDevice 35 = .ok (.iconst 5, 1) := by decide +kernel
theorem dX12_readDevice_36 : decode cX12_readDevice 36 = .ok (.iconst 0, 1) := by decide +kernel
theorem dX12_readDevice_37 : decode cX12_readDevice 37 = .ok (.invokevirtual 214, 3) := by decide +kernel
theorem dX12_readDevice_40 : decode cX12_readDevice 40 = .ok (.iastore, 1) := by decide +kernel
theorem dX12_readDevice_41 : decode cX12_readDevice 41 = .ok (.aload_n 0, 1) := by decide +kernel
theorem dX12_readDevice_42 : decode cX12_readDevice 42 = .ok (.getfield 68, 3) := by decide +kernel
theorem dX12_readDevice_45 : decode cX12_readDevice 45 = .ok (.bipush 67, 2) := by decide +kernel
theorem dX12_readDevice_47 : decode cX12_readDevice 47 = .ok (.iload_n 1, 1) := by decide +kernel
theorem dX12_readDevice_48 : decode cX12_readDevice 48 = .ok (.iadd, 1) := by decide +kernel
theorem dX12_readDevice_49 : decode cX12_readDevice 49 = .ok (.aload_n 0, 1) := by decide +kernel
theorem dX12_readDevice_50 : decode cX12_readDevice 50 = .ok (.iconst 1, 1) := by decide +kernel
theorem dX12_readDevice_51 : decode cX12_readDevice 51 = .ok (.bipush 9, 2) := by decide +kernel
theorem dX12_readDevice_53 : decode cX12_readDevice 53 = .ok (.invokevirtual 211, 3) := by decide +kernel
theorem dX12_readDevice_56 : decode cX12_readDevice 56 = .ok (.iastore, 1) := by decide +kernel
theorem dX12_readDevice_57 : decode cX12_readDevice 57 = .ok (.aload_n 0, 1) := by decide +kernel
theorem dX12_readDevice_58 : decode cX12_readDevice 58 = .ok (.getfield 68, 3) := by decide +kernel
theorem dX12_readDevice_61 : decode cX12_readDevice 61 = .ok (.bipush 73, 2) := by decide +kernel
theorem dX12_readDevice_63 : decode cX12_readDevice 63 = .ok (.iload_n 1, 1) := by decide +kernel
theorem dX12_readDevice_64 : decode cX12_readDevice 64 = .ok (.iadd, 1) := by decide +kernel
theorem dX12_readDevice_65 : decode cX12_readDevice 65 = .ok (.aload_n 0, 1) := by decide +kernel
theorem dX12_readDevice_66 : decode cX12_readDevice 66 = .ok (.iconst 1, 1) := by decide +kernel
theorem dX12_readDevice_67 : decode cX12_readDevice 67 = .ok (.bipush 30, 2) := by decide +kernel
theorem dX12_readDevice_69 : decode cX12_readDevice 69 = .ok (.invokevirtual 211, 3) := by decide +kernel
theorem dX12_readDevice_72 : decode cX12_readDevice 72 = .ok (.iastore, 1) := by decide +kernel
theorem dX12_readDevice_73 : decode cX12_readDevice 73 = .ok (.return_, 1) := by decide +kernel
theorem dX12_readBind_0 : decode cX12_readBind 0 = .ok (.aload_n 0, 1) := by decide +kernel
theorem dX12_readBind_1 : decode cX12_readBind 1 = .ok (.bipush 10, 2) := by decide +kernel
theorem dX12_readBind_3 : decode cX12_readBind 3 = .ok (.iconst 1, 1) := by decide +kernel
theorem dX12_readBind_4 : decode cX12_readBind 4 = .ok (.invokevirtual 204, 3) := by decide +kernel
theorem dX12_readBind_7 : decode cX12_readBind 7 = .ok (.istore_n 1, 1) := by decide +kernel
theorem dX12_readBind_8 : decode cX12_readBind 8 = .ok (.aload_n 0, 1) := by decide +kernel
theorem dX12_readBind_9 : decode cX12_readBind 9 = .ok (.getfield 173, 3) := by decide +kernel
theorem dX12_readBind_12 : decode cX12_readBind 12 = .ok (.ifCond .ne 21, 3) := by decide +kernel
theorem dX12_readBind_15 : decode cX12_readBind 15 = .ok (.aload_n 0, 1) := by decide +kernel
theorem dX12_readBind_16 : decode cX12_readBind 16 = .ok (.getfield 68, 3) := by decide +kernel
theorem dX12_readBind_19 : decode cX12_readBind 19 = .ok (.bipush 25, 2) := by decide +kernel
theorem dX12_readBind_21 : decode cX12_readBind 21 = .ok (.iload_n 1, 1) := by decide +kernel
theorem dX12_readBind_22 : decode cX12_readBind 22 = .ok (.iadd, 1) := by decide +kernel
theorem dX12_readBind_23 : decode cX12_readBind 23 = .ok (.iaload, 1) := by decide +kernel
theorem dX12_readBind_24 : decode cX12_readBind 24 = .ok (.iconst 1, 1) := by decide +kernel
theorem dX12_readBind_25 : decode cX12_readBind 25 = .ok (.if_icmp .le 8, 3) := by decide +kernel
theorem dX12_readBind_28 : decode cX12_readBind 28 = .ok (.aload_n 0, 1) := by decide +kernel
theorem dX12_readBind_29 : decode cX12_readBind 29 = .ok (.iconst 4, 1) := by decide +kernel
theorem dX12_readBind_30 : decode cX12_readBind 30 = .ok (.invokevirtual 194, 3) := by decide +kernel
theorem dX12_readBind_33 : decode cX12_readBind 33 = .ok (.aload_n 0, 1) := by decide +kernel
theorem dX12_readBind_34 : decode cX12_readBind 34 = .ok (.invokevirtual 201, 3) := by decide +kernel
theorem dX12_readBind_37 : decode cX12_readBind 37 = .ok (.aload_n 0, 1) := by decide +kernel
theorem dX12_readBind_38 : decode cX12_readBind 38 = .ok (.bipush 6, 2) := by decide +kernel
theorem dX12_readBind_40 : decode cX12_readBind 40 = .ok (.iconst 2, 1) := by decide +kernel
theorem dX12_readBind_41 : decode cX12_readBind 41 = .ok (.invokevirtual 204, 3) := by decide +kernel
theorem dX12_readBind_44 : decode cX12_readBind 44 = .ok (.istore_n 2, 1) := by decide +kernel
theorem dX12_readBind_45 : decode cX12_readBind 45 = .ok (.aload_n 0, 1) := by decide +kernel
theorem dX12_readBind_46 : decode cX12_readBind 46 = .ok (.getfield 173, 3) := by decide +kernel
theorem dX12_readBind_49 : decode cX12_readBind 49 = .ok (.ifCond .ne 25, 3) := by decide +kernel
theorem dX12_readBind_52 : decode cX12_readBind 52 = .ok (.aload_n 0, 1) := by decide +kernel
theorem dX12_readBind_53 : decode cX12_readBind 53 = .ok (.getfield 68, 3) := by decide +kernel
theorem dX12_readBind_56 : decode cX12_readBind 56 = .ok (.bipush 79, 2) := by decide +kernel
theorem dX12_readBind_58 : decode cX12_readBind 58 = .ok (.bipush 6, 2) := by decide +kernel
theorem dX12_readBind_60 : decode cX12_readBind 60 = .ok (.iload_n 1, 1) := by decide +kernel
theorem dX12_readBind_61 : decode cX12_readBind 61 = .ok (.imul, 1) := by decide +kernel
theorem dX12_readBind_62 : decode cX12_readBind 62 = .ok (.iadd, 1) := by decide +kernel
theorem dX12_readBind_63 : decode cX12_readBind 63 = .ok (.iload_n 2, 1) := by decide +kernel
theorem dX12_readBind_64 : decode cX12_readBind 64 = .ok (.iadd, 1) := by decide +kernel
theorem dX12_readBind_65 : decode cX12_readBind 65 = .ok (.iaload, 1) := by decide +kernel
theorem dX12_readBind_66 : decode cX12_readBind 66 = .ok (.ifCond .le 8, 3) := by decide +kernel
theorem dX12_readBind_69 : decode cX12_readBind 69 = .ok (.aload_n 0, 1) := by decide +kernel
theorem dX12_readBind_70 : decode cX12_readBind 70 = .ok (.iconst 4, 1) := by decide +kernel
theorem dX12_readBind_71 : decode cX12_readBind 71 = .ok (.invokevirtual 194, 3) := by decide +kernel
theorem dX12_readBind_74 : decode cX12_readBind 74 = .ok (.aload_n 0, 1) := by decide +kernel
theorem dX12_readBind_75 : decode cX12_readBind 75 = .ok (.invokevirtual 201, 3) := by decide +kernel
theorem dX12_readBind_78 : decode cX12_readBind 78 = .ok (.aload_n 0, 1) := by decide +kernel
theorem dX12_readBind_79 : decode cX12_readBind 79 = .ok (.iconst 1, 1) := by decide +kernel
theorem dX12_readBind_80 : decode cX12_readBind 80 = .ok (.bipush 9, 2) := by decide +kernel
theorem dX12_readBind_82 : decode cX12_readBind 82 = .ok (.invokevirtual 211, 3) := by decide +kernel
theorem dX12_readBind_85 : decode cX12_readBind 85 = .ok (.istore_n 3, 1) := by decide +kernel
theorem dX12_readBind_86 : decode cX12_readBind 86 = .ok (.aload_n 0, 1) := by decide +kernel
theorem dX12_readBind_87 : decode cX12_readBind 87 = .ok (.getfield 173, 3) := by decide +kernel
theorem dX12_readBind_90 : decode cX12_readBind 90 = .ok (.ifCond .ne 18, 3) := by decide +kernel
theorem dX12_readBind_93 : decode cX12_readBind 93 = .ok (.aload_n 0, 1) := by decide +kernel
theorem dX12_readBind_94 : decode cX12_readBind 94 = .ok (.getfield 68, 3) := by decide +kernel
theorem dX12_readBind_97 : decode cX12_readBind 97 = .ok (.bipush 79, 2) := by decide +kernel
theorem dX12_readBind_99 : decode cX12_readBind 99 = .ok (.bipush 6, 2) := by decide +kernel
theorem dX12_readBind_101 : decode cX12_readBind 101 = .ok (.iload_n 1, 1) := by decide +kernel
theorem dX12_readBind_102 : decode cX12_readBind 102 = .ok (.imul, 1) := by decide +kernel
theorem dX12_readBind_103 : decode cX12_readBind 103 = .ok (.iadd, 1) := by decide +kernel
theorem dX12_readBind_104 : decode cX12_readBind 104 = .ok (.iload_n 2, 1) := by decide +kernel
theorem dX12_readBind_105 : decode cX12_readBind 105 = .ok (.iadd, 1) := by decide +kernel
theorem dX12_readBind_106 : decode cX12_readBind 106 = .ok (.iload_n 3, 1) := by decide +kernel
theorem dX12_readBind_107 : decode cX12_readBind 107 = .ok (.iastore, 1) := by decide +kernel
theorem dX12_readBind_108 : decode cX12_readBind 108 = .ok (.return_, 1) := by decide +kernel
theorem dX12_readWall_0 : decode cX12_readWall 0 = .ok (.aload_n 0, 1) := by decide +kernel
theorem dX12_readWall_1 : decode cX12_readWall 1 = .ok (.getfield 68, 3) := by decide +kernel
theorem dX12_readWall_4 : decode cX12_readWall 4 = .ok (.sipush 167, 3) := by decide +kernel
theorem dX12_readWall_7 : decode cX12_readWall 7 = .ok (.iaload, 1) := by decide +kernel
theorem dX12_readWall_8 : decode cX12_readWall 8 = .ok (.istore_n 1, 1) := by decide +kernel
theorem dX12_readWall_9 : decode cX12_readWall 9 = .ok (.aload_n 0, 1) := by decide +kernel
theorem dX12_readWall_10 : decode cX12_readWall 10 = .ok (.getfield 68, 3) := by decide +kernel
theorem dX12_readWall_13 : decode cX12_readWall 13 = .ok (.sipush 139, 3) := by decide +kernel
theorem dX12_readWall_16 : decode cX12_readWall 16 = .ok (.iload_n 1, 1) := by decide +kernel
theorem dX12_readWall_17 : decode cX12_readWall 17 = .ok (.iadd, 1) := by decide +kernel
theorem dX12_readWall_18 : decode cX12_readWall 18 = .ok (.aload_n 0, 1) := by decide +kernel
theorem dX12_readWall_19 : decode cX12_readWall 19 = .ok (.iconst 5, 1) := by decide +kernel
theorem dX12_readWall_20 : decode cX12_readWall 20 = .ok (.iconst 0, 1) := by decide +kernel
theorem dX12_readWall_21 : decode cX12_readWall 21 = .ok (.invokevirtual 214, 3) := by decide +kernel
theorem dX12_readWall_24 : decode cX12_readWall 24 = .ok (.iastore, 1) := by decide +kernel
theorem dX12_readWall_25 : decode cX12_readWall 25 = .ok (.aload_n 0, 1) := by decide +kernel
theorem dX12_readWall_26 : decode cX12_readWall 26 = .ok (.iconst 5, 1) := by decide +kernel
theorem dX12_readWall_27 : decode cX12_readWall 27 = .ok (.iconst 0, 1) := by decide +kernel
theorem dX12_readWall_28 : decode cX12_readWall 28 = .ok (.invokevirtual 204, 3) := by decide +kernel
theorem dX12_readWall_31 : decode cX12_readWall 31 = .ok (.istore_n 2, 1) := by decide +kernel
theorem dX12_readWall_32 : decode cX12_readWall 32 = .ok (.aload_n 0, 1) := by decide +kernel
theorem dX12_readWall_33 : decode cX12_readWall 33 = .ok (.getfield 173, 3) := by decide +kernel
theorem dX12_readWall_36 : decode cX12_readWall 36 = .ok (.ifCond .ne 22, 3) := by decide +kernel
theorem dX12_readWall_39 : decode cX12_readWall 39 = .ok (.iload_n 2, 1) := by decide +kernel
theorem dX12_readWall_40 : decode cX12_readWall 40 = .ok (.aload_n 0, 1) := by decide +kernel
theorem dX12_readWall_41 : decode cX12_readWall 41 = .ok (.getfield 68, 3) := by decide +kernel
theorem dX12_readWall_44 : decode cX12_readWall 44 = .ok (.sipush 139, 3) := by decide +kernel
theorem dX12_readWall_47 : decode cX12_readWall 47 = .ok (.iload_n 1, 1) := by decide +kernel
theorem dX12_readWall_48 : decode cX12_readWall 48 = .ok (.iadd, 1) := by decide +kernel
theorem dX12_readWall_49 : decode cX12_readWall 49 = .ok (.iaload, 1) := by decide +kernel
theorem dX12_readWall_50 : decode cX12_readWall 50 = .ok (.if_icmp .ne 8, 3) := by decide +kernel
theorem dX12_readWall_53 : decode cX12_readWall 53 = .ok (.aload_n 0, 1) := by decide +kernel
theorem dX12_readWall_54 : decode cX12_readWall 54 = .ok (.iconst 4, 1) := by decide +kernel
theorem dX12_readWall_55 : decode cX12_readWall 55 = .ok (.invokevirtual 194, 3) := by decide +kernel
theorem dX12_readWall_58 : decode cX12_readWall 58 = .ok (.aload_n 0, 1) := by decide +kernel
theorem dX12_readWall_59 : decode cX12_readWall 59 = .ok (.invokevirtual 201, 3) := by decide +kernel
theorem dX12_readWall_62 : decode cX12_readWall 62 = .ok (.aload_n 0, 1) := by decide +kernel
theorem dX12_readWall_63 : decode cX12_readWall 63 = .ok (.getfield 68, 3) := by decide +kernel
theorem dX12_readWall_66 : decode cX12_readWall 66 = .ok (.sipush 147, 3) := by decide +kernel
theorem dX12_readWall_69 : decode cX12_readWall 69 = .ok (.iload_n 1, 1) := by decide +kernel
theorem dX12_readWall_70 : decode cX12_readWall 70 = .ok (.iadd, 1) := by decide +kernel
theorem dX12_readWall_71 : decode cX12_readWall 71 = .ok (.iload_n 2, 1) := by decide +kernel
theorem dX12_readWall_72 : decode cX12_readWall 72 = .ok (.iastore, 1) := by decide +kernel
theorem dX12_readWall_73 : decode cX12_readWall 73 = .ok (.aload_n 0, 1) := by decide +kernel
theorem dX12_readWall_74 : decode cX12_readWall 74 = .ok (.getfield 68, 3) := by decide +kernel
theorem dX12_readWall_77 : decode cX12_readWall 77 = .ok (.sipush 155, 3) := by decide +kernel
theorem dX12_readWall_80 : decode cX12_readWall 80 = .ok (.iload_n 1, 1) := by decide +kernel
theorem dX12_readWall_81 : decode cX12_readWall 81 = .ok (.iadd, 1) := by decide +kernel
theorem dX12_readWall_82 : decode cX12_readWall 82 = .ok (.aload_n 0, 1) := by decide +kernel
theorem dX12_readWall_83 : decode cX12_readWall 83 = .ok (.iconst 1, 1) := by decide +kernel
theorem dX12_readWall_84 : decode cX12_readWall 84 = .ok (.bipush 50, 2) := by decide +kernel
theorem dX12_readWall_86 : decode cX12_readWall 86 = .ok (.invokevirtual 211, 3) := by decide +kernel
theorem dX12_readWall_89 : decode cX12_readWall 89 = .ok (.iastore, 1) := by decide +kernel
theorem dX12_readWall_90 : decode cX12_readWall 90 = .ok (.return_, 1) := by decide +kernel
theorem dX12_mostOf_0 : decode cX12_mostOf 0 = .ok (.iload_n 0, 1) := by decide +kernel
theorem dX12_mostOf_1 : decode cX12_mostOf 1 = .ok (.ifCond .ne 7, 3) := by decide +kernel
theorem dX12_mostOf_4 : decode cX12_mostOf 4 = .ok (.iconst 5, 1) := by decide +kernel
theorem dX12_mostOf_5 : decode cX12_mostOf 5 = .ok (.goto 35, 3) := by decide +kernel
theorem dX12_mostOf_8 : decode cX12_mostOf 8 = .ok (.iload_n 0, 1) := by decide +kernel
theorem dX12_mostOf_9 : decode cX12_mostOf 9 = .ok (.iconst 1, 1) := by decide +kernel
theorem dX12_mostOf_10 : decode cX12_mostOf 10 = .ok (.if_icmp .ne 8, 3) := by decide +kernel
theorem dX12_mostOf_13 : decode cX12_mostOf 13 = .ok (.bipush 10, 2) := by decide +kernel
theorem dX12_mostOf_15 : decode cX12_mostOf 15 = .ok (.goto 25, 3) := by decide +kernel
theorem dX12_mostOf_18 : decode cX12_mostOf 18 = .ok (.iload_n 0, 1) := by decide +kernel
theorem dX12_mostOf_19 : decode cX12_mostOf 19 = .ok (.iconst 2, 1) := by decide +kernel
theorem dX12_mostOf_20 : decode cX12_mostOf 20 = .ok (.if_icmp .ne 8, 3) := by decide +kernel
theorem dX12_mostOf_23 : decode cX12_mostOf 23 = .ok (.bipush 6, 2) := by decide +kernel
theorem dX12_mostOf_25 : decode cX12_mostOf 25 = .ok (.goto 15, 3) := by decide +kernel
theorem dX12_mostOf_28 : decode cX12_mostOf 28 = .ok (.iload_n 0, 1) := by decide +kernel
theorem dX12_mostOf_29 : decode cX12_mostOf 29 = .ok (.iconst 4, 1) := by decide +kernel
theorem dX12_mostOf_30 : decode cX12_mostOf 30 = .ok (.if_icmp .ne 8, 3) := by decide +kernel
theorem dX12_mostOf_33 : decode cX12_mostOf 33 = .ok (.bipush 8, 2) := by decide +kernel
theorem dX12_mostOf_35 : decode cX12_mostOf 35 = .ok (.goto 5, 3) := by decide +kernel
theorem dX12_mostOf_38 : decode cX12_mostOf 38 = .ok (.ldc 163, 2) := by decide +kernel
theorem dX12_mostOf_40 : decode cX12_mostOf 40 = .ok (.ireturn, 1) := by decide +kernel
theorem dX12_readClause_0 : decode cX12_readClause 0 = .ok (.aload_n 0, 1) := by decide +kernel
theorem dX12_readClause_1 : decode cX12_readClause 1 = .ok (.aload_n 0, 1) := by decide +kernel
theorem dX12_readClause_2 : decode cX12_readClause 2 = .ok (.getfield 21, 3) := by decide +kernel
theorem dX12_readClause_5 : decode cX12_readClause 5 = .ok (.invokevirtual 207, 3) := by decide +kernel
theorem dX12_readClause_8 : decode cX12_readClause 8 = .ok (.istore_n 1, 1) := by decide +kernel
theorem dX12_readClause_9 : decode cX12_readClause 9 = .ok (.iload_n 1, 1) := by decide +kernel
theorem dX12_readClause_10 : decode cX12_readClause 10 = .ok (.iconst (-1), 1) := by decide +kernel
theorem dX12_readClause_11 : decode cX12_readClause 11 = .ok (.if_icmp .ne 8, 3) := by decide +kernel
theorem dX12_readClause_14 : decode cX12_readClause 14 = .ok (.aload_n 0, 1) := by decide +kernel
theorem dX12_readClause_15 : decode cX12_readClause 15 = .ok (.iconst 1, 1) := by decide +kernel
theorem dX12_readClause_16 : decode cX12_readClause 16 = .ok (.invokevirtual 194, 3) := by decide +kernel
theorem dX12_readClause_19 : decode cX12_readClause 19 = .ok (.aload_n 0, 1) := by decide +kernel
theorem dX12_readClause_20 : decode cX12_readClause 20 = .ok (.getfield 173, 3) := by decide +kernel
theorem dX12_readClause_23 : decode cX12_readClause 23 = .ok (.ifCond .ne 30, 3) := by decide +kernel
theorem dX12_readClause_26 : decode cX12_readClause 26 = .ok (.iload_n 1, 1) := by decide +kernel
theorem dX12_readClause_27 : decode cX12_readClause 27 = .ok (.iconst 5, 1) := by decide +kernel
theorem dX12_readClause_28 : decode cX12_readClause 28 = .ok (.if_icmp .ge 25, 3) := by decide +kernel
theorem dX12_readClause_31 : decode cX12_readClause 31 = .ok (.aload_n 0, 1) := by decide +kernel
theorem dX12_readClause_32 : decode cX12_readClause 32 = .ok (.getfield 68, 3) := by decide +kernel
theorem dX12_readClause_35 : decode cX12_readClause 35 = .ok (.sipush 163, 3) := by decide +kernel
theorem dX12_readClause_38 : decode cX12_readClause 38 = .ok (.iload_n 1, 1) := by decide +kernel
theorem dX12_readClause_39 : decode cX12_readClause 39 = .ok (.iadd, 1) := by decide +kernel
theorem dX12_readClause_40 : decode cX12_readClause 40 = .ok (.iaload, 1) := by decide +kernel
theorem dX12_readClause_41 : decode cX12_readClause 41 = .ok (.iload_n 1, 1) := by decide +kernel
theorem dX12_readClause_42 : decode cX12_readClause 42 = .ok (.invokestatic 223, 3) := by decide +kernel
theorem dX12_readClause_45 : decode cX12_readClause 45 = .ok (.if_icmp .ne 8, 3) := by decide +kernel
theorem dX12_readClause_48 : decode cX12_readClause 48 = .ok (.aload_n 0, 1) := by decide +kernel
theorem dX12_readClause_49 : decode cX12_readClause 49 = .ok (.iconst 2, 1) := by decide +kernel
theorem dX12_readClause_50 : decode cX12_readClause 50 = .ok (.invokevirtual 194, 3) := by decide +kernel
theorem dX12_readClause_53 : decode cX12_readClause 53 = .ok (.iload_n 1, 1) := by decide +kernel
theorem dX12_readClause_54 : decode cX12_readClause 54 = .ok (.iconst 5, 1) := by decide +kernel
theorem dX12_readClause_55 : decode cX12_readClause 55 = .ok (.if_icmp .ne 15, 3) := by decide +kernel
theorem dX12_readClause_58 : decode cX12_readClause 58 = .ok (.aload_n 0, 1) := by decide +kernel
theorem dX12_readClause_59 : decode cX12_readClause 59 = .ok (.getfield 226, 3) := by decide +kernel
theorem dX12_readClause_62 : decode cX12_readClause 62 = .ok (.ifCond .eq 8, 3) := by decide +kernel
theorem dX12_readClause_65 : decode cX12_readClause 65 = .ok (.aload_n 0, 1) := by decide +kernel
theorem dX12_readClause_66 : decode cX12_readClause 66 = .ok (.iconst 4, 1) := by decide +kernel
theorem dX12_readClause_67 : decode cX12_readClause 67 = .ok (.invokevirtual 194, 3) := by decide +kernel
theorem dX12_readClause_70 : decode cX12_readClause 70 = .ok (.aload_n 0, 1) := by decide +kernel
theorem dX12_readClause_71 : decode cX12_readClause 71 = .ok (.getfield 173, 3) := by decide +kernel
theorem dX12_readClause_74 : decode cX12_readClause 74 = .ok (.ifCond .eq 4, 3) := by decide +kernel
theorem dX12_readClause_77 : decode cX12_readClause 77 = .ok (.return_, 1) := by decide +kernel
theorem dX12_readClause_78 : decode cX12_readClause 78 = .ok (.aload_n 0, 1) := by decide +kernel
theorem dX12_readClause_79 : decode cX12_readClause 79 = .ok (.invokevirtual 191, 3) := by decide +kernel
theorem dX12_readClause_82 : decode cX12_readClause 82 = .ok (.iload_n 1, 1) := by decide +kernel
theorem dX12_readClause_83 : decode cX12_readClause 83 = .ok (.ifCond .ne 10, 3) := by decide +kernel
theorem dX12_readClause_86 : decode cX12_readClause 86 = .ok (.aload_n 0, 1) := by decide +kernel
theorem dX12_readClause_87 : decode cX12_readClause 87 = .ok (.invokevirtual 230, 3) := by decide +kernel
theorem dX12_readClause_90 : decode cX12_readClause 90 = .ok (.goto 66, 3) := by decide +kernel
theorem dX12_readClause_93 : decode cX12_readClause 93 = .ok (.iload_n 1, 1) := by decide +kernel
theorem dX12_readClause_94 : decode cX12_readClause 94 = .ok (.iconst 1, 1) := by decide +kernel
theorem dX12_readClause_95 : decode cX12_readClause 95 = .ok (.if_icmp .ne 10, 3) := by decide +kernel
theorem dX12_readClause_98 : decode cX12_readClause 98 = .ok (.aload_n 0, 1) := by decide +kernel
theorem dX12_readClause_99 : decode cX12_readClause 99 = .ok (.invokevirtual 233, 3) := by decide +kernel
theorem dX12_readClause_102 : decode cX12_readClause 102 = .ok (.goto 54, 3) := by decide +kernel
theorem dX12_readClause_105 : decode cX12_readClause 105 = .ok (.iload_n 1, 1) := by decide +kernel
theorem dX12_readClause_106 : decode cX12_readClause 106 = .ok (.iconst 2, 1) := by decide +kernel
theorem dX12_readClause_107 : decode cX12_readClause 107 = .ok (.if_icmp .ne 10, 3) := by decide +kernel
theorem dX12_readClause_110 : decode cX12_readClause 110 = .ok (.aload_n 0, 1) := by decide +kernel
theorem dX12_readClause_111 : decode cX12_readClause 111 = .ok (.invokevirtual 236, 3) := by decide +kernel
theorem dX12_readClause_114 : decode cX12_readClause 114 = .ok (.goto 42, 3) := by decide +kernel
theorem dX12_readClause_117 : decode cX12_readClause 117 = .ok (.iload_n 1, 1) := by decide +kernel
theorem dX12_readClause_118 : decode cX12_readClause 118 = .ok (.iconst 3, 1) := by decide +kernel
theorem dX12_readClause_119 : decode cX12_readClause 119 = .ok (.if_icmp .ne 10, 3) := by decide +kernel
theorem dX12_readClause_122 : decode cX12_readClause 122 = .ok (.aload_n 0, 1) := by decide +kernel
theorem dX12_readClause_123 : decode cX12_readClause 123 = .ok (.invokevirtual 239, 3) := by decide +kernel
theorem dX12_readClause_126 : decode cX12_readClause 126 = .ok (.goto 30, 3) := by decide +kernel
theorem dX12_readClause_129 : decode cX12_readClause 129 = .ok (.iload_n 1, 1) := by decide +kernel
theorem dX12_readClause_130 : decode cX12_readClause 130 = .ok (.iconst 4, 1) := by decide +kernel
theorem dX12_readClause_131 : decode cX12_readClause 131 = .ok (.if_icmp .ne 10, 3) := by decide +kernel
theorem dX12_readClause_134 : decode cX12_readClause 134 = .ok (.aload_n 0, 1) := by decide +kernel
theorem dX12_readClause_135 : decode cX12_readClause 135 = .ok (.invokevirtual 242, 3) := by decide +kernel
theorem dX12_readClause_138 : decode cX12_readClause 138 = .ok (.goto 18, 3) := by decide +kernel
theorem dX12_readClause_141 : decode cX12_readClause 141 = .ok (.aload_n 0, 1) := by decide +kernel
theorem dX12_readClause_142 : decode cX12_readClause 142 = .ok (.getfield 65, 3) := by decide +kernel
theorem dX12_readClause_145 : decode cX12_readClause 145 = .ok (.sipush 143, 3) := by decide +kernel
theorem dX12_readClause_148 : decode cX12_readClause 148 = .ok (.aload_n 0, 1) := by decide +kernel
theorem dX12_readClause_149 : decode cX12_readClause 149 = .ok (.iconst 0, 1) := by decide +kernel
theorem dX12_readClause_150 : decode cX12_readClause 150 = .ok (.bipush 9, 2) := by decide +kernel
theorem dX12_readClause_152 : decode cX12_readClause 152 = .ok (.invokevirtual 211, 3) := by decide +kernel
theorem dX12_readClause_155 : decode cX12_readClause 155 = .ok (.iastore, 1) := by decide +kernel
theorem dX12_readClause_156 : decode cX12_readClause 156 = .ok (.aload_n 0, 1) := by decide +kernel
theorem dX12_readClause_157 : decode cX12_readClause 157 = .ok (.aload_n 0, 1) := by decide +kernel
theorem dX12_readClause_158 : decode cX12_readClause 158 = .ok (.getfield 226, 3) := by decide +kernel
theorem dX12_readClause_161 : decode cX12_readClause 161 = .ok (.ifCond .ne 8, 3) := by decide +kernel
theorem dX12_readClause_164 : decode cX12_readClause 164 = .ok (.iload_n 1, 1) := by decide +kernel
theorem dX12_readClause_165 : decode cX12_readClause 165 = .ok (.iconst 5, 1) := by decide +kernel
theorem dX12_readClause_166 : decode cX12_readClause 166 = .ok (.if_icmp .ne 7, 3) := by decide +kernel
theorem dX12_readClause_169 : decode cX12_readClause 169 = .ok (.iconst 1, 1) := by decide +kernel
theorem dX12_readClause_170 : decode cX12_readClause 170 = .ok (.goto 4, 3) := by decide +kernel
theorem dX12_readClause_173 : decode cX12_readClause 173 = .ok (.iconst 0, 1) := by decide +kernel
theorem dX12_readClause_174 : decode cX12_readClause 174 = .ok (.putfield 226, 3) := by decide +kernel
theorem dX12_readClause_177 : decode cX12_readClause 177 = .ok (.aload_n 0, 1) := by decide +kernel
theorem dX12_readClause_178 : decode cX12_readClause 178 = .ok (.getfield 173, 3) := by decide +kernel
theorem dX12_readClause_181 : decode cX12_readClause 181 = .ok (.ifCond .ne 16, 3) := by decide +kernel
theorem dX12_readClause_184 : decode cX12_readClause 184 = .ok (.aload_n 0, 1) := by decide +kernel
theorem dX12_readClause_185 : decode cX12_readClause 185 = .ok (.getfield 150, 3) := by decide +kernel
theorem dX12_readClause_188 : decode cX12_readClause 188 = .ok (.iconst 3, 1) := by decide +kernel
theorem dX12_readClause_189 : decode cX12_readClause 189 = .ok (.if_icmp .eq 8, 3) := by decide +kernel
theorem dX12_readClause_192 : decode cX12_readClause 192 = .ok (.aload_n 0, 1) := by decide +kernel
theorem dX12_readClause_193 : decode cX12_readClause 193 = .ok (.iconst 1, 1) := by decide +kernel
theorem dX12_readClause_194 : decode cX12_readClause 194 = .ok (.invokevirtual 194, 3) := by decide +kernel
theorem dX12_readClause_197 : decode cX12_readClause 197 = .ok (.aload_n 0, 1) := by decide +kernel
theorem dX12_readClause_198 : decode cX12_readClause 198 = .ok (.invokevirtual 201, 3) := by decide +kernel
theorem dX12_readClause_201 : decode cX12_readClause 201 = .ok (.iload_n 1, 1) := by decide +kernel
theorem dX12_readClause_202 : decode cX12_readClause 202 = .ok (.iconst 5, 1) := by decide +kernel
theorem dX12_readClause_203 : decode cX12_readClause 203 = .ok (.if_icmp .ge 17, 3) := by decide +kernel
theorem dX12_readClause_206 : decode cX12_readClause 206 = .ok (.aload_n 0, 1) := by decide +kernel
theorem dX12_readClause_207 : decode cX12_readClause 207 = .ok (.getfield 68, 3) := by decide +kernel
theorem dX12_readClause_210 : decode cX12_readClause 210 = .ok (.sipush 163, 3) := by decide +kernel
theorem dX12_readClause_213 : decode cX12_readClause 213 = .ok (.iload_n 1, 1) := by decide +kernel
theorem dX12_readClause_214 : decode cX12_readClause 214 = .ok (.iadd, 1) := by decide +kernel
theorem dX12_readClause_215 : decode cX12_readClause 215 = .ok (.dup2, 1) := by decide +kernel
theorem dX12_readClause_216 : decode cX12_readClause 216 = .ok (.iaload, 1) := by decide +kernel
theorem dX12_readClause_217 : decode cX12_readClause 217 = .ok (.iconst 1, 1) := by decide +kernel
theorem dX12_readClause_218 : decode cX12_readClause 218 = .ok (.iadd, 1) := by decide +kernel
theorem dX12_readClause_219 : decode cX12_readClause 219 = .ok (.iastore, 1) := by decide +kernel
theorem dX12_readClause_220 : decode cX12_readClause 220 = .ok (.return_, 1) := by decide +kernel
theorem dX12_plan_0 : decode cX12_plan 0 = .ok (.aload_n 0, 1) := by decide +kernel
theorem dX12_plan_1 : decode cX12_plan 1 = .ok (.iconst 0, 1) := by decide +kernel
theorem dX12_plan_2 : decode cX12_plan 2 = .ok (.putfield 131, 3) := by decide +kernel
theorem dX12_plan_5 : decode cX12_plan 5 = .ok (.iload_n 1, 1) := by decide +kernel
theorem dX12_plan_6 : decode cX12_plan 6 = .ok (.ifCond .lt 11, 3) := by decide +kernel
theorem dX12_plan_9 : decode cX12_plan 9 = .ok (.iload_n 1, 1) := by decide +kernel
theorem dX12_plan_10 : decode cX12_plan 10 = .ok (.aload_n 0, 1) := by decide +kernel
theorem dX12_plan_11 : decode cX12_plan 11 = .ok (.getfield 134, 3) := by decide +kernel
theorem dX12_plan_14 : decode cX12_plan 14 = .ok (.if_icmp .le 9, 3) := by decide +kernel
theorem dX12_plan_17 : decode cX12_plan 17 = .ok (.aload_n 0, 1) := by decide +kernel
theorem dX12_plan_18 : decode cX12_plan 18 = .ok (.iconst 1, 1) := by decide +kernel
theorem dX12_plan_19 : decode cX12_plan 19 = .ok (.invokevirtual 245, 3) := by decide +kernel
theorem dX12_plan_22 : decode cX12_plan 22 = .ok (.ireturn, 1) := by decide +kernel
theorem dX12_plan_23 : decode cX12_plan 23 = .ok (.aload_n 0, 1) := by decide +kernel
theorem dX12_plan_24 : decode cX12_plan 24 = .ok (.iconst 0, 1) := by decide +kernel
theorem dX12_plan_25 : decode cX12_plan 25 = .ok (.putfield 134, 3) := by decide +kernel
theorem dX12_plan_28 : decode cX12_plan 28 = .ok (.aload_n 0, 1) := by decide +kernel
theorem dX12_plan_29 : decode cX12_plan 29 = .ok (.iload_n 1, 1) := by decide +kernel
theorem dX12_plan_30 : decode cX12_plan 30 = .ok (.putfield 137, 3) := by decide +kernel
theorem dX12_plan_33 : decode cX12_plan 33 = .ok (.aload_n 0, 1) := by decide +kernel
theorem dX12_plan_34 : decode cX12_plan 34 = .ok (.iconst 0, 1) := by decide +kernel
theorem dX12_plan_35 : decode cX12_plan 35 = .ok (.putfield 140, 3) := by decide +kernel
theorem dX12_plan_38 : decode cX12_plan 38 = .ok (.aload_n 0, 1) := by decide +kernel
theorem dX12_plan_39 : decode cX12_plan 39 = .ok (.iconst 0, 1) := by decide +kernel
theorem dX12_plan_40 : decode cX12_plan 40 = .ok (.putfield 173, 3) := by decide +kernel
theorem dX12_plan_43 : decode cX12_plan 43 = .ok (.aload_n 0, 1) := by decide +kernel
theorem dX12_plan_44 : decode cX12_plan 44 = .ok (.iconst (-1), 1) := by decide +kernel
theorem dX12_plan_45 : decode cX12_plan 45 = .ok (.putfield 77, 3) := by decide +kernel
theorem dX12_plan_48 : decode cX12_plan 48 = .ok (.aload_n 0, 1) := by decide +kernel
theorem dX12_plan_49 : decode cX12_plan 49 = .ok (.iconst 0, 1) := by decide +kernel
theorem dX12_plan_50 : decode cX12_plan 50 = .ok (.putfield 226, 3) := by decide +kernel
theorem dX12_plan_53 : decode cX12_plan 53 = .ok (.aload_n 0, 1) := by decide +kernel
theorem dX12_plan_54 : decode cX12_plan 54 = .ok (.getfield 65, 3) := by decide +kernel
theorem dX12_plan_57 : decode cX12_plan 57 = .ok (.aload_n 0, 1) := by decide +kernel
theorem dX12_plan_58 : decode cX12_plan 58 = .ok (.getfield 68, 3) := by decide +kernel
theorem dX12_plan_61 : decode cX12_plan 61 = .ok (.invokestatic 127, 3) := by decide +kernel
theorem dX12_plan_64 : decode cX12_plan 64 = .ok (.aload_n 0, 1) := by decide +kernel
theorem dX12_plan_65 : decode cX12_plan 65 = .ok (.invokevirtual 191, 3) := by decide +kernel
theorem dX12_plan_68 : decode cX12_plan 68 = .ok (.aload_n 0, 1) := by decide +kernel
theorem dX12_plan_69 : decode cX12_plan 69 = .ok (.getfield 173, 3) := by decide +kernel
theorem dX12_plan_72 : decode cX12_plan 72 = .ok (.ifCond .ne 17, 3) := by decide +kernel
theorem dX12_plan_75 : decode cX12_plan 75 = .ok (.aload_n 0, 1) := by decide +kernel
theorem dX12_plan_76 : decode cX12_plan 76 = .ok (.getfield 150, 3) := by decide +kernel
theorem dX12_plan_79 : decode cX12_plan 79 = .ok (.ifCond .eq 10, 3) := by decide +kernel
theorem dX12_plan_82 : decode cX12_plan 82 = .ok (.aload_n 0, 1) := by decide +kernel
theorem dX12_plan_83 : decode cX12_plan 83 = .ok (.invokevirtual 248, 3) := by decide +kernel
theorem dX12_plan_86 : decode cX12_plan 86 = .ok (.goto (-18), 3) := by decide +kernel
theorem dX12_plan_89 : decode cX12_plan 89 = .ok (.aload_n 0, 1) := by decide +kernel
theorem dX12_plan_90 : decode cX12_plan 90 = .ok (.getfield 173, 3) := by decide +kernel
theorem dX12_plan_93 : decode cX12_plan 93 = .ok (.ifCond .eq 26, 3) := by decide +kernel
theorem dX12_plan_96 : decode cX12_plan 96 = .ok (.aload_n 0, 1) := by decide +kernel
theorem dX12_plan_97 : decode cX12_plan 97 = .ok (.aload_n 0, 1) := by decide +kernel
theorem dX12_plan_98 : decode cX12_plan 98 = .ok (.getfield 176, 3) := by decide +kernel
theorem dX12_plan_101 : decode cX12_plan 101 = .ok (.putfield 77, 3) := by decide +kernel
theorem dX12_plan_104 : decode cX12_plan 104 = .ok (.aload_n 0, 1) := by decide +kernel
theorem dX12_plan_105 : decode cX12_plan 105 = .ok (.getfield 71, 3) := by decide +kernel
theorem dX12_plan_108 : decode cX12_plan 108 = .ok (.iconst 0, 1) := by decide +kernel
theorem dX12_plan_109 : decode cX12_plan 109 = .ok (.dup2, 1) := by decide +kernel
theorem dX12_plan_110 : decode cX12_plan 110 = .ok (.iaload, 1) := by decide +kernel
theorem dX12_plan_111 : decode cX12_plan 111 = .ok (.iconst 1, 1) := by decide +kernel
theorem dX12_plan_112 : decode cX12_plan 112 = .ok (.iadd, 1) := by decide +kernel
theorem dX12_plan_113 : decode cX12_plan 113 = .ok (.iastore, 1) := by decide +kernel
theorem dX12_plan_114 : decode cX12_plan 114 = .ok (.aload_n 0, 1) := by decide +kernel
theorem dX12_plan_115 : decode cX12_plan 115 = .ok (.getfield 173, 3) := by decide +kernel
theorem dX12_plan_118 : decode cX12_plan 118 = .ok (.ireturn, 1) := by decide +kernel
theorem dX12_plan_119 : decode cX12_plan 119 = .ok (.aload_n 0, 1) := by decide +kernel
theorem dX12_plan_120 : decode cX12_plan 120 = .ok (.getfield 58, 3) := by decide +kernel
theorem dX12_plan_123 : decode cX12_plan 123 = .ok (.aload_n 0, 1) := by decide +kernel
theorem dX12_plan_124 : decode cX12_plan 124 = .ok (.getfield 65, 3) := by decide +kernel
theorem dX12_plan_127 : decode cX12_plan 127 = .ok (.invokestatic 251, 3) := by decide +kernel
theorem dX12_plan_130 : decode cX12_plan 130 = .ok (.aload_n 0, 1) := by decide +kernel
theorem dX12_plan_131 : decode cX12_plan 131 = .ok (.getfield 62, 3) := by decide +kernel
theorem dX12_plan_134 : decode cX12_plan 134 = .ok (.aload_n 0, 1) := by decide +kernel
theorem dX12_plan_135 : decode cX12_plan 135 = .ok (.getfield 68, 3) := by decide +kernel
theorem dX12_plan_138 : decode cX12_plan 138 = .ok (.invokestatic 251, 3) := by decide +kernel
theorem dX12_plan_141 : decode cX12_plan 141 = .ok (.aload_n 0, 1) := by decide +kernel
theorem dX12_plan_142 : decode cX12_plan 142 = .ok (.iconst 0, 1) := by decide +kernel
theorem dX12_plan_143 : decode cX12_plan 143 = .ok (.putfield 254, 3) := by decide +kernel
theorem dX12_plan_146 : decode cX12_plan 146 = .ok (.aload_n 0, 1) := by decide +kernel
theorem dX12_plan_147 : decode cX12_plan 147 = .ok (.iconst 0, 1) := by decide +kernel
theorem dX12_plan_148 : decode cX12_plan 148 = .ok (.putfield 257, 3) := by decide +kernel
theorem dX12_plan_151 : decode cX12_plan 151 = .ok (.aload_n 0, 1) := by decide +kernel
theorem dX12_plan_152 : decode cX12_plan 152 = .ok (.iconst 0, 1) := by decide +kernel
theorem dX12_plan_153 : decode cX12_plan 153 = .ok (.putfield 260, 3) := by decide +kernel
theorem dX12_plan_156 : decode cX12_plan 156 = .ok (.iconst 0, 1) := by decide +kernel
theorem dX12_plan_157 : decode cX12_plan 157 = .ok (.ireturn, 1) := by decide +kernel
theorem dX12_fault_0 : decode cX12_fault 0 = .ok (.aload_n 0, 1) := by decide +kernel
theorem dX12_fault_1 : decode cX12_fault 1 = .ok (.iconst 0, 1) := by decide +kernel
theorem dX12_fault_2 : decode cX12_fault 2 = .ok (.putfield 131, 3) := by decide +kernel
theorem dX12_fault_5 : decode cX12_fault 5 = .ok (.aload_n 0, 1) := by decide +kernel
theorem dX12_fault_6 : decode cX12_fault 6 = .ok (.getfield 77, 3) := by decide +kernel
theorem dX12_fault_9 : decode cX12_fault 9 = .ok (.ireturn, 1) := by decide +kernel
theorem dX12_zones_0 : decode cX12_zones 0 = .ok (.aload_n 0, 1) := by decide +kernel
theorem dX12_zones_1 : decode cX12_zones 1 = .ok (.getfield 62, 3) := by decide +kernel
theorem dX12_zones_4 : decode cX12_zones 4 = .ok (.sipush 163, 3) := by decide +kernel
theorem dX12_zones_7 : decode cX12_zones 7 = .ok (.iaload, 1) := by decide +kernel
theorem dX12_zones_8 : decode cX12_zones 8 = .ok (.ireturn, 1) := by decide +kernel
theorem dX12_trips_0 : decode cX12_trips 0 = .ok (.aload_n 0, 1) := by decide +kernel
theorem dX12_trips_1 : decode cX12_trips 1 = .ok (.getfield 62, 3) := by decide +kernel
theorem dX12_trips_4 : decode cX12_trips 4 = .ok (.sipush 164, 3) := by decide +kernel
theorem dX12_trips_7 : decode cX12_trips 7 = .ok (.iaload, 1) := by decide +kernel
theorem dX12_trips_8 : decode cX12_trips 8 = .ok (.ireturn, 1) := by decide +kernel
theorem dX12_devices_0 : decode cX12_devices 0 = .ok (.aload_n 0, 1) := by decide +kernel
theorem dX12_devices_1 : decode cX12_devices 1 = .ok (.getfield 62, 3) := by decide +kernel
theorem dX12_devices_4 : decode cX12_devices 4 = .ok (.sipush 165, 3) := by decide +kernel
theorem dX12_devices_7 : decode cX12_devices 7 = .ok (.iaload, 1) := by decide +kernel
theorem dX12_devices_8 : decode cX12_devices 8 = .ok (.ireturn, 1) := by decide +kernel
theorem dX12_weight_0 : decode cX12_weight 0 = .ok (.aload_n 0, 1) := by decide +kernel
theorem dX12_weight_1 : decode cX12_weight 1 = .ok (.getfield 62, 3) := by decide +kernel
theorem dX12_weight_4 : decode cX12_weight 4 = .ok (.bipush 79, 2) := by decide +kernel
theorem dX12_weight_6 : decode cX12_weight 6 = .ok (.bipush 6, 2) := by decide +kernel
theorem dX12_weight_8 : decode cX12_weight 8 = .ok (.iload_n 1, 1) := by decide +kernel
theorem dX12_weight_9 : decode cX12_weight 9 = .ok (.imul, 1) := by decide +kernel
theorem dX12_weight_10 : decode cX12_weight 10 = .ok (.iadd, 1) := by decide +kernel
theorem dX12_weight_11 : decode cX12_weight 11 = .ok (.iload_n 2, 1) := by decide +kernel
theorem dX12_weight_12 : decode cX12_weight 12 = .ok (.iadd, 1) := by decide +kernel
theorem dX12_weight_13 : decode cX12_weight 13 = .ok (.iaload, 1) := by decide +kernel
theorem dX12_weight_14 : decode cX12_weight 14 = .ok (.ireturn, 1) := by decide +kernel
theorem dX12_zoneOf_0 : decode cX12_zoneOf 0 = .ok (.aload_n 0, 1) := by decide +kernel
theorem dX12_zoneOf_1 : decode cX12_zoneOf 1 = .ok (.getfield 62, 3) := by decide +kernel
theorem dX12_zoneOf_4 : decode cX12_zoneOf 4 = .ok (.bipush 15, 2) := by decide +kernel
theorem dX12_zoneOf_6 : decode cX12_zoneOf 6 = .ok (.iload_n 1, 1) := by decide +kernel
theorem dX12_zoneOf_7 : decode cX12_zoneOf 7 = .ok (.iadd, 1) := by decide +kernel
theorem dX12_zoneOf_8 : decode cX12_zoneOf 8 = .ok (.iaload, 1) := by decide +kernel
theorem dX12_zoneOf_9 : decode cX12_zoneOf 9 = .ok (.ireturn, 1) := by decide +kernel
theorem dX12_cooled_0 : decode cX12_cooled 0 = .ok (.iconst 0, 1) := by decide +kernel
theorem dX12_cooled_1 : decode cX12_cooled 1 = .ok (.istore_n 2, 1) := by decide +kernel
theorem dX12_cooled_2 : decode cX12_cooled 2 = .ok (.iconst 0, 1) := by decide +kernel
theorem dX12_cooled_3 : decode cX12_cooled 3 = .ok (.istore_n 3, 1) := by decide +kernel
theorem dX12_cooled_4 : decode cX12_cooled 4 = .ok (.iload_n 3, 1) := by decide +kernel
theorem dX12_cooled_5 : decode cX12_cooled 5 = .ok (.aload_n 0, 1) := by decide +kernel
theorem dX12_cooled_6 : decode cX12_cooled 6 = .ok (.invokevirtual 263, 3) := by decide +kernel
theorem dX12_cooled_9 : decode cX12_cooled 9 = .ok (.if_icmp .ge 48, 3) := by decide +kernel
theorem dX12_cooled_12 : decode cX12_cooled 12 = .ok (.iload_n 2, 1) := by decide +kernel
theorem dX12_cooled_13 : decode cX12_cooled 13 = .ok (.aload_n 0, 1) := by decide +kernel
theorem dX12_cooled_14 : decode cX12_cooled 14 = .ok (.getfield 62, 3) := by decide +kernel
theorem dX12_cooled_17 : decode cX12_cooled 17 = .ok (.bipush 61, 2) := by decide +kernel
theorem dX12_cooled_19 : decode cX12_cooled 19 = .ok (.iload_n 3, 1) := by decide +kernel
theorem dX12_cooled_20 : decode cX12_cooled 20 = .ok (.iadd, 1) := by decide +kernel
theorem dX12_cooled_21 : decode cX12_cooled 21 = .ok (.iaload, 1) := by decide +kernel
theorem dX12_cooled_22 : decode cX12_cooled 22 = .ok (.iload_n 1, 1) := by decide +kernel
theorem dX12_cooled_23 : decode cX12_cooled 23 = .ok (.if_icmp .ne 25, 3) := by decide +kernel
theorem dX12_cooled_26 : decode cX12_cooled 26 = .ok (.aload_n 0, 1) := by decide +kernel
theorem dX12_cooled_27 : decode cX12_cooled 27 = .ok (.getfield 58, 3) := by decide +kernel
theorem dX12_cooled_30 : decode cX12_cooled 30 = .ok (.bipush 70, 2) := by decide +kernel
theorem dX12_cooled_32 : decode cX12_cooled 32 = .ok (.iload_n 3, 1) := by decide +kernel
theorem dX12_cooled_33 : decode cX12_cooled 33 = .ok (.iadd, 1) := by decide +kernel
theorem dX12_cooled_34 : decode cX12_cooled 34 = .ok (.iaload, 1) := by decide +kernel
theorem dX12_cooled_35 : decode cX12_cooled 35 = .ok (.aload_n 0, 1) := by decide +kernel
theorem dX12_cooled_36 : decode cX12_cooled 36 = .ok (.getfield 62, 3) := by decide +kernel
theorem dX12_cooled_39 : decode cX12_cooled 39 = .ok (.bipush 73, 2) := by decide +kernel
theorem dX12_cooled_41 : decode cX12_cooled 41 = .ok (.iload_n 3, 1) := by decide +kernel
theorem dX12_cooled_42 : decode cX12_cooled 42 = .ok (.iadd, 1) := by decide +kernel
theorem dX12_cooled_43 : decode cX12_cooled 43 = .ok (.iaload, 1) := by decide +kernel
theorem dX12_cooled_44 : decode cX12_cooled 44 = .ok (.imul, 1) := by decide +kernel
theorem dX12_cooled_45 : decode cX12_cooled 45 = .ok (.goto 4, 3) := by decide +kernel
theorem dX12_cooled_48 : decode cX12_cooled 48 = .ok (.iconst 0, 1) := by decide +kernel
theorem dX12_cooled_49 : decode cX12_cooled 49 = .ok (.iadd, 1) := by decide +kernel
theorem dX12_cooled_50 : decode cX12_cooled 50 = .ok (.istore_n 2, 1) := by decide +kernel
theorem dX12_cooled_51 : decode cX12_cooled 51 = .ok (.iinc 3 1, 3) := by decide +kernel
theorem dX12_cooled_54 : decode cX12_cooled 54 = .ok (.goto (-50), 3) := by decide +kernel
theorem dX12_cooled_57 : decode cX12_cooled 57 = .ok (.iload_n 2, 1) := by decide +kernel
theorem dX12_cooled_58 : decode cX12_cooled 58 = .ok (.ireturn, 1) := by decide +kernel
theorem dX12_heats_0 : decode cX12_heats 0 = .ok (.iconst 0, 1) := by decide +kernel
theorem dX12_heats_1 : decode cX12_heats 1 = .ok (.istore_n 1, 1) := by decide +kernel
theorem dX12_heats_2 : decode cX12_heats 2 = .ok (.iload_n 1, 1) := by decide +kernel
theorem dX12_heats_3 : decode cX12_heats 3 = .ok (.aload_n 0, 1) := by decide +kernel
theorem dX12_heats_4 : decode cX12_heats 4 = .ok (.invokevirtual 266, 3) := by decide +kernel
theorem dX12_heats_7 : decode cX12_heats 7 = .ok (.if_icmp .ge 79, 3) := by decide +kernel
theorem dX12_heats_10 : decode cX12_heats 10 = .ok (.aload_n 0, 1) := by decide +kernel
theorem dX12_heats_11 : decode cX12_heats 11 = .ok (.getfield 81, 3) := by decide +kernel
theorem dX12_heats_14 : decode cX12_heats 14 = .ok (.iload_n 1, 1) := by decide +kernel
theorem dX12_heats_15 : decode cX12_heats 15 = .ok (.aload_n 0, 1) := by decide +kernel
theorem dX12_heats_16 : decode cX12_heats 16 = .ok (.getfield 58, 3) := by decide +kernel
theorem dX12_heats_19 : decode cX12_heats 19 = .ok (.iconst 0, 1) := by decide +kernel
theorem dX12_heats_20 : decode cX12_heats 20 = .ok (.iload_n 1, 1) := by decide +kernel
theorem dX12_heats_21 : decode cX12_heats 21 = .ok (.iadd, 1) := by decide +kernel
theorem dX12_heats_22 : decode cX12_heats 22 = .ok (.iaload, 1) := by decide +kernel
theorem dX12_heats_23 : decode cX12_heats 23 = .ok (.aload_n 0, 1) := by decide +kernel
theorem dX12_heats_24 : decode cX12_heats 24 = .ok (.getfield 58, 3) := by decide +kernel
theorem dX12_heats_27 : decode cX12_heats 27 = .ok (.bipush 10, 2) := by decide +kernel
theorem dX12_heats_29 : decode cX12_heats 29 = .ok (.iload_n 1, 1) := by decide +kernel
theorem dX12_heats_30 : decode cX12_heats 30 = .ok (.iadd, 1) := by decide +kernel
theorem dX12_heats_31 : decode cX12_heats 31 = .ok (.iaload, 1) := by decide +kernel
theorem dX12_heats_32 : decode cX12_heats 32 = .ok (.iconst 1, 1) := by decide +kernel
theorem dX12_heats_33 : decode cX12_heats 33 = .ok (.if_icmp .ne 7, 3) := by decide +kernel
theorem dX12_heats_36 : decode cX12_heats 36 = .ok (.iconst 0, 1) := by decide +kernel
theorem dX12_heats_37 : decode cX12_heats 37 = .ok (.goto 11, 3) := by decide +kernel
theorem dX12_heats_40 : decode cX12_heats 40 = .ok (.aload_n 0, 1) := by decide +kernel
theorem dX12_heats_41 : decode cX12_heats 41 = .ok (.getfield 58, 3) := by decide +kernel
