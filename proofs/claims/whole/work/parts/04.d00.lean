theorem dX0_init_0 : decode cX0_init 0 = .ok (.aload_n 0, 1) := by decide +kernel
theorem dX0_init_1 : decode cX0_init 1 = .ok (.invokespecial 3, 3) := by decide +kernel
theorem dX0_init_4 : decode cX0_init 4 = .ok (.aload_n 0, 1) := by decide +kernel
theorem dX0_init_5 : decode cX0_init 5 = .ok (.bipush 10, 2) := by decide +kernel
theorem dX0_init_7 : decode cX0_init 7 = .ok (.newarray .int, 2) := by decide +kernel
theorem dX0_init_9 : decode cX0_init 9 = .ok (.putfield 9, 3) := by decide +kernel
theorem dX0_init_12 : decode cX0_init 12 = .ok (.aload_n 0, 1) := by decide +kernel
theorem dX0_init_13 : decode cX0_init 13 = .ok (.bipush 10, 2) := by decide +kernel
theorem dX0_init_15 : decode cX0_init 15 = .ok (.newarray .int, 2) := by decide +kernel
theorem dX0_init_17 : decode cX0_init 17 = .ok (.putfield 15, 3) := by decide +kernel
theorem dX0_init_20 : decode cX0_init 20 = .ok (.aload_n 0, 1) := by decide +kernel
theorem dX0_init_21 : decode cX0_init 21 = .ok (.sipush 640, 3) := by decide +kernel
theorem dX0_init_24 : decode cX0_init 24 = .ok (.newarray .int, 2) := by decide +kernel
theorem dX0_init_26 : decode cX0_init 26 = .ok (.putfield 18, 3) := by decide +kernel
theorem dX0_init_29 : decode cX0_init 29 = .ok (.aload_n 0, 1) := by decide +kernel
theorem dX0_init_30 : decode cX0_init 30 = .ok (.aload_n 1, 1) := by decide +kernel
theorem dX0_init_31 : decode cX0_init 31 = .ok (.putfield 21, 3) := by decide +kernel
theorem dX0_init_34 : decode cX0_init 34 = .ok (.return_, 1) := by decide +kernel
theorem dX0_build_0 : decode cX0_build 0 = .ok (.aload_n 0, 1) := by decide +kernel
theorem dX0_build_1 : decode cX0_build 1 = .ok (.aload_n 1, 1) := by decide +kernel
theorem dX0_build_2 : decode cX0_build 2 = .ok (.putfield 21, 3) := by decide +kernel
theorem dX0_build_5 : decode cX0_build 5 = .ok (.iconst 0, 1) := by decide +kernel
theorem dX0_build_6 : decode cX0_build 6 = .ok (.istore_n 3, 1) := by decide +kernel
theorem dX0_build_7 : decode cX0_build 7 = .ok (.iload_n 3, 1) := by decide +kernel
theorem dX0_build_8 : decode cX0_build 8 = .ok (.aload_n 0, 1) := by decide +kernel
theorem dX0_build_9 : decode cX0_build 9 = .ok (.getfield 21, 3) := by decide +kernel
theorem dX0_build_12 : decode cX0_build 12 = .ok (.getfield 25, 3) := by decide +kernel
theorem dX0_build_15 : decode cX0_build 15 = .ok (.if_icmp .ge 29, 3) := by decide +kernel
theorem dX0_build_18 : decode cX0_build 18 = .ok (.aload_n 0, 1) := by decide +kernel
theorem dX0_build_19 : decode cX0_build 19 = .ok (.getfield 9, 3) := by decide +kernel
theorem dX0_build_22 : decode cX0_build 22 = .ok (.iload_n 3, 1) := by decide +kernel
theorem dX0_build_23 : decode cX0_build 23 = .ok (.aload_n 2, 1) := by decide +kernel
theorem dX0_build_24 : decode cX0_build 24 = .ok (.iload_n 3, 1) := by decide +kernel
theorem dX0_build_25 : decode cX0_build 25 = .ok (.iaload, 1) := by decide +kernel
theorem dX0_build_26 : decode cX0_build 26 = .ok (.iastore, 1) := by decide +kernel
theorem dX0_build_27 : decode cX0_build 27 = .ok (.aload_n 0, 1) := by decide +kernel
theorem dX0_build_28 : decode cX0_build 28 = .ok (.getfield 15, 3) := by decide +kernel
theorem dX0_build_31 : decode cX0_build 31 = .ok (.aload_n 2, 1) := by decide +kernel
theorem dX0_build_32 : decode cX0_build 32 = .ok (.iload_n 3, 1) := by decide +kernel
theorem dX0_build_33 : decode cX0_build 33 = .ok (.iaload, 1) := by decide +kernel
theorem dX0_build_34 : decode cX0_build 34 = .ok (.iconst 1, 1) := by decide +kernel
theorem dX0_build_35 : decode cX0_build 35 = .ok (.iload_n 3, 1) := by decide +kernel
theorem dX0_build_36 : decode cX0_build 36 = .ok (.ishl, 1) := by decide +kernel
theorem dX0_build_37 : decode cX0_build 37 = .ok (.iastore, 1) := by decide +kernel
theorem dX0_build_38 : decode cX0_build 38 = .ok (.iinc 3 1, 3) := by decide +kernel
theorem dX0_build_41 : decode cX0_build 41 = .ok (.goto (-34), 3) := by decide +kernel
theorem dX0_build_44 : decode cX0_build 44 = .ok (.aload_n 0, 1) := by decide +kernel
theorem dX0_build_45 : decode cX0_build 45 = .ok (.getfield 18, 3) := by decide +kernel
theorem dX0_build_48 : decode cX0_build 48 = .ok (.iconst (-1), 1) := by decide +kernel
theorem dX0_build_49 : decode cX0_build 49 = .ok (.invokestatic 31, 3) := by decide +kernel
theorem dX0_build_52 : decode cX0_build 52 = .ok (.return_, 1) := by decide +kernel
theorem dX0_all_0 : decode cX0_all 0 = .ok (.iconst 1, 1) := by decide +kernel
theorem dX0_all_1 : decode cX0_all 1 = .ok (.aload_n 0, 1) := by decide +kernel
theorem dX0_all_2 : decode cX0_all 2 = .ok (.getfield 21, 3) := by decide +kernel
theorem dX0_all_5 : decode cX0_all 5 = .ok (.getfield 25, 3) := by decide +kernel
theorem dX0_all_8 : decode cX0_all 8 = .ok (.ishl, 1) := by decide +kernel
theorem dX0_all_9 : decode cX0_all 9 = .ok (.iconst 1, 1) := by decide +kernel
theorem dX0_all_10 : decode cX0_all 10 = .ok (.isub, 1) := by decide +kernel
theorem dX0_all_11 : decode cX0_all 11 = .ok (.ireturn, 1) := by decide +kernel
theorem dX0_placesOf_0 : decode cX0_placesOf 0 = .ok (.iconst 0, 1) := by decide +kernel
theorem dX0_placesOf_1 : decode cX0_placesOf 1 = .ok (.istore_n 2, 1) := by decide +kernel
theorem dX0_placesOf_2 : decode cX0_placesOf 2 = .ok (.iconst 0, 1) := by decide +kernel
theorem dX0_placesOf_3 : decode cX0_placesOf 3 = .ok (.istore_n 3, 1) := by decide +kernel
theorem dX0_placesOf_4 : decode cX0_placesOf 4 = .ok (.iload_n 3, 1) := by decide +kernel
theorem dX0_placesOf_5 : decode cX0_placesOf 5 = .ok (.aload_n 0, 1) := by decide +kernel
theorem dX0_placesOf_6 : decode cX0_placesOf 6 = .ok (.getfield 21, 3) := by decide +kernel
theorem dX0_placesOf_9 : decode cX0_placesOf 9 = .ok (.getfield 25, 3) := by decide +kernel
theorem dX0_placesOf_12 : decode cX0_placesOf 12 = .ok (.if_icmp .ge 26, 3) := by decide +kernel
theorem dX0_placesOf_15 : decode cX0_placesOf 15 = .ok (.iload_n 1, 1) := by decide +kernel
theorem dX0_placesOf_16 : decode cX0_placesOf 16 = .ok (.iload_n 3, 1) := by decide +kernel
theorem dX0_placesOf_17 : decode cX0_placesOf 17 = .ok (.ishr, 1) := by decide +kernel
theorem dX0_placesOf_18 : decode cX0_placesOf 18 = .ok (.iconst 1, 1) := by decide +kernel
theorem dX0_placesOf_19 : decode cX0_placesOf 19 = .ok (.iand, 1) := by decide +kernel
theorem dX0_placesOf_20 : decode cX0_placesOf 20 = .ok (.ifCond .eq 12, 3) := by decide +kernel
theorem dX0_placesOf_23 : decode cX0_placesOf 23 = .ok (.iload_n 2, 1) := by decide +kernel
theorem dX0_placesOf_24 : decode cX0_placesOf 24 = .ok (.aload_n 0, 1) := by decide +kernel
theorem dX0_placesOf_25 : decode cX0_placesOf 25 = .ok (.getfield 15, 3) := by decide +kernel
theorem dX0_placesOf_28 : decode cX0_placesOf 28 = .ok (.iload_n 3, 1) := by decide +kernel
theorem dX0_placesOf_29 : decode cX0_placesOf 29 = .ok (.iaload, 1) := by decide +kernel
theorem dX0_placesOf_30 : decode cX0_placesOf 30 = .ok (.ior, 1) := by decide +kernel
theorem dX0_placesOf_31 : decode cX0_placesOf 31 = .ok (.istore_n 2, 1) := by decide +kernel
theorem dX0_placesOf_32 : decode cX0_placesOf 32 = .ok (.iinc 3 1, 3) := by decide +kernel
theorem dX0_placesOf_35 : decode cX0_placesOf 35 = .ok (.goto (-31), 3) := by decide +kernel
theorem dX0_placesOf_38 : decode cX0_placesOf 38 = .ok (.iload_n 2, 1) := by decide +kernel
theorem dX0_placesOf_39 : decode cX0_placesOf 39 = .ok (.ireturn, 1) := by decide +kernel
theorem dX0_findBearing_0 : decode cX0_findBearing 0 = .ok (.aload_n 1, 1) := by decide +kernel
theorem dX0_findBearing_1 : decode cX0_findBearing 1 = .ok (.getfield 37, 3) := by decide +kernel
theorem dX0_findBearing_4 : decode cX0_findBearing 4 = .ok (.iconst 3, 1) := by decide +kernel
theorem dX0_findBearing_5 : decode cX0_findBearing 5 = .ok (.if_icmp .ne 17, 3) := by decide +kernel
theorem dX0_findBearing_8 : decode cX0_findBearing 8 = .ok (.aload_n 0, 1) := by decide +kernel
theorem dX0_findBearing_9 : decode cX0_findBearing 9 = .ok (.getfield 21, 3) := by decide +kernel
theorem dX0_findBearing_12 : decode cX0_findBearing 12 = .ok (.aload_n 1, 1) := by decide +kernel
theorem dX0_findBearing_13 : decode cX0_findBearing 13 = .ok (.getfield 42, 3) := by decide +kernel
theorem dX0_findBearing_16 : decode cX0_findBearing 16 = .ok (.invokevirtual 45, 3) := by decide +kernel
theorem dX0_findBearing_19 : decode cX0_findBearing 19 = .ok (.goto 4, 3) := by decide +kernel
theorem dX0_findBearing_22 : decode cX0_findBearing 22 = .ok (.iconst 0, 1) := by decide +kernel
theorem dX0_findBearing_23 : decode cX0_findBearing 23 = .ok (.istore_n 3, 1) := by decide +kernel
theorem dX0_findBearing_24 : decode cX0_findBearing 24 = .ok (.iconst 0, 1) := by decide +kernel
theorem dX0_findBearing_25 : decode cX0_findBearing 25 = .ok (.istore 4, 2) := by decide +kernel
theorem dX0_findBearing_27 : decode cX0_findBearing 27 = .ok (.iconst 0, 1) := by decide +kernel
theorem dX0_findBearing_28 : decode cX0_findBearing 28 = .ok (.istore 5, 2) := by decide +kernel
theorem dX0_findBearing_30 : decode cX0_findBearing 30 = .ok (.iload 5, 2) := by decide +kernel
theorem dX0_findBearing_32 : decode cX0_findBearing 32 = .ok (.aload_n 0, 1) := by decide +kernel
theorem dX0_findBearing_33 : decode cX0_findBearing 33 = .ok (.getfield 21, 3) := by decide +kernel
theorem dX0_findBearing_36 : decode cX0_findBearing 36 = .ok (.getfield 25, 3) := by decide +kernel
theorem dX0_findBearing_39 : decode cX0_findBearing 39 = .ok (.if_icmp .ge 84, 3) := by decide +kernel
theorem dX0_findBearing_42 : decode cX0_findBearing 42 = .ok (.aload_n 0, 1) := by decide +kernel
theorem dX0_findBearing_43 : decode cX0_findBearing 43 = .ok (.getfield 21, 3) := by decide +kernel
theorem dX0_findBearing_46 : decode cX0_findBearing 46 = .ok (.getfield 49, 3) := by decide +kernel
theorem dX0_findBearing_49 : decode cX0_findBearing 49 = .ok (.aload_n 0, 1) := by decide +kernel
theorem dX0_findBearing_50 : decode cX0_findBearing 50 = .ok (.getfield 9, 3) := by decide +kernel
theorem dX0_findBearing_53 : decode cX0_findBearing 53 = .ok (.iload 5, 2) := by decide +kernel
theorem dX0_findBearing_55 : decode cX0_findBearing 55 = .ok (.iaload, 1) := by decide +kernel
theorem dX0_findBearing_56 : decode cX0_findBearing 56 = .ok (.iaload, 1) := by decide +kernel
theorem dX0_findBearing_57 : decode cX0_findBearing 57 = .ok (.istore 6, 2) := by decide +kernel
theorem dX0_findBearing_59 : decode cX0_findBearing 59 = .ok (.aload_n 0, 1) := by decide +kernel
theorem dX0_findBearing_60 : decode cX0_findBearing 60 = .ok (.getfield 21, 3) := by decide +kernel
theorem dX0_findBearing_63 : decode cX0_findBearing 63 = .ok (.getfield 52, 3) := by decide +kernel
theorem dX0_findBearing_66 : decode cX0_findBearing 66 = .ok (.iload 6, 2) := by decide +kernel
theorem dX0_findBearing_68 : decode cX0_findBearing 68 = .ok (.iload_n 2, 1) := by decide +kernel
theorem dX0_findBearing_69 : decode cX0_findBearing 69 = .ok (.iand, 1) := by decide +kernel
theorem dX0_findBearing_70 : decode cX0_findBearing 70 = .ok (.invokestatic 55, 3) := by decide +kernel
theorem dX0_findBearing_73 : decode cX0_findBearing 73 = .ok (.imul, 1) := by decide +kernel
theorem dX0_findBearing_74 : decode cX0_findBearing 74 = .ok (.istore 7, 2) := by decide +kernel
theorem dX0_findBearing_76 : decode cX0_findBearing 76 = .ok (.aload_n 0, 1) := by decide +kernel
theorem dX0_findBearing_77 : decode cX0_findBearing 77 = .ok (.getfield 21, 3) := by decide +kernel
theorem dX0_findBearing_80 : decode cX0_findBearing 80 = .ok (.getfield 60, 3) := by decide +kernel
theorem dX0_findBearing_83 : decode cX0_findBearing 83 = .ok (.aload_n 0, 1) := by decide +kernel
theorem dX0_findBearing_84 : decode cX0_findBearing 84 = .ok (.getfield 9, 3) := by decide +kernel
theorem dX0_findBearing_87 : decode cX0_findBearing 87 = .ok (.iload 5, 2) := by decide +kernel
theorem dX0_findBearing_89 : decode cX0_findBearing 89 = .ok (.iaload, 1) := by decide +kernel
theorem dX0_findBearing_90 : decode cX0_findBearing 90 = .ok (.iaload, 1) := by decide +kernel
theorem dX0_findBearing_91 : decode cX0_findBearing 91 = .ok (.iload 7, 2) := by decide +kernel
theorem dX0_findBearing_93 : decode cX0_findBearing 93 = .ok (.isub, 1) := by decide +kernel
theorem dX0_findBearing_94 : decode cX0_findBearing 94 = .ok (.aload_n 1, 1) := by decide +kernel
theorem dX0_findBearing_95 : decode cX0_findBearing 95 = .ok (.invokevirtual 63, 3) := by decide +kernel
theorem dX0_findBearing_98 : decode cX0_findBearing 98 = .ok (.if_icmp .lt 19, 3) := by decide +kernel
theorem dX0_findBearing_101 : decode cX0_findBearing 101 = .ok (.iload 6, 2) := by decide +kernel
theorem dX0_findBearing_103 : decode cX0_findBearing 103 = .ok (.iload_n 3, 1) := by decide +kernel
theorem dX0_findBearing_104 : decode cX0_findBearing 104 = .ok (.iand, 1) := by decide +kernel
theorem dX0_findBearing_105 : decode cX0_findBearing 105 = .ok (.ifCond .ne 12, 3) := by decide +kernel
theorem dX0_findBearing_108 : decode cX0_findBearing 108 = .ok (.iload 4, 2) := by decide +kernel
theorem dX0_findBearing_110 : decode cX0_findBearing 110 = .ok (.iconst 1, 1) := by decide +kernel
theorem dX0_findBearing_111 : decode cX0_findBearing 111 = .ok (.iload 5, 2) := by decide +kernel
theorem dX0_findBearing_113 : decode cX0_findBearing 113 = .ok (.ishl, 1) := by decide +kernel
theorem dX0_findBearing_114 : decode cX0_findBearing 114 = .ok (.ior, 1) := by decide +kernel
theorem dX0_findBearing_115 : decode cX0_findBearing 115 = .ok (.istore 4, 2) := by decide +kernel
theorem dX0_findBearing_117 : decode cX0_findBearing 117 = .ok (.iinc 5 1, 3) := by decide +kernel
theorem dX0_findBearing_120 : decode cX0_findBearing 120 = .ok (.goto (-90), 3) := by decide +kernel
theorem dX0_findBearing_123 : decode cX0_findBearing 123 = .ok (.iload 4, 2) := by decide +kernel
theorem dX0_findBearing_125 : decode cX0_findBearing 125 = .ok (.ireturn, 1) := by decide +kernel
theorem dX0_gaps_0 : decode cX0_gaps 0 = .ok (.iload_n 1, 1) := by decide +kernel
theorem dX0_gaps_1 : decode cX0_gaps 1 = .ok (.sipush 128, 3) := by decide +kernel
theorem dX0_gaps_4 : decode cX0_gaps 4 = .ok (.imul, 1) := by decide +kernel
theorem dX0_gaps_5 : decode cX0_gaps 5 = .ok (.iload_n 3, 1) := by decide +kernel
theorem dX0_gaps_6 : decode cX0_gaps 6 = .ok (.iadd, 1) := by decide +kernel
theorem dX0_gaps_7 : decode cX0_gaps 7 = .ok (.istore 4, 2) := by decide +kernel
theorem dX0_gaps_9 : decode cX0_gaps 9 = .ok (.aload_n 0, 1) := by decide +kernel
theorem dX0_gaps_10 : decode cX0_gaps 10 = .ok (.getfield 18, 3) := by decide +kernel
theorem dX0_gaps_13 : decode cX0_gaps 13 = .ok (.iload 4, 2) := by decide +kernel
theorem dX0_gaps_15 : decode cX0_gaps 15 = .ok (.iaload, 1) := by decide +kernel
theorem dX0_gaps_16 : decode cX0_gaps 16 = .ok (.iconst (-1), 1) := by decide +kernel
theorem dX0_gaps_17 : decode cX0_gaps 17 = .ok (.if_icmp .ne 24, 3) := by decide +kernel
theorem dX0_gaps_20 : decode cX0_gaps 20 = .ok (.aload_n 0, 1) := by decide +kernel
theorem dX0_gaps_21 : decode cX0_gaps 21 = .ok (.getfield 18, 3) := by decide +kernel
theorem dX0_gaps_24 : decode cX0_gaps 24 = .ok (.iload 4, 2) := by decide +kernel
theorem dX0_gaps_26 : decode cX0_gaps 26 = .ok (.aload_n 0, 1) := by decide +kernel
theorem dX0_gaps_27 : decode cX0_gaps 27 = .ok (.aload_n 0, 1) := by decide +kernel
theorem dX0_gaps_28 : decode cX0_gaps 28 = .ok (.getfield 21, 3) := by decide +kernel
theorem dX0_gaps_31 : decode cX0_gaps 31 = .ok (.getfield 67, 3) := by decide +kernel
theorem dX0_gaps_34 : decode cX0_gaps 34 = .ok (.iload_n 1, 1) := by decide +kernel
theorem dX0_gaps_35 : decode cX0_gaps 35 = .ok (.aaload, 1) := by decide +kernel
theorem dX0_gaps_36 : decode cX0_gaps 36 = .ok (.iload_n 3, 1) := by decide +kernel
theorem dX0_gaps_37 : decode cX0_gaps 37 = .ok (.invokevirtual 71, 3) := by decide +kernel
theorem dX0_gaps_40 : decode cX0_gaps 40 = .ok (.iastore, 1) := by decide +kernel
theorem dX0_gaps_41 : decode cX0_gaps 41 = .ok (.aload_n 0, 1) := by decide +kernel
theorem dX0_gaps_42 : decode cX0_gaps 42 = .ok (.invokevirtual 75, 3) := by decide +kernel
theorem dX0_gaps_45 : decode cX0_gaps 45 = .ok (.aload_n 0, 1) := by decide +kernel
theorem dX0_gaps_46 : decode cX0_gaps 46 = .ok (.getfield 18, 3) := by decide +kernel
theorem dX0_gaps_49 : decode cX0_gaps 49 = .ok (.iload 4, 2) := by decide +kernel
theorem dX0_gaps_51 : decode cX0_gaps 51 = .ok (.iaload, 1) := by decide +kernel
theorem dX0_gaps_52 : decode cX0_gaps 52 = .ok (.iload_n 2, 1) := by decide +kernel
theorem dX0_gaps_53 : decode cX0_gaps 53 = .ok (.iconst (-1), 1) := by decide +kernel
theorem dX0_gaps_54 : decode cX0_gaps 54 = .ok (.ixor, 1) := by decide +kernel
theorem dX0_gaps_55 : decode cX0_gaps 55 = .ok (.iand, 1) := by decide +kernel
theorem dX0_gaps_56 : decode cX0_gaps 56 = .ok (.iconst (-1), 1) := by decide +kernel
theorem dX0_gaps_57 : decode cX0_gaps 57 = .ok (.ixor, 1) := by decide +kernel
theorem dX0_gaps_58 : decode cX0_gaps 58 = .ok (.iand, 1) := by decide +kernel
theorem dX0_gaps_59 : decode cX0_gaps 59 = .ok (.ireturn, 1) := by decide +kernel
theorem dX0_passes_0 : decode cX0_passes 0 = .ok (.iload_n 2, 1) := by decide +kernel
theorem dX0_passes_1 : decode cX0_passes 1 = .ok (.invokestatic 78, 3) := by decide +kernel
theorem dX0_passes_4 : decode cX0_passes 4 = .ok (.aload_n 0, 1) := by decide +kernel
theorem dX0_passes_5 : decode cX0_passes 5 = .ok (.getfield 21, 3) := by decide +kernel
theorem dX0_passes_8 : decode cX0_passes 8 = .ok (.getfield 67, 3) := by decide +kernel
theorem dX0_passes_11 : decode cX0_passes 11 = .ok (.iload_n 1, 1) := by decide +kernel
theorem dX0_passes_12 : decode cX0_passes 12 = .ok (.aaload, 1) := by decide +kernel
theorem dX0_passes_13 : decode cX0_passes 13 = .ok (.iload_n 3, 1) := by decide +kernel
theorem dX0_passes_14 : decode cX0_passes 14 = .ok (.invokevirtual 81, 3) := by decide +kernel
theorem dX0_passes_17 : decode cX0_passes 17 = .ok (.if_icmp .gt 7, 3) := by decide +kernel
theorem dX0_passes_20 : decode cX0_passes 20 = .ok (.iconst 1, 1) := by decide +kernel
theorem dX0_passes_21 : decode cX0_passes 21 = .ok (.goto 4, 3) := by decide +kernel
theorem dX0_passes_24 : decode cX0_passes 24 = .ok (.iconst 0, 1) := by decide +kernel
theorem dX0_passes_25 : decode cX0_passes 25 = .ok (.ireturn, 1) := by decide +kernel
theorem dX0_pays_0 : decode cX0_pays 0 = .ok (.aload_n 0, 1) := by decide +kernel
theorem dX0_pays_1 : decode cX0_pays 1 = .ok (.getfield 21, 3) := by decide +kernel
theorem dX0_pays_4 : decode cX0_pays 4 = .ok (.getfield 67, 3) := by decide +kernel
theorem dX0_pays_7 : decode cX0_pays 7 = .ok (.iload_n 1, 1) := by decide +kernel
theorem dX0_pays_8 : decode cX0_pays 8 = .ok (.aaload, 1) := by decide +kernel
theorem dX0_pays_9 : decode cX0_pays 9 = .ok (.iload_n 3, 1) := by decide +kernel
theorem dX0_pays_10 : decode cX0_pays 10 = .ok (.invokevirtual 85, 3) := by decide +kernel
theorem dX0_pays_13 : decode cX0_pays 13 = .ok (.istore 4, 2) := by decide +kernel
theorem dX0_pays_15 : decode cX0_pays 15 = .ok (.iconst 0, 1) := by decide +kernel
theorem dX0_pays_16 : decode cX0_pays 16 = .ok (.istore 5, 2) := by decide +kernel
theorem dX0_pays_18 : decode cX0_pays 18 = .ok (.iconst 0, 1) := by decide +kernel
theorem dX0_pays_19 : decode cX0_pays 19 = .ok (.istore 6, 2) := by decide +kernel
theorem dX0_pays_21 : decode cX0_pays 21 = .ok (.iconst 0, 1) := by decide +kernel
theorem dX0_pays_22 : decode cX0_pays 22 = .ok (.istore 7, 2) := by decide +kernel
theorem dX0_pays_24 : decode cX0_pays 24 = .ok (.iload 7, 2) := by decide +kernel
theorem dX0_pays_26 : decode cX0_pays 26 = .ok (.aload_n 0, 1) := by decide +kernel
theorem dX0_pays_27 : decode cX0_pays 27 = .ok (.getfield 21, 3) := by decide +kernel
theorem dX0_pays_30 : decode cX0_pays 30 = .ok (.getfield 25, 3) := by decide +kernel
theorem dX0_pays_33 : decode cX0_pays 33 = .ok (.if_icmp .gt 53, 3) := by decide +kernel
theorem dX0_pays_36 : decode cX0_pays 36 = .ok (.iload_n 2, 1) := by decide +kernel
theorem dX0_pays_37 : decode cX0_pays 37 = .ok (.iload 7, 2) := by decide +kernel
theorem dX0_pays_39 : decode cX0_pays 39 = .ok (.ishr, 1) := by decide +kernel
theorem dX0_pays_40 : decode cX0_pays 40 = .ok (.iconst 1, 1) := by decide +kernel
theorem dX0_pays_41 : decode cX0_pays 41 = .ok (.iand, 1) := by decide +kernel
theorem dX0_pays_42 : decode cX0_pays 42 = .ok (.ifCond .eq 9, 3) := by decide +kernel
theorem dX0_pays_45 : decode cX0_pays 45 = .ok (.iinc 6 1, 3) := by decide +kernel
theorem dX0_pays_48 : decode cX0_pays 48 = .ok (.goto 32, 3) := by decide +kernel
theorem dX0_pays_51 : decode cX0_pays 51 = .ok (.iload 5, 2) := by decide +kernel
theorem dX0_pays_53 : decode cX0_pays 53 = .ok (.iload 6, 2) := by decide +kernel
theorem dX0_pays_55 : decode cX0_pays 55 = .ok (.iload 4, 2) := by decide +kernel
theorem dX0_pays_57 : decode cX0_pays 57 = .ok (.if_icmp .le 16, 3) := by decide +kernel
theorem dX0_pays_60 : decode cX0_pays 60 = .ok (.iload 6, 2) := by decide +kernel
theorem dX0_pays_62 : decode cX0_pays 62 = .ok (.aload_n 0, 1) := by decide +kernel
theorem dX0_pays_63 : decode cX0_pays 63 = .ok (.getfield 21, 3) := by decide +kernel
theorem dX0_pays_66 : decode cX0_pays 66 = .ok (.getfield 88, 3) := by decide +kernel
theorem dX0_pays_69 : decode cX0_pays 69 = .ok (.imul, 1) := by decide +kernel
theorem dX0_pays_70 : decode cX0_pays 70 = .ok (.goto 4, 3) := by decide +kernel
theorem dX0_pays_73 : decode cX0_pays 73 = .ok (.iconst 0, 1) := by decide +kernel
theorem dX0_pays_74 : decode cX0_pays 74 = .ok (.iadd, 1) := by decide +kernel
theorem dX0_pays_75 : decode cX0_pays 75 = .ok (.istore 5, 2) := by decide +kernel
theorem dX0_pays_77 : decode cX0_pays 77 = .ok (.iconst 0, 1) := by decide +kernel
theorem dX0_pays_78 : decode cX0_pays 78 = .ok (.istore 6, 2) := by decide +kernel
theorem dX0_pays_80 : decode cX0_pays 80 = .ok (.iinc 7 1, 3) := by decide +kernel
theorem dX0_pays_83 : decode cX0_pays 83 = .ok (.goto (-59), 3) := by decide +kernel
theorem dX0_pays_86 : decode cX0_pays 86 = .ok (.iload 5, 2) := by decide +kernel
theorem dX0_pays_88 : decode cX0_pays 88 = .ok (.ireturn, 1) := by decide +kernel
theorem dX0_barIn_0 : decode cX0_barIn 0 = .ok (.aload_n 0, 1) := by decide +kernel
theorem dX0_barIn_1 : decode cX0_barIn 1 = .ok (.getfield 21, 3) := by decide +kernel
theorem dX0_barIn_4 : decode cX0_barIn 4 = .ok (.getfield 67, 3) := by decide +kernel
theorem dX0_barIn_7 : decode cX0_barIn 7 = .ok (.iload_n 1, 1) := by decide +kernel
theorem dX0_barIn_8 : decode cX0_barIn 8 = .ok (.aaload, 1) := by decide +kernel
theorem dX0_barIn_9 : decode cX0_barIn 9 = .ok (.iload_n 3, 1) := by decide +kernel
theorem dX0_barIn_10 : decode cX0_barIn 10 = .ok (.invokevirtual 81, 3) := by decide +kernel
theorem dX0_barIn_13 : decode cX0_barIn 13 = .ok (.istore 4, 2) := by decide +kernel
theorem dX0_barIn_15 : decode cX0_barIn 15 = .ok (.iconst 0, 1) := by decide +kernel
theorem dX0_barIn_16 : decode cX0_barIn 16 = .ok (.istore 5, 2) := by decide +kernel
theorem dX0_barIn_18 : decode cX0_barIn 18 = .ok (.iconst 0, 1) := by decide +kernel
theorem dX0_barIn_19 : decode cX0_barIn 19 = .ok (.istore 6, 2) := by decide +kernel
theorem dX0_barIn_21 : decode cX0_barIn 21 = .ok (.iload 6, 2) := by decide +kernel
theorem dX0_barIn_23 : decode cX0_barIn 23 = .ok (.aload_n 0, 1) := by decide +kernel
theorem dX0_barIn_24 : decode cX0_barIn 24 = .ok (.getfield 21, 3) := by decide +kernel
theorem dX0_barIn_27 : decode cX0_barIn 27 = .ok (.getfield 25, 3) := by decide +kernel
theorem dX0_barIn_30 : decode cX0_barIn 30 = .ok (.if_icmp .gt 46, 3) := by decide +kernel
theorem dX0_barIn_33 : decode cX0_barIn 33 = .ok (.iload_n 2, 1) := by decide +kernel
theorem dX0_barIn_34 : decode cX0_barIn 34 = .ok (.iload 6, 2) := by decide +kernel
theorem dX0_barIn_36 : decode cX0_barIn 36 = .ok (.ishr, 1) := by decide +kernel
theorem dX0_barIn_37 : decode cX0_barIn 37 = .ok (.iconst 1, 1) := by decide +kernel
theorem dX0_barIn_38 : decode cX0_barIn 38 = .ok (.iand, 1) := by decide +kernel
theorem dX0_barIn_39 : decode cX0_barIn 39 = .ok (.ifCond .eq 9, 3) := by decide +kernel
theorem dX0_barIn_42 : decode cX0_barIn 42 = .ok (.iinc 5 1, 3) := by decide +kernel
theorem dX0_barIn_45 : decode cX0_barIn 45 = .ok (.goto 25, 3) := by decide +kernel
theorem dX0_barIn_48 : decode cX0_barIn 48 = .ok (.iload 5, 2) := by decide +kernel
theorem dX0_barIn_50 : decode cX0_barIn 50 = .ok (.iload 4, 2) := by decide +kernel
theorem dX0_barIn_52 : decode cX0_barIn 52 = .ok (.if_icmp .le 15, 3) := by decide +kernel
theorem dX0_barIn_55 : decode cX0_barIn 55 = .ok (.bipush 16, 2) := by decide +kernel
theorem dX0_barIn_57 : decode cX0_barIn 57 = .ok (.iload 6, 2) := by decide +kernel
theorem dX0_barIn_59 : decode cX0_barIn 59 = .ok (.iload 5, 2) := by decide +kernel
theorem dX0_barIn_61 : decode cX0_barIn 61 = .ok (.isub, 1) := by decide +kernel
theorem dX0_barIn_62 : decode cX0_barIn 62 = .ok (.imul, 1) := by decide +kernel
theorem dX0_barIn_63 : decode cX0_barIn 63 = .ok (.iload 5, 2) := by decide +kernel
theorem dX0_barIn_65 : decode cX0_barIn 65 = .ok (.iadd, 1) := by decide +kernel
theorem dX0_barIn_66 : decode cX0_barIn 66 = .ok (.ireturn, 1) := by decide +kernel
theorem dX0_barIn_67 : decode cX0_barIn 67 = .ok (.iconst 0, 1) := by decide +kernel
theorem dX0_barIn_68 : decode cX0_barIn 68 = .ok (.istore 5, 2) := by decide +kernel
theorem dX0_barIn_70 : decode cX0_barIn 70 = .ok (.iinc 6 1, 3) := by decide +kernel
theorem dX0_barIn_73 : decode cX0_barIn 73 = .ok (.goto (-52), 3) := by decide +kernel
theorem dX0_barIn_76 : decode cX0_barIn 76 = .ok (.iconst (-1), 1) := by decide +kernel
theorem dX0_barIn_77 : decode cX0_barIn 77 = .ok (.ireturn, 1) := by decide +kernel
theorem dX0_whoGetOver_0 : decode cX0_whoGetOver 0 = .ok (.iconst 0, 1) := by decide +kernel
theorem dX0_whoGetOver_1 : decode cX0_whoGetOver 1 = .ok (.istore_n 3, 1) := by decide +kernel
theorem dX0_whoGetOver_2 : decode cX0_whoGetOver 2 = .ok (.aload_n 1, 1) := by decide +kernel
theorem dX0_whoGetOver_3 : decode cX0_whoGetOver 3 = .ok (.invokevirtual 91, 3) := by decide +kernel
theorem dX0_whoGetOver_6 : decode cX0_whoGetOver 6 = .ok (.lstore 4, 2) := by decide +kernel
theorem dX0_whoGetOver_8 : decode cX0_whoGetOver 8 = .ok (.iconst 0, 1) := by decide +kernel
theorem dX0_whoGetOver_9 : decode cX0_whoGetOver 9 = .ok (.istore 6, 2) := by decide +kernel
theorem dX0_whoGetOver_11 : decode cX0_whoGetOver 11 = .ok (.iload 6, 2) := by decide +kernel
theorem dX0_whoGetOver_13 : decode cX0_whoGetOver 13 = .ok (.bipush 63, 2) := by decide +kernel
theorem dX0_whoGetOver_15 : decode cX0_whoGetOver 15 = .ok (.if_icmp .gt 69, 3) := by decide +kernel
theorem dX0_whoGetOver_18 : decode cX0_whoGetOver 18 = .ok (.lload 4, 2) := by decide +kernel
theorem dX0_whoGetOver_20 : decode cX0_whoGetOver 20 = .ok (.lconst 0, 1) := by decide +kernel
theorem dX0_whoGetOver_21 : decode cX0_whoGetOver 21 = .ok (.lcmp, 1) := by decide +kernel
theorem dX0_whoGetOver_22 : decode cX0_whoGetOver 22 = .ok (.ifCond .eq 62, 3) := by decide +kernel
theorem dX0_whoGetOver_25 : decode cX0_whoGetOver 25 = .ok (.iload_n 3, 1) := by decide +kernel
theorem dX0_whoGetOver_26 : decode cX0_whoGetOver 26 = .ok (.iload_n 2, 1) := by decide +kernel
theorem dX0_whoGetOver_27 : decode cX0_whoGetOver 27 = .ok (.if_icmp .eq 57, 3) := by decide +kernel
theorem dX0_whoGetOver_30 : decode cX0_whoGetOver 30 = .ok (.lload 4, 2) := by decide +kernel
theorem dX0_whoGetOver_32 : decode cX0_whoGetOver 32 = .ok (.lload 4, 2) := by decide +kernel
theorem dX0_whoGetOver_34 : decode cX0_whoGetOver 34 = .ok (.lneg, 1) := by decide +kernel
theorem dX0_whoGetOver_35 : decode cX0_whoGetOver 35 = .ok (.land, 1) := by decide +kernel
theorem dX0_whoGetOver_36 : decode cX0_whoGetOver 36 = .ok (.lstore 7, 2) := by decide +kernel
theorem dX0_whoGetOver_38 : decode cX0_whoGetOver 38 = .ok (.lload 4, 2) := by decide +kernel
theorem dX0_whoGetOver_40 : decode cX0_whoGetOver 40 = .ok (.lload 7, 2) := by decide +kernel
theorem dX0_whoGetOver_42 : decode cX0_whoGetOver 42 = .ok (.lxor, 1) := by decide +kernel
theorem dX0_whoGetOver_43 : decode cX0_whoGetOver 43 = .ok (.lstore 4, 2) := by decide +kernel
theorem dX0_whoGetOver_45 : decode cX0_whoGetOver 45 = .ok (.lload 4, 2) := by decide +kernel
theorem dX0_whoGetOver_47 : decode cX0_whoGetOver 47 = .ok (.lload 4, 2) := by decide +kernel
theorem dX0_whoGetOver_49 : decode cX0_whoGetOver 49 = .ok (.lneg, 1) := by decide +kernel
theorem dX0_whoGetOver_50 : decode cX0_whoGetOver 50 = .ok (.land, 1) := by decide +kernel
theorem dX0_whoGetOver_51 : decode cX0_whoGetOver 51 = .ok (.lload 7, 2) := by decide +kernel
theorem dX0_whoGetOver_53 : decode cX0_whoGetOver 53 = .ok (.lsub, 1) := by decide +kernel
theorem dX0_whoGetOver_54 : decode cX0_whoGetOver 54 = .ok (.lstore 9, 2) := by decide +kernel
theorem dX0_whoGetOver_56 : decode cX0_whoGetOver 56 = .ok (.iload_n 3, 1) := by decide +kernel
theorem dX0_whoGetOver_57 : decode cX0_whoGetOver 57 = .ok (.aload_n 0, 1) := by decide +kernel
theorem dX0_whoGetOver_58 : decode cX0_whoGetOver 58 = .ok (.aload_n 1, 1) := by decide +kernel
theorem dX0_whoGetOver_59 : decode cX0_whoGetOver 59 = .ok (.lload 7, 2) := by decide +kernel
theorem dX0_whoGetOver_61 : decode cX0_whoGetOver 61 = .ok (.lconst 1, 1) := by decide +kernel
theorem dX0_whoGetOver_62 : decode cX0_whoGetOver 62 = .ok (.lsub, 1) := by decide +kernel
theorem dX0_whoGetOver_63 : decode cX0_whoGetOver 63 = .ok (.invokestatic 97, 3) := by decide +kernel
theorem dX0_whoGetOver_66 : decode cX0_whoGetOver 66 = .ok (.lload 9, 2) := by decide +kernel
theorem dX0_whoGetOver_68 : decode cX0_whoGetOver 68 = .ok (.iload_n 2, 1) := by decide +kernel
theorem dX0_whoGetOver_69 : decode cX0_whoGetOver 69 = .ok (.iload_n 3, 1) := by decide +kernel
theorem dX0_whoGetOver_70 : decode cX0_whoGetOver 70 = .ok (.iconst (-1), 1) := by decide +kernel
theorem dX0_whoGetOver_71 : decode cX0_whoGetOver 71 = .ok (.ixor, 1) := by decide +kernel
theorem dX0_whoGetOver_72 : decode cX0_whoGetOver 72 = .ok (.iand, 1) := by decide +kernel
theorem dX0_whoGetOver_73 : decode cX0_whoGetOver 73 = .ok (.invokevirtual 102, 3) := by decide +kernel
theorem dX0_whoGetOver_76 : decode cX0_whoGetOver 76 = .ok (.ior, 1) := by decide +kernel
theorem dX0_whoGetOver_77 : decode cX0_whoGetOver 77 = .ok (.istore_n 3, 1) := by decide +kernel
theorem dX0_whoGetOver_78 : decode cX0_whoGetOver 78 = .ok (.iinc 6 1, 3) := by decide +kernel
theorem dX0_whoGetOver_81 : decode cX0_whoGetOver 81 = .ok (.goto (-70), 3) := by decide +kernel
theorem dX0_whoGetOver_84 : decode cX0_whoGetOver 84 = .ok (.iload_n 3, 1) := by decide +kernel
theorem dX0_whoGetOver_85 : decode cX0_whoGetOver 85 = .ok (.ireturn, 1) := by decide +kernel
theorem dX0_whoPass_0 : decode cX0_whoPass 0 = .ok (.aload_n 0, 1) := by decide +kernel
theorem dX0_whoPass_1 : decode cX0_whoPass 1 = .ok (.aload_n 0, 1) := by decide +kernel
theorem dX0_whoPass_2 : decode cX0_whoPass 2 = .ok (.getfield 21, 3) := by decide +kernel
theorem dX0_whoPass_5 : decode cX0_whoPass 5 = .ok (.aload_n 1, 1) := by decide +kernel
theorem dX0_whoPass_6 : decode cX0_whoPass 6 = .ok (.iload_n 2, 1) := by decide +kernel
theorem dX0_whoPass_7 : decode cX0_whoPass 7 = .ok (.invokevirtual 106, 3) := by decide +kernel
theorem dX0_whoPass_10 : decode cX0_whoPass 10 = .ok (.invokevirtual 109, 3) := by decide +kernel
theorem dX0_whoPass_13 : decode cX0_whoPass 13 = .ok (.invokevirtual 112, 3) := by decide +kernel
theorem dX0_whoPass_16 : decode cX0_whoPass 16 = .ok (.istore 6, 2) := by decide +kernel
theorem dX0_whoPass_18 : decode cX0_whoPass 18 = .ok (.aload_n 1, 1) := by decide +kernel
theorem dX0_whoPass_19 : decode cX0_whoPass 19 = .ok (.iload_n 2, 1) := by decide +kernel
theorem dX0_whoPass_20 : decode cX0_whoPass 20 = .ok (.invokevirtual 115, 3) := by decide +kernel
theorem dX0_whoPass_23 : decode cX0_whoPass 23 = .ok (.istore 7, 2) := by decide +kernel
theorem dX0_whoPass_25 : decode cX0_whoPass 25 = .ok (.iconst 0, 1) := by decide +kernel
theorem dX0_whoPass_26 : decode cX0_whoPass 26 = .ok (.istore 8, 2) := by decide +kernel
theorem dX0_whoPass_28 : decode cX0_whoPass 28 = .ok (.iconst 0, 1) := by decide +kernel
theorem dX0_whoPass_29 : decode cX0_whoPass 29 = .ok (.istore 9, 2) := by decide +kernel
theorem dX0_whoPass_31 : decode cX0_whoPass 31 = .ok (.iload 9, 2) := by decide +kernel
theorem dX0_whoPass_33 : decode cX0_whoPass 33 = .ok (.aload_n 0, 1) := by decide +kernel
theorem dX0_whoPass_34 : decode cX0_whoPass 34 = .ok (.getfield 21, 3) := by decide +kernel
theorem dX0_whoPass_37 : decode cX0_whoPass 37 = .ok (.getfield 118, 3) := by decide +kernel
theorem dX0_whoPass_40 : decode cX0_whoPass 40 = .ok (.if_icmp .ge 99, 3) := by decide +kernel
theorem dX0_whoPass_43 : decode cX0_whoPass 43 = .ok (.aload_n 0, 1) := by decide +kernel
theorem dX0_whoPass_44 : decode cX0_whoPass 44 = .ok (.getfield 21, 3) := by decide +kernel
theorem dX0_whoPass_47 : decode cX0_whoPass 47 = .ok (.getfield 67, 3) := by decide +kernel
theorem dX0_whoPass_50 : decode cX0_whoPass 50 = .ok (.iload 9, 2) := by decide +kernel
theorem dX0_whoPass_52 : decode cX0_whoPass 52 = .ok (.aaload, 1) := by decide +kernel
theorem dX0_whoPass_53 : decode cX0_whoPass 53 = .ok (.invokevirtual 121, 3) := by decide +kernel
theorem dX0_whoPass_56 : decode cX0_whoPass 56 = .ok (.lload_n 3, 1) := by decide +kernel
theorem dX0_whoPass_57 : decode cX0_whoPass 57 = .ok (.land, 1) := by decide +kernel
theorem dX0_whoPass_58 : decode cX0_whoPass 58 = .ok (.lstore 10, 2) := by decide +kernel
theorem dX0_whoPass_60 : decode cX0_whoPass 60 = .ok (.iload 5, 2) := by decide +kernel
theorem dX0_whoPass_62 : decode cX0_whoPass 62 = .ok (.iload 9, 2) := by decide +kernel
theorem dX0_whoPass_64 : decode cX0_whoPass 64 = .ok (.ishr, 1) := by decide +kernel
theorem dX0_whoPass_65 : decode cX0_whoPass 65 = .ok (.iconst 1, 1) := by decide +kernel
theorem dX0_whoPass_66 : decode cX0_whoPass 66 = .ok (.iand, 1) := by decide +kernel
theorem dX0_whoPass_67 : decode cX0_whoPass 67 = .ok (.ifCond .eq 66, 3) := by decide +kernel
theorem dX0_whoPass_70 : decode cX0_whoPass 70 = .ok (.lload 10, 2) := by decide +kernel
theorem dX0_whoPass_72 : decode cX0_whoPass 72 = .ok (.lconst 0, 1) := by decide +kernel
theorem dX0_whoPass_73 : decode cX0_whoPass 73 = .ok (.lcmp, 1) := by decide +kernel
theorem dX0_whoPass_74 : decode cX0_whoPass 74 = .ok (.ifCond .eq 59, 3) := by decide +kernel
theorem dX0_whoPass_77 : decode cX0_whoPass 77 = .ok (.lload 10, 2) := by decide +kernel
theorem dX0_whoPass_79 : decode cX0_whoPass 79 = .ok (.aload_n 0, 1) := by decide +kernel
theorem dX0_whoPass_80 : decode cX0_whoPass 80 = .ok (.getfield 21, 3) := by decide +kernel
theorem dX0_whoPass_83 : decode cX0_whoPass 83 = .ok (.getfield 124, 3) := by decide +kernel
theorem dX0_whoPass_86 : decode cX0_whoPass 86 = .ok (.ldc2_w 128, 3) := by decide +kernel
theorem dX0_whoPass_89 : decode cX0_whoPass 89 = .ok (.lxor, 1) := by decide +kernel
theorem dX0_whoPass_90 : decode cX0_whoPass 90 = .ok (.land, 1) := by decide +kernel
theorem dX0_whoPass_91 : decode cX0_whoPass 91 = .ok (.lconst 0, 1) := by decide +kernel
theorem dX0_whoPass_92 : decode cX0_whoPass 92 = .ok (.lcmp, 1) := by decide +kernel
theorem dX0_whoPass_93 : decode cX0_whoPass 93 = .ok (.ifCond .ne 7, 3) := by decide +kernel
theorem dX0_whoPass_96 : decode cX0_whoPass 96 = .ok (.iconst 1, 1) := by decide +kernel
theorem dX0_whoPass_97 : decode cX0_whoPass 97 = .ok (.goto 4, 3) := by decide +kernel
theorem dX0_whoPass_100 : decode cX0_whoPass 100 = .ok (.iconst 0, 1) := by decide +kernel
theorem dX0_whoPass_101 : decode cX0_whoPass 101 = .ok (.istore 12, 2) := by decide +kernel
theorem dX0_whoPass_103 : decode cX0_whoPass 103 = .ok (.aload_n 0, 1) := by decide +kernel
theorem dX0_whoPass_104 : decode cX0_whoPass 104 = .ok (.iload 9, 2) := by decide +kernel
theorem dX0_whoPass_106 : decode cX0_whoPass 106 = .ok (.aload_n 0, 1) := by decide +kernel
theorem dX0_whoPass_107 : decode cX0_whoPass 107 = .ok (.iload 9, 2) := by decide +kernel
theorem dX0_whoPass_109 : decode cX0_whoPass 109 = .ok (.iload 6, 2) := by decide +kernel
theorem dX0_whoPass_111 : decode cX0_whoPass 111 = .ok (.iload 7, 2) := by decide +kernel
theorem dX0_whoPass_113 : decode cX0_whoPass 113 = .ok (.invokevirtual 130, 3) := by decide +kernel
theorem dX0_whoPass_116 : decode cX0_whoPass 116 = .ok (.iload 12, 2) := by decide +kernel
theorem dX0_whoPass_118 : decode cX0_whoPass 118 = .ok (.invokevirtual 134, 3) := by decide +kernel
theorem dX0_whoPass_121 : decode cX0_whoPass 121 = .ok (.ifCond .eq 12, 3) := by decide +kernel
theorem dX0_whoPass_124 : decode cX0_whoPass 124 = .ok (.iload 8, 2) := by decide +kernel
theorem dX0_whoPass_126 : decode cX0_whoPass 126 = .ok (.iconst 1, 1) := by decide +kernel
theorem dX0_whoPass_127 : decode cX0_whoPass 127 = .ok (.iload 9, 2) := by decide +kernel
theorem dX0_whoPass_129 : decode cX0_whoPass 129 = .ok (.ishl, 1) := by decide +kernel
theorem dX0_whoPass_130 : decode cX0_whoPass 130 = .ok (.ior, 1) := by decide +kernel
theorem dX0_whoPass_131 : decode cX0_whoPass 131 = .ok (.istore 8, 2) := by decide +kernel
theorem dX0_whoPass_133 : decode cX0_whoPass 133 = .ok (.iinc 9 1, 3) := by decide +kernel
theorem dX0_whoPass_136 : decode cX0_whoPass 136 = .ok (.goto (-105), 3) := by decide +kernel
theorem dX0_whoPass_139 : decode cX0_whoPass 139 = .ok (.iload 8, 2) := by decide +kernel
theorem dX0_whoPass_141 : decode cX0_whoPass 141 = .ok (.ireturn, 1) := by decide +kernel
theorem dX1_init_0 : decode cX1_init 0 = .ok (.aload_n 0, 1) := by decide +kernel
theorem dX1_init_1 : decode cX1_init 1 = .ok (.invokespecial 3, 3) := by decide +kernel
theorem dX1_init_4 : decode cX1_init 4 = .ok (.aload_n 0, 1) := by decide +kernel
theorem dX1_init_5 : decode cX1_init 5 = .ok (.new 9, 3) := by decide +kernel
theorem dX1_init_8 : decode cX1_init 8 = .ok (.dup, 1) := by decide +kernel
theorem dX1_init_9 : decode cX1_init 9 = .ok (.invokespecial 11, 3) := by decide +kernel
theorem dX1_init_12 : decode cX1_init 12 = .ok (.putfield 12, 3) := by decide +kernel
theorem dX1_init_15 : decode cX1_init 15 = .ok (.aload_n 0, 1) := by decide +kernel
theorem dX1_init_16 : decode cX1_init 16 = .ok (.getstatic 18, 3) := by decide +kernel
theorem dX1_init_19 : decode cX1_init 19 = .ok (.arraylength, 1) := by decide +kernel
theorem dX1_init_20 : decode cX1_init 20 = .ok (.newarray .int, 2) := by decide +kernel
theorem dX1_init_22 : decode cX1_init 22 = .ok (.putfield 22, 3) := by decide +kernel
theorem dX1_init_25 : decode cX1_init 25 = .ok (.aload_n 0, 1) := by decide +kernel
theorem dX1_init_26 : decode cX1_init 26 = .ok (.aload_n 1, 1) := by decide +kernel
theorem dX1_init_27 : decode cX1_init 27 = .ok (.putfield 25, 3) := by decide +kernel
theorem dX1_init_30 : decode cX1_init 30 = .ok (.return_, 1) := by decide +kernel
theorem dX1_place_0 : decode cX1_place 0 = .ok (.aload_n 0, 1) := by decide +kernel
theorem dX1_place_1 : decode cX1_place 1 = .ok (.getfield 12, 3) := by decide +kernel
theorem dX1_place_4 : decode cX1_place 4 = .ok (.getfield 29, 3) := by decide +kernel
theorem dX1_place_7 : decode cX1_place 7 = .ok (.ireturn, 1) := by decide +kernel
theorem dX1_read_0 : decode cX1_read 0 = .ok (.aload_n 0, 1) := by decide +kernel
theorem dX1_read_1 : decode cX1_read 1 = .ok (.aload_n 3, 1) := by decide +kernel
theorem dX1_read_2 : decode cX1_read 2 = .ok (.putfield 25, 3) := by decide +kernel
theorem dX1_read_5 : decode cX1_read 5 = .ok (.aload_n 0, 1) := by decide +kernel
theorem dX1_read_6 : decode cX1_read 6 = .ok (.getfield 25, 3) := by decide +kernel
theorem dX1_read_9 : decode cX1_read 9 = .ok (.invokevirtual 33, 3) := by decide +kernel
theorem dX1_read_12 : decode cX1_read 12 = .ok (.aload_n 0, 1) := by decide +kernel
theorem dX1_read_13 : decode cX1_read 13 = .ok (.iconst 0, 1) := by decide +kernel
theorem dX1_read_14 : decode cX1_read 14 = .ok (.putfield 38, 3) := by decide +kernel
theorem dX1_read_17 : decode cX1_read 17 = .ok (.aload_n 0, 1) := by decide +kernel
theorem dX1_read_18 : decode cX1_read 18 = .ok (.iconst 0, 1) := by decide +kernel
theorem dX1_read_19 : decode cX1_read 19 = .ok (.putfield 42, 3) := by decide +kernel
theorem dX1_read_22 : decode cX1_read 22 = .ok (.aload_n 0, 1) := by decide +kernel
theorem dX1_read_23 : decode cX1_read 23 = .ok (.getfield 12, 3) := by decide +kernel
theorem dX1_read_26 : decode cX1_read 26 = .ok (.aload_n 1, 1) := by decide +kernel
theorem dX1_read_27 : decode cX1_read 27 = .ok (.iload_n 2, 1) := by decide +kernel
theorem dX1_read_28 : decode cX1_read 28 = .ok (.invokevirtual 45, 3) := by decide +kernel
theorem dX1_read_31 : decode cX1_read 31 = .ok (.iconst 0, 1) := by decide +kernel
theorem dX1_read_32 : decode cX1_read 32 = .ok (.istore 4, 2) := by decide +kernel
theorem dX1_read_34 : decode cX1_read 34 = .ok (.iconst 0, 1) := by decide +kernel
theorem dX1_read_35 : decode cX1_read 35 = .ok (.istore 5, 2) := by decide +kernel
theorem dX1_read_37 : decode cX1_read 37 = .ok (.iload 5, 2) := by decide +kernel
theorem dX1_read_39 : decode cX1_read 39 = .ok (.sipush 500, 3) := by decide +kernel
theorem dX1_read_42 : decode cX1_read 42 = .ok (.if_icmp .gt 41, 3) := by decide +kernel
theorem dX1_read_45 : decode cX1_read 45 = .ok (.iload 4, 2) := by decide +kernel
theorem dX1_read_47 : decode cX1_read 47 = .ok (.ifCond .ne 36, 3) := by decide +kernel
theorem dX1_read_50 : decode cX1_read 50 = .ok (.aload_n 0, 1) := by decide +kernel
theorem dX1_read_51 : decode cX1_read 51 = .ok (.getfield 12, 3) := by decide +kernel
theorem dX1_read_54 : decode cX1_read 54 = .ok (.getfield 49, 3) := by decide +kernel
theorem dX1_read_57 : decode cX1_read 57 = .ok (.ifCond .eq 26, 3) := by decide +kernel
theorem dX1_read_60 : decode cX1_read 60 = .ok (.aload_n 0, 1) := by decide +kernel
theorem dX1_read_61 : decode cX1_read 61 = .ok (.invokevirtual 52, 3) := by decide +kernel
theorem dX1_read_64 : decode cX1_read 64 = .ok (.istore 4, 2) := by decide +kernel
theorem dX1_read_66 : decode cX1_read 66 = .ok (.iload 4, 2) := by decide +kernel
theorem dX1_read_68 : decode cX1_read 68 = .ok (.ifCond .ne 9, 3) := by decide +kernel
theorem dX1_read_71 : decode cX1_read 71 = .ok (.aload_n 0, 1) := by decide +kernel
theorem dX1_read_72 : decode cX1_read 72 = .ok (.invokevirtual 56, 3) := by decide +kernel
theorem dX1_read_75 : decode cX1_read 75 = .ok (.istore 4, 2) := by decide +kernel
theorem dX1_read_77 : decode cX1_read 77 = .ok (.iinc 5 1, 3) := by decide +kernel
theorem dX1_read_80 : decode cX1_read 80 = .ok (.goto (-43), 3) := by decide +kernel
theorem dX1_read_83 : decode cX1_read 83 = .ok (.iload 4, 2) := by decide +kernel
theorem dX1_read_85 : decode cX1_read 85 = .ok (.ireturn, 1) := by decide +kernel
theorem dX1_readSign_0 : decode cX1_readSign 0 = .ok (.aload_n 0, 1) := by decide +kernel
theorem dX1_readSign_1 : decode cX1_readSign 1 = .ok (.getfield 12, 3) := by decide +kernel
theorem dX1_readSign_4 : decode cX1_readSign 4 = .ok (.getfield 49, 3) := by decide +kernel
theorem dX1_readSign_7 : decode cX1_readSign 7 = .ok (.iconst 4, 1) := by decide +kernel
theorem dX1_readSign_8 : decode cX1_readSign 8 = .ok (.if_icmp .eq 5, 3) := by decide +kernel
theorem dX1_readSign_11 : decode cX1_readSign 11 = .ok (.iconst 1, 1) := by decide +kernel
theorem dX1_readSign_12 : decode cX1_readSign 12 = .ok (.ireturn, 1) := by decide +kernel
theorem dX1_readSign_13 : decode cX1_readSign 13 = .ok (.aload_n 0, 1) := by decide +kernel
theorem dX1_readSign_14 : decode cX1_readSign 14 = .ok (.getfield 12, 3) := by decide +kernel
theorem dX1_readSign_17 : decode cX1_readSign 17 = .ok (.invokevirtual 59, 3) := by decide +kernel
theorem dX1_readSign_20 : decode cX1_readSign 20 = .ok (.iconst 0, 1) := by decide +kernel
theorem dX1_readSign_21 : decode cX1_readSign 21 = .ok (.ireturn, 1) := by decide +kernel
theorem dX1_readBody_0 : decode cX1_readBody 0 = .ok (.aload_n 0, 1) := by decide +kernel
theorem dX1_readBody_1 : decode cX1_readBody 1 = .ok (.getfield 12, 3) := by decide +kernel
theorem dX1_readBody_4 : decode cX1_readBody 4 = .ok (.ldc 62, 2) := by decide +kernel
theorem dX1_readBody_6 : decode cX1_readBody 6 = .ok (.invokevirtual 64, 3) := by decide +kernel
theorem dX1_readBody_9 : decode cX1_readBody 9 = .ok (.ifCond .eq 8, 3) := by decide +kernel
theorem dX1_readBody_12 : decode cX1_readBody 12 = .ok (.aload_n 0, 1) := by decide +kernel
theorem dX1_readBody_13 : decode cX1_readBody 13 = .ok (.invokevirtual 68, 3) := by decide +kernel
theorem dX1_readBody_16 : decode cX1_readBody 16 = .ok (.ireturn, 1) := by decide +kernel
theorem dX1_readBody_17 : decode cX1_readBody 17 = .ok (.aload_n 0, 1) := by decide +kernel
theorem dX1_readBody_18 : decode cX1_readBody 18 = .ok (.getfield 12, 3) := by decide +kernel
theorem dX1_readBody_21 : decode cX1_readBody 21 = .ok (.ldc 71, 2) := by decide +kernel
theorem dX1_readBody_23 : decode cX1_readBody 23 = .ok (.invokevirtual 64, 3) := by decide +kernel
theorem dX1_readBody_26 : decode cX1_readBody 26 = .ok (.ifCond .eq 8, 3) := by decide +kernel
theorem dX1_readBody_29 : decode cX1_readBody 29 = .ok (.aload_n 0, 1) := by decide +kernel
theorem dX1_readBody_30 : decode cX1_readBody 30 = .ok (.invokevirtual 73, 3) := by decide +kernel
theorem dX1_readBody_33 : decode cX1_readBody 33 = .ok (.ireturn, 1) := by decide +kernel
theorem dX1_readBody_34 : decode cX1_readBody 34 = .ok (.aload_n 0, 1) := by decide +kernel
theorem dX1_readBody_35 : decode cX1_readBody 35 = .ok (.getfield 12, 3) := by decide +kernel
theorem dX1_readBody_38 : decode cX1_readBody 38 = .ok (.ldc 76, 2) := by decide +kernel
theorem dX1_readBody_40 : decode cX1_readBody 40 = .ok (.invokevirtual 64, 3) := by decide +kernel
theorem dX1_readBody_43 : decode cX1_readBody 43 = .ok (.ifCond .eq 8, 3) := by decide +kernel
theorem dX1_readBody_46 : decode cX1_readBody 46 = .ok (.aload_n 0, 1) := by decide +kernel
theorem dX1_readBody_47 : decode cX1_readBody 47 = .ok (.invokevirtual 78, 3) := by decide +kernel
theorem dX1_readBody_50 : decode cX1_readBody 50 = .ok (.ireturn, 1) := by decide +kernel
theorem dX1_readBody_51 : decode cX1_readBody 51 = .ok (.aload_n 0, 1) := by decide +kernel
theorem dX1_readBody_52 : decode cX1_readBody 52 = .ok (.getfield 12, 3) := by decide +kernel
theorem dX1_readBody_55 : decode cX1_readBody 55 = .ok (.ldc 81, 2) := by decide +kernel
theorem dX1_readBody_57 : decode cX1_readBody 57 = .ok (.invokevirtual 64, 3) := by decide +kernel
theorem dX1_readBody_60 : decode cX1_readBody 60 = .ok (.ifCond .eq 8, 3) := by decide +kernel
theorem dX1_readBody_63 : decode cX1_readBody 63 = .ok (.aload_n 0, 1) := by decide +kernel
theorem dX1_readBody_64 : decode cX1_readBody 64 = .ok (.invokevirtual 83, 3) := by decide +kernel
theorem dX1_readBody_67 : decode cX1_readBody 67 = .ok (.ireturn, 1) := by decide +kernel
theorem dX1_readBody_68 : decode cX1_readBody 68 = .ok (.aload_n 0, 1) := by decide +kernel
theorem dX1_readBody_69 : decode cX1_readBody 69 = .ok (.getfield 12, 3) := by decide +kernel
theorem dX1_readBody_72 : decode cX1_readBody 72 = .ok (.ldc 86, 2) := by decide +kernel
theorem dX1_readBody_74 : decode cX1_readBody 74 = .ok (.invokevirtual 64, 3) := by decide +kernel
theorem dX1_readBody_77 : decode cX1_readBody 77 = .ok (.ifCond .eq 8, 3) := by decide +kernel
theorem dX1_readBody_80 : decode cX1_readBody 80 = .ok (.aload_n 0, 1) := by decide +kernel
theorem dX1_readBody_81 : decode cX1_readBody 81 = .ok (.invokevirtual 88, 3) := by decide +kernel
theorem dX1_readBody_84 : decode cX1_readBody 84 = .ok (.ireturn, 1) := by decide +kernel
theorem dX1_readBody_85 : decode cX1_readBody 85 = .ok (.aload_n 0, 1) := by decide +kernel
theorem dX1_readBody_86 : decode cX1_readBody 86 = .ok (.invokevirtual 91, 3) := by decide +kernel
theorem dX1_readBody_89 : decode cX1_readBody 89 = .ok (.istore_n 1, 1) := by decide +kernel
theorem dX1_readBody_90 : decode cX1_readBody 90 = .ok (.iload_n 1, 1) := by decide +kernel
theorem dX1_readBody_91 : decode cX1_readBody 91 = .ok (.ifCond .ge 7, 3) := by decide +kernel
theorem dX1_readBody_94 : decode cX1_readBody 94 = .ok (.iconst 1, 1) := by decide +kernel
theorem dX1_readBody_95 : decode cX1_readBody 95 = .ok (.goto 8, 3) := by decide +kernel
theorem dX1_readBody_98 : decode cX1_readBody 98 = .ok (.aload_n 0, 1) := by decide +kernel
theorem dX1_readBody_99 : decode cX1_readBody 99 = .ok (.iload_n 1, 1) := by decide +kernel
theorem dX1_readBody_100 : decode cX1_readBody 100 = .ok (.invokevirtual 94, 3) := by decide +kernel
theorem dX1_readBody_103 : decode cX1_readBody 103 = .ok (.ireturn, 1) := by decide +kernel
theorem dX1_kindOfWord_0 : decode cX1_kindOfWord 0 = .ok (.aload_n 0, 1) := by decide +kernel
theorem dX1_kindOfWord_1 : decode cX1_kindOfWord 1 = .ok (.getfield 12, 3) := by decide +kernel
theorem dX1_kindOfWord_4 : decode cX1_kindOfWord 4 = .ok (.ldc 98, 2) := by decide +kernel
theorem dX1_kindOfWord_6 : decode cX1_kindOfWord 6 = .ok (.invokevirtual 64, 3) := by decide +kernel
theorem dX1_kindOfWord_9 : decode cX1_kindOfWord 9 = .ok (.ifCond .eq 5, 3) := by decide +kernel
theorem dX1_kindOfWord_12 : decode cX1_kindOfWord 12 = .ok (.iconst 0, 1) := by decide +kernel
theorem dX1_kindOfWord_13 : decode cX1_kindOfWord 13 = .ok (.ireturn, 1) := by decide +kernel
theorem dX1_kindOfWord_14 : decode cX1_kindOfWord 14 = .ok (.aload_n 0, 1) := by decide +kernel
theorem dX1_kindOfWord_15 : decode cX1_kindOfWord 15 = .ok (.getfield 12, 3) := by decide +kernel
theorem dX1_kindOfWord_18 : decode cX1_kindOfWord 18 = .ok (.ldc 100, 2) := by decide +kernel
theorem dX1_kindOfWord_20 : decode cX1_kindOfWord 20 = .ok (.invokevirtual 64, 3) := by decide +kernel
theorem dX1_kindOfWord_23 : decode cX1_kindOfWord 23 = .ok (.ifCond .eq 5, 3) := by decide +kernel
theorem dX1_kindOfWord_26 : decode cX1_kindOfWord 26 = .ok (.iconst 1, 1) := by decide +kernel
theorem dX1_kindOfWord_27 : decode cX1_kindOfWord 27 = .ok (.ireturn, 1) := by decide +kernel
theorem dX1_kindOfWord_28 : decode cX1_kindOfWord 28 = .ok (.aload_n 0, 1) := by decide +kernel
theorem dX1_kindOfWord_29 : decode cX1_kindOfWord 29 = .ok (.getfield 12, 3) := by decide +kernel
theorem dX1_kindOfWord_32 : decode cX1_kindOfWord 32 = .ok (.ldc 104, 2) := by decide +kernel
theorem dX1_kindOfWord_34 : decode cX1_kindOfWord 34 = .ok (.invokevirtual 64, 3) := by decide +kernel
theorem dX1_kindOfWord_37 : decode cX1_kindOfWord 37 = .ok (.ifCond .eq 5, 3) := by decide +kernel
theorem dX1_kindOfWord_40 : decode cX1_kindOfWord 40 = .ok (.iconst 2, 1) := by decide +kernel
theorem dX1_kindOfWord_41 : decode cX1_kindOfWord 41 = .ok (.ireturn, 1) := by decide +kernel
theorem dX1_kindOfWord_42 : decode cX1_kindOfWord 42 = .ok (.aload_n 0, 1) := by decide +kernel
theorem dX1_kindOfWord_43 : decode cX1_kindOfWord 43 = .ok (.getfield 12, 3) := by decide +kernel
theorem dX1_kindOfWord_46 : decode cX1_kindOfWord 46 = .ok (.ldc 106, 2) := by decide +kernel
theorem dX1_kindOfWord_48 : decode cX1_kindOfWord 48 = .ok (.invokevirtual 64, 3) := by decide +kernel
theorem dX1_kindOfWord_51 : decode cX1_kindOfWord 51 = .ok (.ifCond .eq 7, 3) := by decide +kernel
theorem dX1_kindOfWord_54 : decode cX1_kindOfWord 54 = .ok (.iconst 3, 1) := by decide +kernel
theorem dX1_kindOfWord_55 : decode cX1_kindOfWord 55 = .ok (.goto 4, 3) := by decide +kernel
theorem dX1_kindOfWord_58 : decode cX1_kindOfWord 58 = .ok (.iconst (-1), 1) := by decide +kernel
theorem dX1_kindOfWord_59 : decode cX1_kindOfWord 59 = .ok (.ireturn, 1) := by decide +kernel
theorem dX1_checkNumber_0 : decode cX1_checkNumber 0 = .ok (.aload_n 0, 1) := by decide +kernel
theorem dX1_checkNumber_1 : decode cX1_checkNumber 1 = .ok (.getfield 12, 3) := by decide +kernel
theorem dX1_checkNumber_4 : decode cX1_checkNumber 4 = .ok (.getfield 49, 3) := by decide +kernel
theorem dX1_checkNumber_7 : decode cX1_checkNumber 7 = .ok (.iconst 3, 1) := by decide +kernel
theorem dX1_checkNumber_8 : decode cX1_checkNumber 8 = .ok (.if_icmp .ne 5, 3) := by decide +kernel
theorem dX1_checkNumber_11 : decode cX1_checkNumber 11 = .ok (.iconst 2, 1) := by decide +kernel
theorem dX1_checkNumber_12 : decode cX1_checkNumber 12 = .ok (.ireturn, 1) := by decide +kernel
theorem dX1_checkNumber_13 : decode cX1_checkNumber 13 = .ok (.aload_n 0, 1) := by decide +kernel
theorem dX1_checkNumber_14 : decode cX1_checkNumber 14 = .ok (.getfield 12, 3) := by decide +kernel
theorem dX1_checkNumber_17 : decode cX1_checkNumber 17 = .ok (.getfield 49, 3) := by decide +kernel
theorem dX1_checkNumber_20 : decode cX1_checkNumber 20 = .ok (.iconst 2, 1) := by decide +kernel
theorem dX1_checkNumber_21 : decode cX1_checkNumber 21 = .ok (.if_icmp .eq 5, 3) := by decide +kernel
theorem dX1_checkNumber_24 : decode cX1_checkNumber 24 = .ok (.iconst 1, 1) := by decide +kernel
theorem dX1_checkNumber_25 : decode cX1_checkNumber 25 = .ok (.ireturn, 1) := by decide +kernel
theorem dX1_checkNumber_26 : decode cX1_checkNumber 26 = .ok (.aload_n 0, 1) := by decide +kernel
theorem dX1_checkNumber_27 : decode cX1_checkNumber 27 = .ok (.getfield 12, 3) := by decide +kernel
theorem dX1_checkNumber_30 : decode cX1_checkNumber 30 = .ok (.getfield 108, 3) := by decide +kernel
theorem dX1_checkNumber_33 : decode cX1_checkNumber 33 = .ok (.iload_n 1, 1) := by decide +kernel
theorem dX1_checkNumber_34 : decode cX1_checkNumber 34 = .ok (.if_icmp .lt 14, 3) := by decide +kernel
theorem dX1_checkNumber_37 : decode cX1_checkNumber 37 = .ok (.aload_n 0, 1) := by decide +kernel
theorem dX1_checkNumber_38 : decode cX1_checkNumber 38 = .ok (.getfield 12, 3) := by decide +kernel
theorem dX1_checkNumber_41 : decode cX1_checkNumber 41 = .ok (.getfield 108, 3) := by decide +kernel
theorem dX1_checkNumber_44 : decode cX1_checkNumber 44 = .ok (.iload_n 2, 1) := by decide +kernel
theorem dX1_checkNumber_45 : decode cX1_checkNumber 45 = .ok (.if_icmp .le 7, 3) := by decide +kernel
theorem dX1_checkNumber_48 : decode cX1_checkNumber 48 = .ok (.iconst 2, 1) := by decide +kernel
theorem dX1_checkNumber_49 : decode cX1_checkNumber 49 = .ok (.goto 4, 3) := by decide +kernel
theorem dX1_checkNumber_52 : decode cX1_checkNumber 52 = .ok (.iconst 0, 1) := by decide +kernel
theorem dX1_checkNumber_53 : decode cX1_checkNumber 53 = .ok (.ireturn, 1) := by decide +kernel
theorem dX1_readBook_0 : decode cX1_readBook 0 = .ok (.aload_n 0, 1) := by decide +kernel
theorem dX1_readBook_1 : decode cX1_readBook 1 = .ok (.getfield 25, 3) := by decide +kernel
theorem dX1_readBook_4 : decode cX1_readBook 4 = .ok (.getfield 111, 3) := by decide +kernel
theorem dX1_readBook_7 : decode cX1_readBook 7 = .ok (.bipush 10, 2) := by decide +kernel
theorem dX1_readBook_9 : decode cX1_readBook 9 = .ok (.if_icmp .lt 5, 3) := by decide +kernel
theorem dX1_readBook_12 : decode cX1_readBook 12 = .ok (.iconst 2, 1) := by decide +kernel
theorem dX1_readBook_13 : decode cX1_readBook 13 = .ok (.ireturn, 1) := by decide +kernel
theorem dX1_readBook_14 : decode cX1_readBook 14 = .ok (.aload_n 0, 1) := by decide +kernel
theorem dX1_readBook_15 : decode cX1_readBook 15 = .ok (.getfield 12, 3) := by decide +kernel
theorem dX1_readBook_18 : decode cX1_readBook 18 = .ok (.invokevirtual 59, 3) := by decide +kernel
theorem dX1_readBook_21 : decode cX1_readBook 21 = .ok (.aload_n 0, 1) := by decide +kernel
theorem dX1_readBook_22 : decode cX1_readBook 22 = .ok (.iconst 1, 1) := by decide +kernel
theorem dX1_readBook_23 : decode cX1_readBook 23 = .ok (.bipush 20, 2) := by decide +kernel
theorem dX1_readBook_25 : decode cX1_readBook 25 = .ok (.invokevirtual 114, 3) := by decide +kernel
theorem dX1_readBook_28 : decode cX1_readBook 28 = .ok (.istore_n 1, 1) := by decide +kernel
theorem dX1_readBook_29 : decode cX1_readBook 29 = .ok (.iload_n 1, 1) := by decide +kernel
theorem dX1_readBook_30 : decode cX1_readBook 30 = .ok (.ifCond .ne 24, 3) := by decide +kernel
theorem dX1_readBook_33 : decode cX1_readBook 33 = .ok (.aload_n 0, 1) := by decide +kernel
theorem dX1_readBook_34 : decode cX1_readBook 34 = .ok (.getfield 25, 3) := by decide +kernel
theorem dX1_readBook_37 : decode cX1_readBook 37 = .ok (.aload_n 0, 1) := by decide +kernel
theorem dX1_readBook_38 : decode cX1_readBook 38 = .ok (.getfield 12, 3) := by decide +kernel
theorem dX1_readBook_41 : decode cX1_readBook 41 = .ok (.getfield 108, 3) := by decide +kernel
theorem dX1_readBook_44 : decode cX1_readBook 44 = .ok (.invokevirtual 118, 3) := by decide +kernel
theorem dX1_readBook_47 : decode cX1_readBook 47 = .ok (.aload_n 0, 1) := by decide +kernel
theorem dX1_readBook_48 : decode cX1_readBook 48 = .ok (.getfield 12, 3) := by decide +kernel
theorem dX1_readBook_51 : decode cX1_readBook 51 = .ok (.invokevirtual 59, 3) := by decide +kernel
theorem dX1_readBook_54 : decode cX1_readBook 54 = .ok (.iload_n 1, 1) := by decide +kernel
theorem dX1_readBook_55 : decode cX1_readBook 55 = .ok (.ireturn, 1) := by decide +kernel
theorem dX1_readCase_0 : decode cX1_readCase 0 = .ok (.aload_n 0, 1) := by decide +kernel
theorem dX1_readCase_1 : decode cX1_readCase 1 = .ok (.getfield 25, 3) := by decide +kernel
theorem dX1_readCase_4 : decode cX1_readCase 4 = .ok (.getfield 122, 3) := by decide +kernel
theorem dX1_readCase_7 : decode cX1_readCase 7 = .ok (.bipush 7, 2) := by decide +kernel
theorem dX1_readCase_9 : decode cX1_readCase 9 = .ok (.if_icmp .lt 5, 3) := by decide +kernel
theorem dX1_readCase_12 : decode cX1_readCase 12 = .ok (.iconst 2, 1) := by decide +kernel
theorem dX1_readCase_13 : decode cX1_readCase 13 = .ok (.ireturn, 1) := by decide +kernel
theorem dX1_readCase_14 : decode cX1_readCase 14 = .ok (.aload_n 0, 1) := by decide +kernel
theorem dX1_readCase_15 : decode cX1_readCase 15 = .ok (.getfield 12, 3) := by decide +kernel
theorem dX1_readCase_18 : decode cX1_readCase 18 = .ok (.invokevirtual 59, 3) := by decide +kernel
theorem dX1_readCase_21 : decode cX1_readCase 21 = .ok (.aload_n 0, 1) := by decide +kernel
theorem dX1_readCase_22 : decode cX1_readCase 22 = .ok (.iconst 0, 1) := by decide +kernel
theorem dX1_readCase_23 : decode cX1_readCase 23 = .ok (.iconst 1, 1) := by decide +kernel
theorem dX1_readCase_24 : decode cX1_readCase 24 = .ok (.invokevirtual 114, 3) := by decide +kernel
theorem dX1_readCase_27 : decode cX1_readCase 27 = .ok (.istore_n 1, 1) := by decide +kernel
theorem dX1_readCase_28 : decode cX1_readCase 28 = .ok (.iload_n 1, 1) := by decide +kernel
theorem dX1_readCase_29 : decode cX1_readCase 29 = .ok (.ifCond .eq 5, 3) := by decide +kernel
theorem dX1_readCase_32 : decode cX1_readCase 32 = .ok (.iload_n 1, 1) := by decide +kernel
theorem dX1_readCase_33 : decode cX1_readCase 33 = .ok (.ireturn, 1) := by decide +kernel
theorem dX1_readCase_34 : decode cX1_readCase 34 = .ok (.aload_n 0, 1) := by decide +kernel
theorem dX1_readCase_35 : decode cX1_readCase 35 = .ok (.getfield 12, 3) := by decide +kernel
theorem dX1_readCase_38 : decode cX1_readCase 38 = .ok (.getfield 108, 3) := by decide +kernel
theorem dX1_readCase_41 : decode cX1_readCase 41 = .ok (.istore_n 2, 1) := by decide +kernel
theorem dX1_readCase_42 : decode cX1_readCase 42 = .ok (.aload_n 0, 1) := by decide +kernel
theorem dX1_readCase_43 : decode cX1_readCase 43 = .ok (.getfield 12, 3) := by decide +kernel
theorem dX1_readCase_46 : decode cX1_readCase 46 = .ok (.invokevirtual 59, 3) := by decide +kernel
theorem dX1_readCase_49 : decode cX1_readCase 49 = .ok (.aload_n 0, 1) := by decide +kernel
theorem dX1_readCase_50 : decode cX1_readCase 50 = .ok (.iconst 1, 1) := by decide +kernel
theorem dX1_readCase_51 : decode cX1_readCase 51 = .ok (.bipush 9, 2) := by decide +kernel
theorem dX1_readCase_53 : decode cX1_readCase 53 = .ok (.invokevirtual 114, 3) := by decide +kernel
theorem dX1_readCase_56 : decode cX1_readCase 56 = .ok (.istore_n 1, 1) := by decide +kernel
theorem dX1_readCase_57 : decode cX1_readCase 57 = .ok (.iload_n 1, 1) := by decide +kernel
theorem dX1_readCase_58 : decode cX1_readCase 58 = .ok (.ifCond .eq 5, 3) := by decide +kernel
theorem dX1_readCase_61 : decode cX1_readCase 61 = .ok (.iload_n 1, 1) := by decide +kernel
theorem dX1_readCase_62 : decode cX1_readCase 62 = .ok (.ireturn, 1) := by decide +kernel
theorem dX1_readCase_63 : decode cX1_readCase 63 = .ok (.aload_n 0, 1) := by decide +kernel
theorem dX1_readCase_64 : decode cX1_readCase 64 = .ok (.getfield 12, 3) := by decide +kernel
theorem dX1_readCase_67 : decode cX1_readCase 67 = .ok (.getfield 108, 3) := by decide +kernel
theorem dX1_readCase_70 : decode cX1_readCase 70 = .ok (.istore_n 3, 1) := by decide +kernel
theorem dX1_readCase_71 : decode cX1_readCase 71 = .ok (.aload_n 0, 1) := by decide +kernel
theorem dX1_readCase_72 : decode cX1_readCase 72 = .ok (.getfield 12, 3) := by decide +kernel
theorem dX1_readCase_75 : decode cX1_readCase 75 = .ok (.invokevirtual 59, 3) := by decide +kernel
theorem dX1_readCase_78 : decode cX1_readCase 78 = .ok (.iconst 0, 1) := by decide +kernel
theorem dX1_readCase_79 : decode cX1_readCase 79 = .ok (.istore 4, 2) := by decide +kernel
theorem dX1_readCase_81 : decode cX1_readCase 81 = .ok (.iconst 0, 1) := by decide +kernel
theorem dX1_readCase_82 : decode cX1_readCase 82 = .ok (.istore 5, 2) := by decide +kernel
theorem dX1_readCase_84 : decode cX1_readCase 84 = .ok (.iload 5, 2) := by decide +kernel
theorem dX1_readCase_86 : decode cX1_readCase 86 = .ok (.bipush 10, 2) := by decide +kernel
theorem dX1_readCase_88 : decode cX1_readCase 88 = .ok (.if_icmp .gt 59, 3) := by decide +kernel
theorem dX1_readCase_91 : decode cX1_readCase 91 = .ok (.iload 5, 2) := by decide +kernel
theorem dX1_readCase_93 : decode cX1_readCase 93 = .ok (.ifCond .eq 14, 3) := by decide +kernel
theorem dX1_readCase_96 : decode cX1_readCase 96 = .ok (.aload_n 0, 1) := by decide +kernel
theorem dX1_readCase_97 : decode cX1_readCase 97 = .ok (.getfield 12, 3) := by decide +kernel
theorem dX1_readCase_100 : decode cX1_readCase 100 = .ok (.getfield 49, 3) := by decide +kernel
theorem dX1_readCase_103 : decode cX1_readCase 103 = .ok (.iconst 4, 1) := by decide +kernel
theorem dX1_readCase_104 : decode cX1_readCase 104 = .ok (.if_icmp .eq 43, 3) := by decide +kernel
theorem dX1_readCase_107 : decode cX1_readCase 107 = .ok (.aload_n 0, 1) := by decide +kernel
theorem dX1_readCase_108 : decode cX1_readCase 108 = .ok (.iload 4, 2) := by decide +kernel
theorem dX1_readCase_110 : decode cX1_readCase 110 = .ok (.invokevirtual 125, 3) := by decide +kernel
theorem dX1_readCase_113 : decode cX1_readCase 113 = .ok (.istore_n 1, 1) := by decide +kernel
theorem dX1_readCase_114 : decode cX1_readCase 114 = .ok (.iload_n 1, 1) := by decide +kernel
theorem dX1_readCase_115 : decode cX1_readCase 115 = .ok (.ifCond .eq 5, 3) := by decide +kernel
theorem dX1_readCase_118 : decode cX1_readCase 118 = .ok (.iload_n 1, 1) := by decide +kernel
theorem dX1_readCase_119 : decode cX1_readCase 119 = .ok (.ireturn, 1) := by decide +kernel
theorem dX1_readCase_120 : decode cX1_readCase 120 = .ok (.iload 4, 2) := by decide +kernel
theorem dX1_readCase_122 : decode cX1_readCase 122 = .ok (.iconst 1, 1) := by decide +kernel
theorem dX1_readCase_123 : decode cX1_readCase 123 = .ok (.aload_n 0, 1) := by decide +kernel
theorem dX1_readCase_124 : decode cX1_readCase 124 = .ok (.getfield 12, 3) := by decide +kernel
theorem dX1_readCase_127 : decode cX1_readCase 127 = .ok (.getfield 108, 3) := by decide +kernel
theorem dX1_readCase_130 : decode cX1_readCase 130 = .ok (.ishl, 1) := by decide +kernel
theorem dX1_readCase_131 : decode cX1_readCase 131 = .ok (.ior, 1) := by decide +kernel
theorem dX1_readCase_132 : decode cX1_readCase 132 = .ok (.istore 4, 2) := by decide +kernel
theorem dX1_readCase_134 : decode cX1_readCase 134 = .ok (.aload_n 0, 1) := by decide +kernel
theorem dX1_readCase_135 : decode cX1_readCase 135 = .ok (.getfield 12, 3) := by decide +kernel
theorem dX1_readCase_138 : decode cX1_readCase 138 = .ok (.invokevirtual 59, 3) := by decide +kernel
theorem dX1_readCase_141 : decode cX1_readCase 141 = .ok (.iinc 5 1, 3) := by decide +kernel
theorem dX1_readCase_144 : decode cX1_readCase 144 = .ok (.goto (-60), 3) := by decide +kernel
theorem dX1_readCase_147 : decode cX1_readCase 147 = .ok (.aload_n 0, 1) := by decide +kernel
theorem dX1_readCase_148 : decode cX1_readCase 148 = .ok (.getfield 25, 3) := by decide +kernel
theorem dX1_readCase_151 : decode cX1_readCase 151 = .ok (.iload_n 2, 1) := by decide +kernel
theorem dX1_readCase_152 : decode cX1_readCase 152 = .ok (.iload_n 3, 1) := by decide +kernel
theorem dX1_readCase_153 : decode cX1_readCase 153 = .ok (.iload 4, 2) := by decide +kernel
theorem dX1_readCase_155 : decode cX1_readCase 155 = .ok (.invokevirtual 128, 3) := by decide +kernel
theorem dX1_readCase_158 : decode cX1_readCase 158 = .ok (.iconst 0, 1) := by decide +kernel
theorem dX1_readCase_159 : decode cX1_readCase 159 = .ok (.ireturn, 1) := by decide +kernel
theorem dX1_checkQuote_0 : decode cX1_checkQuote 0 = .ok (.aload_n 0, 1) := by decide +kernel
theorem dX1_checkQuote_1 : decode cX1_checkQuote 1 = .ok (.iconst 0, 1) := by decide +kernel
theorem dX1_checkQuote_2 : decode cX1_checkQuote 2 = .ok (.sipush 999, 3) := by decide +kernel
theorem dX1_checkQuote_5 : decode cX1_checkQuote 5 = .ok (.invokevirtual 114, 3) := by decide +kernel
theorem dX1_checkQuote_8 : decode cX1_checkQuote 8 = .ok (.istore_n 2, 1) := by decide +kernel
theorem dX1_checkQuote_9 : decode cX1_checkQuote 9 = .ok (.iload_n 2, 1) := by decide +kernel
theorem dX1_checkQuote_10 : decode cX1_checkQuote 10 = .ok (.ifCond .eq 5, 3) := by decide +kernel
theorem dX1_checkQuote_13 : decode cX1_checkQuote 13 = .ok (.iload_n 2, 1) := by decide +kernel
theorem dX1_checkQuote_14 : decode cX1_checkQuote 14 = .ok (.ireturn, 1) := by decide +kernel
theorem dX1_checkQuote_15 : decode cX1_checkQuote 15 = .ok (.aload_n 0, 1) := by decide +kernel
theorem dX1_checkQuote_16 : decode cX1_checkQuote 16 = .ok (.getfield 12, 3) := by decide +kernel
theorem dX1_checkQuote_19 : decode cX1_checkQuote 19 = .ok (.getfield 108, 3) := by decide +kernel
theorem dX1_checkQuote_22 : decode cX1_checkQuote 22 = .ok (.aload_n 0, 1) := by decide +kernel
theorem dX1_checkQuote_23 : decode cX1_checkQuote 23 = .ok (.getfield 25, 3) := by decide +kernel
theorem dX1_checkQuote_26 : decode cX1_checkQuote 26 = .ok (.getfield 111, 3) := by decide +kernel
theorem dX1_checkQuote_29 : decode cX1_checkQuote 29 = .ok (.if_icmp .lt 5, 3) := by decide +kernel
theorem dX1_checkQuote_32 : decode cX1_checkQuote 32 = .ok (.iconst 3, 1) := by decide +kernel
theorem dX1_checkQuote_33 : decode cX1_checkQuote 33 = .ok (.ireturn, 1) := by decide +kernel
theorem dX1_checkQuote_34 : decode cX1_checkQuote 34 = .ok (.iload_n 1, 1) := by decide +kernel
theorem dX1_checkQuote_35 : decode cX1_checkQuote 35 = .ok (.aload_n 0, 1) := by decide +kernel
theorem dX1_checkQuote_36 : decode cX1_checkQuote 36 = .ok (.getfield 12, 3) := by decide +kernel
theorem dX1_checkQuote_39 : decode cX1_checkQuote 39 = .ok (.getfield 108, 3) := by decide +kernel
theorem dX1_checkQuote_42 : decode cX1_checkQuote 42 = .ok (.ishr, 1) := by decide +kernel
theorem dX1_checkQuote_43 : decode cX1_checkQuote 43 = .ok (.iconst 1, 1) := by decide +kernel
theorem dX1_checkQuote_44 : decode cX1_checkQuote 44 = .ok (.iand, 1) := by decide +kernel
theorem dX1_checkQuote_45 : decode cX1_checkQuote 45 = .ok (.ifCond .eq 7, 3) := by decide +kernel
theorem dX1_checkQuote_48 : decode cX1_checkQuote 48 = .ok (.iconst 4, 1) := by decide +kernel
theorem dX1_checkQuote_49 : decode cX1_checkQuote 49 = .ok (.goto 4, 3) := by decide +kernel
theorem dX1_checkQuote_52 : decode cX1_checkQuote 52 = .ok (.iconst 0, 1) := by decide +kernel
theorem dX1_checkQuote_53 : decode cX1_checkQuote 53 = .ok (.ireturn, 1) := by decide +kernel
theorem dX1_readWalker_0 : decode cX1_readWalker 0 = .ok (.aload_n 0, 1) := by decide +kernel
theorem dX1_readWalker_1 : decode cX1_readWalker 1 = .ok (.getfield 25, 3) := by decide +kernel
theorem dX1_readWalker_4 : decode cX1_readWalker 4 = .ok (.getfield 132, 3) := by decide +kernel
theorem dX1_readWalker_7 : decode cX1_readWalker 7 = .ok (.iconst 5, 1) := by decide +kernel
theorem dX1_readWalker_8 : decode cX1_readWalker 8 = .ok (.if_icmp .lt 5, 3) := by decide +kernel
theorem dX1_readWalker_11 : decode cX1_readWalker 11 = .ok (.iconst 2, 1) := by decide +kernel
theorem dX1_readWalker_12 : decode cX1_readWalker 12 = .ok (.ireturn, 1) := by decide +kernel
theorem dX1_readWalker_13 : decode cX1_readWalker 13 = .ok (.aload_n 0, 1) := by decide +kernel
theorem dX1_readWalker_14 : decode cX1_readWalker 14 = .ok (.getfield 12, 3) := by decide +kernel
theorem dX1_readWalker_17 : decode cX1_readWalker 17 = .ok (.invokevirtual 59, 3) := by decide +kernel
theorem dX1_readWalker_20 : decode cX1_readWalker 20 = .ok (.iconst 0, 1) := by decide +kernel
theorem dX1_readWalker_21 : decode cX1_readWalker 21 = .ok (.istore_n 2, 1) := by decide +kernel
theorem dX1_readWalker_22 : decode cX1_readWalker 22 = .ok (.iload_n 2, 1) := by decide +kernel
theorem dX1_readWalker_23 : decode cX1_readWalker 23 = .ok (.getstatic 18, 3) := by decide +kernel
theorem dX1_readWalker_26 : decode cX1_readWalker 26 = .ok (.arraylength, 1) := by decide +kernel
theorem dX1_readWalker_27 : decode cX1_readWalker 27 = .ok (.if_icmp .ge 60, 3) := by decide +kernel
theorem dX1_readWalker_30 : decode cX1_readWalker 30 = .ok (.aload_n 0, 1) := by decide +kernel
theorem dX1_readWalker_31 : decode cX1_readWalker 31 = .ok (.iload_n 2, 1) := by decide +kernel
theorem dX1_readWalker_32 : decode cX1_readWalker 32 = .ok (.iconst 4, 1) := by decide +kernel
theorem dX1_readWalker_33 : decode cX1_readWalker 33 = .ok (.if_icmp .ne 12, 3) := by decide +kernel
theorem dX1_readWalker_36 : decode cX1_readWalker 36 = .ok (.aload_n 0, 1) := by decide +kernel
theorem dX1_readWalker_37 : decode cX1_readWalker 37 = .ok (.getfield 22, 3) := by decide +kernel
theorem dX1_readWalker_40 : decode cX1_readWalker 40 = .ok (.iconst 3, 1) := by decide +kernel
theorem dX1_readWalker_41 : decode cX1_readWalker 41 = .ok (.iaload, 1) := by decide +kernel
theorem dX1_readWalker_42 : decode cX1_readWalker 42 = .ok (.goto 4, 3) := by decide +kernel
theorem dX1_readWalker_45 : decode cX1_readWalker 45 = .ok (.iconst 0, 1) := by decide +kernel
theorem dX1_readWalker_46 : decode cX1_readWalker 46 = .ok (.getstatic 18, 3) := by decide +kernel
theorem dX1_readWalker_49 : decode cX1_readWalker 49 = .ok (.iload_n 2, 1) := by decide +kernel
theorem dX1_readWalker_50 : decode cX1_readWalker 50 = .ok (.iaload, 1) := by decide +kernel
theorem dX1_readWalker_51 : decode cX1_readWalker 51 = .ok (.invokevirtual 114, 3) := by decide +kernel
theorem dX1_readWalker_54 : decode cX1_readWalker 54 = .ok (.istore_n 3, 1) := by decide +kernel
theorem dX1_readWalker_55 : decode cX1_readWalker 55 = .ok (.iload_n 3, 1) := by decide +kernel
theorem dX1_readWalker_56 : decode cX1_readWalker 56 = .ok (.ifCond .eq 5, 3) := by decide +kernel
theorem dX1_readWalker_59 : decode cX1_readWalker 59 = .ok (.iload_n 3, 1) := by decide +kernel
theorem dX1_readWalker_60 : decode cX1_readWalker 60 = .ok (.ireturn, 1) := by decide +kernel
theorem dX1_readWalker_61 : decode cX1_readWalker 61 = .ok (.aload_n 0, 1) := by decide +kernel
theorem dX1_readWalker_62 : decode cX1_readWalker 62 = .ok (.getfield 22, 3) := by decide +kernel
theorem dX1_readWalker_65 : decode cX1_readWalker 65 = .ok (.iload_n 2, 1) := by decide +kernel
theorem dX1_readWalker_66 : decode cX1_readWalker 66 = .ok (.aload_n 0, 1) := by decide +kernel
theorem dX1_readWalker_67 : decode cX1_readWalker 67 = .ok (.getfield 12, 3) := by decide +kernel
theorem dX1_readWalker_70 : decode cX1_readWalker 70 = .ok (.getfield 108, 3) := by decide +kernel
theorem dX1_readWalker_73 : decode cX1_readWalker 73 = .ok (.iastore, 1) := by decide +kernel
theorem dX1_readWalker_74 : decode cX1_readWalker 74 = .ok (.aload_n 0, 1) := by decide +kernel
theorem dX1_readWalker_75 : decode cX1_readWalker 75 = .ok (.getfield 12, 3) := by decide +kernel
theorem dX1_readWalker_78 : decode cX1_readWalker 78 = .ok (.invokevirtual 59, 3) := by decide +kernel
theorem dX1_readWalker_81 : decode cX1_readWalker 81 = .ok (.iinc 2 1, 3) := by decide +kernel
theorem dX1_readWalker_84 : decode cX1_readWalker 84 = .ok (.goto (-62), 3) := by decide +kernel
theorem dX1_readWalker_87 : decode cX1_readWalker 87 = .ok (.aload_n 0, 1) := by decide +kernel
theorem dX1_readWalker_88 : decode cX1_readWalker 88 = .ok (.getfield 25, 3) := by decide +kernel
theorem dX1_readWalker_91 : decode cX1_readWalker 91 = .ok (.getfield 135, 3) := by decide +kernel
theorem dX1_readWalker_94 : decode cX1_readWalker 94 = .ok (.aload_n 0, 1) := by decide +kernel
theorem dX1_readWalker_95 : decode cX1_readWalker 95 = .ok (.getfield 25, 3) := by decide +kernel
theorem dX1_readWalker_98 : decode cX1_readWalker 98 = .ok (.getfield 132, 3) := by decide +kernel
theorem dX1_readWalker_101 : decode cX1_readWalker 101 = .ok (.aaload, 1) := by decide +kernel
theorem dX1_readWalker_102 : decode cX1_readWalker 102 = .ok (.astore_n 2, 1) := by decide +kernel
theorem dX1_readWalker_103 : decode cX1_readWalker 103 = .ok (.aload_n 2, 1) := by decide +kernel
theorem dX1_readWalker_104 : decode cX1_readWalker 104 = .ok (.iload_n 1, 1) := by decide +kernel
theorem dX1_readWalker_105 : decode cX1_readWalker 105 = .ok (.putfield 139, 3) := by decide +kernel
theorem dX1_readWalker_108 : decode cX1_readWalker 108 = .ok (.aload_n 2, 1) := by decide +kernel
theorem dX1_readWalker_109 : decode cX1_readWalker 109 = .ok (.aload_n 0, 1) := by decide +kernel
theorem dX1_readWalker_110 : decode cX1_readWalker 110 = .ok (.getfield 22, 3) := by decide +kernel
theorem dX1_readWalker_113 : decode cX1_readWalker 113 = .ok (.iconst 0, 1) := by decide +kernel
theorem dX1_readWalker_114 : decode cX1_readWalker 114 = .ok (.iaload, 1) := by decide +kernel
theorem dX1_readWalker_115 : decode cX1_readWalker 115 = .ok (.putfield 140, 3) := by decide +kernel
theorem dX1_readWalker_118 : decode cX1_readWalker 118 = .ok (.aload_n 2, 1) := by decide +kernel
theorem dX1_readWalker_119 : decode cX1_readWalker 119 = .ok (.aload_n 0, 1) := by decide +kernel
theorem dX1_readWalker_120 : decode cX1_readWalker 120 = .ok (.getfield 22, 3) := by decide +kernel
theorem dX1_readWalker_123 : decode cX1_readWalker 123 = .ok (.iconst 1, 1) := by decide +kernel
theorem dX1_readWalker_124 : decode cX1_readWalker 124 = .ok (.iaload, 1) := by decide +kernel
theorem dX1_readWalker_125 : decode cX1_readWalker 125 = .ok (.putfield 143, 3) := by decide +kernel
theorem dX1_readWalker_128 : decode cX1_readWalker 128 = .ok (.aload_n 2, 1) := by decide +kernel
theorem dX1_readWalker_129 : decode cX1_readWalker 129 = .ok (.aload_n 0, 1) := by decide +kernel
theorem dX1_readWalker_130 : decode cX1_readWalker 130 = .ok (.getfield 22, 3) := by decide +kernel
theorem dX1_readWalker_133 : decode cX1_readWalker 133 = .ok (.iconst 2, 1) := by decide +kernel
theorem dX1_readWalker_134 : decode cX1_readWalker 134 = .ok (.iaload, 1) := by decide +kernel
theorem dX1_readWalker_135 : decode cX1_readWalker 135 = .ok (.putfield 146, 3) := by decide +kernel
theorem dX1_readWalker_138 : decode cX1_readWalker 138 = .ok (.aload_n 2, 1) := by decide +kernel
theorem dX1_readWalker_139 : decode cX1_readWalker 139 = .ok (.aload_n 0, 1) := by decide +kernel
theorem dX1_readWalker_140 : decode cX1_readWalker 140 = .ok (.getfield 22, 3) := by decide +kernel
theorem dX1_readWalker_143 : decode cX1_readWalker 143 = .ok (.iconst 3, 1) := by decide +kernel
theorem dX1_readWalker_144 : decode cX1_readWalker 144 = .ok (.iaload, 1) := by decide +kernel
theorem dX1_readWalker_145 : decode cX1_readWalker 145 = .ok (.putfield 149, 3) := by decide +kernel
theorem dX1_readWalker_148 : decode cX1_readWalker 148 = .ok (.aload_n 2, 1) := by decide +kernel
theorem dX1_readWalker_149 : decode cX1_readWalker 149 = .ok (.aload_n 0, 1) := by decide +kernel
theorem dX1_readWalker_150 : decode cX1_readWalker 150 = .ok (.getfield 22, 3) := by decide +kernel
theorem dX1_readWalker_153 : decode cX1_readWalker 153 = .ok (.iconst 4, 1) := by decide +kernel
theorem dX1_readWalker_154 : decode cX1_readWalker 154 = .ok (.iaload, 1) := by decide +kernel
theorem dX1_readWalker_155 : decode cX1_readWalker 155 = .ok (.putfield 152, 3) := by decide +kernel
theorem dX1_readWalker_158 : decode cX1_readWalker 158 = .ok (.aload_n 0, 1) := by decide +kernel
theorem dX1_readWalker_159 : decode cX1_readWalker 159 = .ok (.getfield 25, 3) := by decide +kernel
theorem dX1_readWalker_162 : decode cX1_readWalker 162 = .ok (.dup, 1) := by decide +kernel
theorem dX1_readWalker_163 : decode cX1_readWalker 163 = .ok (.getfield 132, 3) := by decide +kernel
theorem dX1_readWalker_166 : decode cX1_readWalker 166 = .ok (.iconst 1, 1) := by decide +kernel
theorem dX1_readWalker_167 : decode cX1_readWalker 167 = .ok (.iadd, 1) := by decide +kernel
theorem dX1_readWalker_168 : decode cX1_readWalker 168 = .ok (.putfield 132, 3) := by decide +kernel
theorem dX1_readWalker_171 : decode cX1_readWalker 171 = .ok (.iconst 0, 1) := by decide +kernel
theorem dX1_readWalker_172 : decode cX1_readWalker 172 = .ok (.ireturn, 1) := by decide +kernel
theorem dX1_readFlood_0 : decode cX1_readFlood 0 = .ok (.aload_n 0, 1) := by decide +kernel
theorem dX1_readFlood_1 : decode cX1_readFlood 1 = .ok (.getfield 25, 3) := by decide +kernel
theorem dX1_readFlood_4 : decode cX1_readFlood 4 = .ok (.getfield 155, 3) := by decide +kernel
theorem dX1_readFlood_7 : decode cX1_readFlood 7 = .ok (.invokestatic 159, 3) := by decide +kernel
theorem dX1_readFlood_10 : decode cX1_readFlood 10 = .ok (.iconst 5, 1) := by decide +kernel
theorem dX1_readFlood_11 : decode cX1_readFlood 11 = .ok (.if_icmp .lt 5, 3) := by decide +kernel
theorem dX1_readFlood_14 : decode cX1_readFlood 14 = .ok (.iconst 2, 1) := by decide +kernel
theorem dX1_readFlood_15 : decode cX1_readFlood 15 = .ok (.ireturn, 1) := by decide +kernel
theorem dX1_readFlood_16 : decode cX1_readFlood 16 = .ok (.aload_n 0, 1) := by decide +kernel
theorem dX1_readFlood_17 : decode cX1_readFlood 17 = .ok (.getfield 12, 3) := by decide +kernel
theorem dX1_readFlood_20 : decode cX1_readFlood 20 = .ok (.invokevirtual 59, 3) := by decide +kernel
theorem dX1_readFlood_23 : decode cX1_readFlood 23 = .ok (.aload_n 0, 1) := by decide +kernel
theorem dX1_readFlood_24 : decode cX1_readFlood 24 = .ok (.iconst 0, 1) := by decide +kernel
theorem dX1_readFlood_25 : decode cX1_readFlood 25 = .ok (.bipush 63, 2) := by decide +kernel
theorem dX1_readFlood_27 : decode cX1_readFlood 27 = .ok (.invokevirtual 114, 3) := by decide +kernel
theorem dX1_readFlood_30 : decode cX1_readFlood 30 = .ok (.istore_n 1, 1) := by decide +kernel
theorem dX1_readFlood_31 : decode cX1_readFlood 31 = .ok (.iload_n 1, 1) := by decide +kernel
theorem dX1_readFlood_32 : decode cX1_readFlood 32 = .ok (.ifCond .eq 5, 3) := by decide +kernel
theorem dX1_readFlood_35 : decode cX1_readFlood 35 = .ok (.iload_n 1, 1) := by decide +kernel
theorem dX1_readFlood_36 : decode cX1_readFlood 36 = .ok (.ireturn, 1) := by decide +kernel
theorem dX1_readFlood_37 : decode cX1_readFlood 37 = .ok (.aload_n 0, 1) := by decide +kernel
theorem dX1_readFlood_38 : decode cX1_readFlood 38 = .ok (.getfield 25, 3) := by decide +kernel
theorem dX1_readFlood_41 : decode cX1_readFlood 41 = .ok (.aload_n 0, 1) := by decide +kernel
theorem dX1_readFlood_42 : decode cX1_readFlood 42 = .ok (.getfield 12, 3) := by decide +kernel
theorem dX1_readFlood_45 : decode cX1_readFlood 45 = .ok (.getfield 108, 3) := by decide +kernel
theorem dX1_readFlood_48 : decode cX1_readFlood 48 = .ok (.invokevirtual 165, 3) := by decide +kernel
theorem dX1_readFlood_51 : decode cX1_readFlood 51 = .ok (.ifCond .eq 5, 3) := by decide +kernel
theorem dX1_readFlood_54 : decode cX1_readFlood 54 = .ok (.iconst 4, 1) := by decide +kernel
theorem dX1_readFlood_55 : decode cX1_readFlood 55 = .ok (.ireturn, 1) := by decide +kernel
theorem dX1_readFlood_56 : decode cX1_readFlood 56 = .ok (.aload_n 0, 1) := by decide +kernel
theorem dX1_readFlood_57 : decode cX1_readFlood 57 = .ok (.getfield 25, 3) := by decide +kernel
theorem dX1_readFlood_60 : decode cX1_readFlood 60 = .ok (.dup, 1) := by decide +kernel
theorem dX1_readFlood_61 : decode cX1_readFlood 61 = .ok (.getfield 155, 3) := by decide +kernel
theorem dX1_readFlood_64 : decode cX1_readFlood 64 = .ok (.lconst 1, 1) := by decide +kernel
theorem dX1_readFlood_65 : decode cX1_readFlood 65 = .ok (.aload_n 0, 1) := by decide +kernel
theorem dX1_readFlood_66 : decode cX1_readFlood 66 = .ok (.getfield 12, 3) := by decide +kernel
theorem dX1_readFlood_69 : decode cX1_readFlood 69 = .ok (.getfield 108, 3) := by decide +kernel
theorem dX1_readFlood_72 : decode cX1_readFlood 72 = .ok (.lshl, 1) := by decide +kernel
theorem dX1_readFlood_73 : decode cX1_readFlood 73 = .ok (.lor, 1) := by decide +kernel
theorem dX1_readFlood_74 : decode cX1_readFlood 74 = .ok (.putfield 155, 3) := by decide +kernel
theorem dX1_readFlood_77 : decode cX1_readFlood 77 = .ok (.aload_n 0, 1) := by decide +kernel
theorem dX1_readFlood_78 : decode cX1_readFlood 78 = .ok (.getfield 12, 3) := by decide +kernel
theorem dX1_readFlood_81 : decode cX1_readFlood 81 = .ok (.invokevirtual 59, 3) := by decide +kernel
theorem dX1_readFlood_84 : decode cX1_readFlood 84 = .ok (.iconst 0, 1) := by decide +kernel
theorem dX1_readFlood_85 : decode cX1_readFlood 85 = .ok (.ireturn, 1) := by decide +kernel
theorem dX1_readFee_0 : decode cX1_readFee 0 = .ok (.aload_n 0, 1) := by decide +kernel
theorem dX1_readFee_1 : decode cX1_readFee 1 = .ok (.getfield 38, 3) := by decide +kernel
theorem dX1_readFee_4 : decode cX1_readFee 4 = .ok (.ifCond .eq 5, 3) := by decide +kernel
theorem dX1_readFee_7 : decode cX1_readFee 7 = .ok (.iconst 5, 1) := by decide +kernel
theorem dX1_readFee_8 : decode cX1_readFee 8 = .ok (.ireturn, 1) := by decide +kernel
theorem dX1_readFee_9 : decode cX1_readFee 9 = .ok (.aload_n 0, 1) := by decide +kernel
theorem dX1_readFee_10 : decode cX1_readFee 10 = .ok (.iconst 1, 1) := by decide +kernel
theorem dX1_readFee_11 : decode cX1_readFee 11 = .ok (.putfield 38, 3) := by decide +kernel
theorem dX1_readFee_14 : decode cX1_readFee 14 = .ok (.aload_n 0, 1) := by decide +kernel
theorem dX1_readFee_15 : decode cX1_readFee 15 = .ok (.getfield 12, 3) := by decide +kernel
theorem dX1_readFee_18 : decode cX1_readFee 18 = .ok (.invokevirtual 59, 3) := by decide +kernel
theorem dX1_readFee_21 : decode cX1_readFee 21 = .ok (.aload_n 0, 1) := by decide +kernel
theorem dX1_readFee_22 : decode cX1_readFee 22 = .ok (.iconst 0, 1) := by decide +kernel
theorem dX1_readFee_23 : decode cX1_readFee 23 = .ok (.bipush 99, 2) := by decide +kernel
theorem dX1_readFee_25 : decode cX1_readFee 25 = .ok (.invokevirtual 114, 3) := by decide +kernel
theorem dX1_readFee_28 : decode cX1_readFee 28 = .ok (.istore_n 1, 1) := by decide +kernel
theorem dX1_readFee_29 : decode cX1_readFee 29 = .ok (.iload_n 1, 1) := by decide +kernel
theorem dX1_readFee_30 : decode cX1_readFee 30 = .ok (.ifCond .ne 24, 3) := by decide +kernel
theorem dX1_readFee_33 : decode cX1_readFee 33 = .ok (.aload_n 0, 1) := by decide +kernel
theorem dX1_readFee_34 : decode cX1_readFee 34 = .ok (.getfield 25, 3) := by decide +kernel
theorem dX1_readFee_37 : decode cX1_readFee 37 = .ok (.aload_n 0, 1) := by decide +kernel
theorem dX1_readFee_38 : decode cX1_readFee 38 = .ok (.getfield 12, 3) := by decide +kernel
theorem dX1_readFee_41 : decode cX1_readFee 41 = .ok (.getfield 108, 3) := by decide +kernel
theorem dX1_readFee_44 : decode cX1_readFee 44 = .ok (.putfield 169, 3) := by decide +kernel
theorem dX1_readFee_47 : decode cX1_readFee 47 = .ok (.aload_n 0, 1) := by decide +kernel
theorem dX1_readFee_48 : decode cX1_readFee 48 = .ok (.getfield 12, 3) := by decide +kernel
theorem dX1_readFee_51 : decode cX1_readFee 51 = .ok (.invokevirtual 59, 3) := by decide +kernel
theorem dX1_readFee_54 : decode cX1_readFee 54 = .ok (.iload_n 1, 1) := by decide +kernel
theorem dX1_readFee_55 : decode cX1_readFee 55 = .ok (.ireturn, 1) := by decide +kernel
theorem dX1_readWear_0 : decode cX1_readWear 0 = .ok (.aload_n 0, 1) := by decide +kernel
theorem dX1_readWear_1 : decode cX1_readWear 1 = .ok (.getfield 42, 3) := by decide +kernel
theorem dX1_readWear_4 : decode cX1_readWear 4 = .ok (.ifCond .eq 5, 3) := by decide +kernel
theorem dX1_readWear_7 : decode cX1_readWear 7 = .ok (.iconst 5, 1) := by decide +kernel
theorem dX1_readWear_8 : decode cX1_readWear 8 = .ok (.ireturn, 1) := by decide +kernel
theorem dX1_readWear_9 : decode cX1_readWear 9 = .ok (.aload_n 0, 1) := by decide +kernel
theorem dX1_readWear_10 : decode cX1_readWear 10 = .ok (.iconst 1, 1) := by decide +kernel
theorem dX1_readWear_11 : decode cX1_readWear 11 = .ok (.putfield 42, 3) := by decide +kernel
theorem dX1_readWear_14 : decode cX1_readWear 14 = .ok (.aload_n 0, 1) := by decide +kernel
theorem dX1_readWear_15 : decode cX1_readWear 15 = .ok (.getfield 12, 3) := by decide +kernel
theorem dX1_readWear_18 : decode cX1_readWear 18 = .ok (.invokevirtual 59, 3) := by decide +kernel
theorem dX1_readWear_21 : decode cX1_readWear 21 = .ok (.aload_n 0, 1) := by decide +kernel
theorem dX1_readWear_22 : decode cX1_readWear 22 = .ok (.iconst 0, 1) := by decide +kernel
theorem dX1_readWear_23 : decode cX1_readWear 23 = .ok (.bipush 9, 2) := by decide +kernel
theorem dX1_readWear_25 : decode cX1_readWear 25 = .ok (.invokevirtual 114, 3) := by decide +kernel
theorem dX1_readWear_28 : decode cX1_readWear 28 = .ok (.istore_n 1, 1) := by decide +kernel
theorem dX1_readWear_29 : decode cX1_readWear 29 = .ok (.iload_n 1, 1) := by decide +kernel
theorem dX1_readWear_30 : decode cX1_readWear 30 = .ok (.ifCond .ne 24, 3) := by decide +kernel
theorem dX1_readWear_33 : decode cX1_readWear 33 = .ok (.aload_n 0, 1) := by decide +kernel
theorem dX1_readWear_34 : decode cX1_readWear 34 = .ok (.getfield 25, 3) := by decide +kernel
theorem dX1_readWear_37 : decode cX1_readWear 37 = .ok (.aload_n 0, 1) := by decide +kernel
theorem dX1_readWear_38 : decode cX1_readWear 38 = .ok (.getfield 12, 3) := by decide +kernel
theorem dX1_readWear_41 : decode cX1_readWear 41 = .ok (.getfield 108, 3) := by decide +kernel
theorem dX1_readWear_44 : decode cX1_readWear 44 = .ok (.putfield 171, 3) := by decide +kernel
theorem dX1_readWear_47 : decode cX1_readWear 47 = .ok (.aload_n 0, 1) := by decide +kernel
theorem dX1_readWear_48 : decode cX1_readWear 48 = .ok (.getfield 12, 3) := by decide +kernel
theorem dX1_readWear_51 : decode cX1_readWear 51 = .ok (.invokevirtual 59, 3) := by decide +kernel
theorem dX1_readWear_54 : decode cX1_readWear 54 = .ok (.iload_n 1, 1) := by decide +kernel
theorem dX1_readWear_55 : decode cX1_readWear 55 = .ok (.ireturn, 1) := by decide +kernel
theorem dX2_init_0 : decode cX2_init 0 = .ok (.aload_n 0, 1) := by decide +kernel
theorem dX2_init_1 : decode cX2_init 1 = .ok (.invokespecial 3, 3) := by decide +kernel
theorem dX2_init_4 : decode cX2_init 4 = .ok (.aload_n 0, 1) := by decide +kernel
theorem dX2_init_5 : decode cX2_init 5 = .ok (.iconst 0, 1) := by decide +kernel
theorem dX2_init_6 : decode cX2_init 6 = .ok (.newarray .int, 2) := by decide +kernel
theorem dX2_init_8 : decode cX2_init 8 = .ok (.putfield 9, 3) := by decide +kernel
theorem dX2_init_11 : decode cX2_init 11 = .ok (.aload_n 0, 1) := by decide +kernel
theorem dX2_init_12 : decode cX2_init 12 = .ok (.iconst 0, 1) := by decide +kernel
theorem dX2_init_13 : decode cX2_init 13 = .ok (.newarray .long, 2) := by decide +kernel
theorem dX2_init_15 : decode cX2_init 15 = .ok (.putfield 15, 3) := by decide +kernel
theorem dX2_init_18 : decode cX2_init 18 = .ok (.aload_n 0, 1) := by decide +kernel
theorem dX2_init_19 : decode cX2_init 19 = .ok (.iconst 0, 1) := by decide +kernel
theorem dX2_init_20 : decode cX2_init 20 = .ok (.newarray .int, 2) := by decide +kernel
theorem dX2_init_22 : decode cX2_init 22 = .ok (.putfield 19, 3) := by decide +kernel
theorem dX2_init_25 : decode cX2_init 25 = .ok (.aload_n 0, 1) := by decide +kernel
theorem dX2_init_26 : decode cX2_init 26 = .ok (.iconst 0, 1) := by decide +kernel
theorem dX2_init_27 : decode cX2_init 27 = .ok (.newarray .int, 2) := by decide +kernel
theorem dX2_init_29 : decode cX2_init 29 = .ok (.putfield 22, 3) := by decide +kernel
theorem dX2_init_32 : decode cX2_init 32 = .ok (.aload_n 0, 1) := by decide +kernel
theorem dX2_init_33 : decode cX2_init 33 = .ok (.bipush 7, 2) := by decide +kernel
theorem dX2_init_35 : decode cX2_init 35 = .ok (.newarray .int, 2) := by decide +kernel
theorem dX2_init_37 : decode cX2_init 37 = .ok (.putfield 25, 3) := by decide +kernel
theorem dX2_init_40 : decode cX2_init 40 = .ok (.return_, 1) := by decide +kernel
theorem dX2_drop_0 : decode cX2_drop 0 = .ok (.aload_n 0, 1) := by decide +kernel
theorem dX2_drop_1 : decode cX2_drop 1 = .ok (.iconst 0, 1) := by decide +kernel
theorem dX2_drop_2 : decode cX2_drop 2 = .ok (.putfield 28, 3) := by decide +kernel
theorem dX2_drop_5 : decode cX2_drop 5 = .ok (.aload_n 0, 1) := by decide +kernel
theorem dX2_drop_6 : decode cX2_drop 6 = .ok (.iconst 0, 1) := by decide +kernel
theorem dX2_drop_7 : decode cX2_drop 7 = .ok (.putfield 32, 3) := by decide +kernel
theorem dX2_drop_10 : decode cX2_drop 10 = .ok (.return_, 1) := by decide +kernel
theorem dX2_dropBest_0 : decode cX2_dropBest 0 = .ok (.aload_n 0, 1) := by decide +kernel
theorem dX2_dropBest_1 : decode cX2_dropBest 1 = .ok (.iconst 0, 1) := by decide +kernel
theorem dX2_dropBest_2 : decode cX2_dropBest 2 = .ok (.putfield 32, 3) := by decide +kernel
theorem dX2_dropBest_5 : decode cX2_dropBest 5 = .ok (.return_, 1) := by decide +kernel
theorem dX2_list_0 : decode cX2_list 0 = .ok (.aload_n 0, 1) := by decide +kernel
theorem dX2_list_1 : decode cX2_list 1 = .ok (.getfield 28, 3) := by decide +kernel
theorem dX2_list_4 : decode cX2_list 4 = .ok (.ifCond .eq 4, 3) := by decide +kernel
theorem dX2_list_7 : decode cX2_list 7 = .ok (.return_, 1) := by decide +kernel
theorem dX2_list_8 : decode cX2_list 8 = .ok (.aload_n 1, 1) := by decide +kernel
theorem dX2_list_9 : decode cX2_list 9 = .ok (.getfield 35, 3) := by decide +kernel
theorem dX2_list_12 : decode cX2_list 12 = .ok (.invokestatic 41, 3) := by decide +kernel
theorem dX2_list_15 : decode cX2_list 15 = .ok (.istore_n 3, 1) := by decide +kernel
theorem dX2_list_16 : decode cX2_list 16 = .ok (.aload_n 0, 1) := by decide +kernel
theorem dX2_list_17 : decode cX2_list 17 = .ok (.iload_n 3, 1) := by decide +kernel
theorem dX2_list_18 : decode cX2_list 18 = .ok (.invokevirtual 45, 3) := by decide +kernel
theorem dX2_list_21 : decode cX2_list 21 = .ok (.aload_n 0, 1) := by decide +kernel
theorem dX2_list_22 : decode cX2_list 22 = .ok (.getfield 25, 3) := by decide +kernel
theorem dX2_list_25 : decode cX2_list 25 = .ok (.invokestatic 49, 3) := by decide +kernel
theorem dX2_list_28 : decode cX2_list 28 = .ok (.iconst 1, 1) := by decide +kernel
theorem dX2_list_29 : decode cX2_list 29 = .ok (.istore 4, 2) := by decide +kernel
theorem dX2_list_31 : decode cX2_list 31 = .ok (.iconst 0, 1) := by decide +kernel
theorem dX2_list_32 : decode cX2_list 32 = .ok (.istore 5, 2) := by decide +kernel
theorem dX2_list_34 : decode cX2_list 34 = .ok (.iload 5, 2) := by decide +kernel
theorem dX2_list_36 : decode cX2_list 36 = .ok (.iload_n 3, 1) := by decide +kernel
theorem dX2_list_37 : decode cX2_list 37 = .ok (.if_icmp .ge 48, 3) := by decide +kernel
theorem dX2_list_40 : decode cX2_list 40 = .ok (.iload 4, 2) := by decide +kernel
theorem dX2_list_42 : decode cX2_list 42 = .ok (.ifCond .eq 43, 3) := by decide +kernel
theorem dX2_list_45 : decode cX2_list 45 = .ok (.aload_n 2, 1) := by decide +kernel
theorem dX2_list_46 : decode cX2_list 46 = .ok (.aload_n 1, 1) := by decide +kernel
theorem dX2_list_47 : decode cX2_list 47 = .ok (.aload_n 0, 1) := by decide +kernel
theorem dX2_list_48 : decode cX2_list 48 = .ok (.getfield 25, 3) := by decide +kernel
theorem dX2_list_51 : decode cX2_list 51 = .ok (.invokevirtual 53, 3) := by decide +kernel
theorem dX2_list_54 : decode cX2_list 54 = .ok (.aload_n 0, 1) := by decide +kernel
theorem dX2_list_55 : decode cX2_list 55 = .ok (.aload_n 2, 1) := by decide +kernel
theorem dX2_list_56 : decode cX2_list 56 = .ok (.invokevirtual 59, 3) := by decide +kernel
theorem dX2_list_59 : decode cX2_list 59 = .ok (.aload_n 1, 1) := by decide +kernel
theorem dX2_list_60 : decode cX2_list 60 = .ok (.getfield 35, 3) := by decide +kernel
theorem dX2_list_63 : decode cX2_list 63 = .ok (.invokevirtual 63, 3) := by decide +kernel
theorem dX2_list_66 : decode cX2_list 66 = .ok (.aload_n 0, 1) := by decide +kernel
theorem dX2_list_67 : decode cX2_list 67 = .ok (.getfield 25, 3) := by decide +kernel
theorem dX2_list_70 : decode cX2_list 70 = .ok (.aload_n 1, 1) := by decide +kernel
theorem dX2_list_71 : decode cX2_list 71 = .ok (.getfield 35, 3) := by decide +kernel
theorem dX2_list_74 : decode cX2_list 74 = .ok (.invokestatic 67, 3) := by decide +kernel
theorem dX2_list_77 : decode cX2_list 77 = .ok (.istore 4, 2) := by decide +kernel
theorem dX2_list_79 : decode cX2_list 79 = .ok (.iinc 5 1, 3) := by decide +kernel
theorem dX2_list_82 : decode cX2_list 82 = .ok (.goto (-48), 3) := by decide +kernel
theorem dX2_list_85 : decode cX2_list 85 = .ok (.aload_n 0, 1) := by decide +kernel
theorem dX2_list_86 : decode cX2_list 86 = .ok (.iconst 1, 1) := by decide +kernel
theorem dX2_list_87 : decode cX2_list 87 = .ok (.putfield 28, 3) := by decide +kernel
theorem dX2_list_90 : decode cX2_list 90 = .ok (.return_, 1) := by decide +kernel
theorem dX2_factorial_0 : decode cX2_factorial 0 = .ok (.iconst 1, 1) := by decide +kernel
theorem dX2_factorial_1 : decode cX2_factorial 1 = .ok (.istore_n 1, 1) := by decide +kernel
theorem dX2_factorial_2 : decode cX2_factorial 2 = .ok (.iconst 2, 1) := by decide +kernel
theorem dX2_factorial_3 : decode cX2_factorial 3 = .ok (.istore_n 2, 1) := by decide +kernel
theorem dX2_factorial_4 : decode cX2_factorial 4 = .ok (.iload_n 2, 1) := by decide +kernel
theorem dX2_factorial_5 : decode cX2_factorial 5 = .ok (.iload_n 0, 1) := by decide +kernel
theorem dX2_factorial_6 : decode cX2_factorial 6 = .ok (.if_icmp .gt 13, 3) := by decide +kernel
theorem dX2_factorial_9 : decode cX2_factorial 9 = .ok (.iload_n 1, 1) := by decide +kernel
theorem dX2_factorial_10 : decode cX2_factorial 10 = .ok (.iload_n 2, 1) := by decide +kernel
theorem dX2_factorial_11 : decode cX2_factorial 11 = .ok (.imul, 1) := by decide +kernel
theorem dX2_factorial_12 : decode cX2_factorial 12 = .ok (.istore_n 1, 1) := by decide +kernel
theorem dX2_factorial_13 : decode cX2_factorial 13 = .ok (.iinc 2 1, 3) := by decide +kernel
theorem dX2_factorial_16 : decode cX2_factorial 16 = .ok (.goto (-12), 3) := by decide +kernel
theorem dX2_factorial_19 : decode cX2_factorial 19 = .ok (.iload_n 1, 1) := by decide +kernel
theorem dX2_factorial_20 : decode cX2_factorial 20 = .ok (.ireturn, 1) := by decide +kernel
theorem dX2_makeRoom_0 : decode cX2_makeRoom 0 = .ok (.aload_n 0, 1) := by decide +kernel
theorem dX2_makeRoom_1 : decode cX2_makeRoom 1 = .ok (.getfield 9, 3) := by decide +kernel
theorem dX2_makeRoom_4 : decode cX2_makeRoom 4 = .ok (.arraylength, 1) := by decide +kernel
theorem dX2_makeRoom_5 : decode cX2_makeRoom 5 = .ok (.iload_n 1, 1) := by decide +kernel
theorem dX2_makeRoom_6 : decode cX2_makeRoom 6 = .ok (.if_icmp .ge 55, 3) := by decide +kernel
theorem dX2_makeRoom_9 : decode cX2_makeRoom 9 = .ok (.aload_n 0, 1) := by decide +kernel
theorem dX2_makeRoom_10 : decode cX2_makeRoom 10 = .ok (.iload_n 1, 1) := by decide +kernel
theorem dX2_makeRoom_11 : decode cX2_makeRoom 11 = .ok (.newarray .int, 2) := by decide +kernel
theorem dX2_makeRoom_13 : decode cX2_makeRoom 13 = .ok (.putfield 9, 3) := by decide +kernel
theorem dX2_makeRoom_16 : decode cX2_makeRoom 16 = .ok (.aload_n 0, 1) := by decide +kernel
theorem dX2_makeRoom_17 : decode cX2_makeRoom 17 = .ok (.iload_n 1, 1) := by decide +kernel
theorem dX2_makeRoom_18 : decode cX2_makeRoom 18 = .ok (.newarray .long, 2) := by decide +kernel
theorem dX2_makeRoom_20 : decode cX2_makeRoom 20 = .ok (.putfield 15, 3) := by decide +kernel
theorem dX2_makeRoom_23 : decode cX2_makeRoom 23 = .ok (.aload_n 0, 1) := by decide +kernel
theorem dX2_makeRoom_24 : decode cX2_makeRoom 24 = .ok (.iload_n 1, 1) := by decide +kernel
theorem dX2_makeRoom_25 : decode cX2_makeRoom 25 = .ok (.newarray .int, 2) := by decide +kernel
theorem dX2_makeRoom_27 : decode cX2_makeRoom 27 = .ok (.putfield 19, 3) := by decide +kernel
theorem dX2_makeRoom_30 : decode cX2_makeRoom 30 = .ok (.iconst 2, 1) := by decide +kernel
theorem dX2_makeRoom_31 : decode cX2_makeRoom 31 = .ok (.istore_n 2, 1) := by decide +kernel
theorem dX2_makeRoom_32 : decode cX2_makeRoom 32 = .ok (.iload_n 2, 1) := by decide +kernel
theorem dX2_makeRoom_33 : decode cX2_makeRoom 33 = .ok (.iload_n 1, 1) := by decide +kernel
theorem dX2_makeRoom_34 : decode cX2_makeRoom 34 = .ok (.iload_n 1, 1) := by decide +kernel
theorem dX2_makeRoom_35 : decode cX2_makeRoom 35 = .ok (.iconst 2, 1) := by decide +kernel
theorem dX2_makeRoom_36 : decode cX2_makeRoom 36 = .ok (.idiv, 1) := by decide +kernel
theorem dX2_makeRoom_37 : decode cX2_makeRoom 37 = .ok (.iadd, 1) := by decide +kernel
theorem dX2_makeRoom_38 : decode cX2_makeRoom 38 = .ok (.if_icmp .ge 16, 3) := by decide +kernel
theorem dX2_makeRoom_41 : decode cX2_makeRoom 41 = .ok (.iload_n 2, 1) := by decide +kernel
theorem dX2_makeRoom_42 : decode cX2_makeRoom 42 = .ok (.ldc 71, 2) := by decide +kernel
theorem dX2_makeRoom_44 : decode cX2_makeRoom 44 = .ok (.if_icmp .ge 10, 3) := by decide +kernel
theorem dX2_makeRoom_47 : decode cX2_makeRoom 47 = .ok (.iload_n 2, 1) := by decide +kernel
theorem dX2_makeRoom_48 : decode cX2_makeRoom 48 = .ok (.iconst 2, 1) := by decide +kernel
theorem dX2_makeRoom_49 : decode cX2_makeRoom 49 = .ok (.imul, 1) := by decide +kernel
theorem dX2_makeRoom_50 : decode cX2_makeRoom 50 = .ok (.istore_n 2, 1) := by decide +kernel
theorem dX2_makeRoom_51 : decode cX2_makeRoom 51 = .ok (.goto (-19), 3) := by decide +kernel
theorem dX2_makeRoom_54 : decode cX2_makeRoom 54 = .ok (.aload_n 0, 1) := by decide +kernel
theorem dX2_makeRoom_55 : decode cX2_makeRoom 55 = .ok (.iload_n 2, 1) := by decide +kernel
theorem dX2_makeRoom_56 : decode cX2_makeRoom 56 = .ok (.newarray .int, 2) := by decide +kernel
theorem dX2_makeRoom_58 : decode cX2_makeRoom 58 = .ok (.putfield 22, 3) := by decide +kernel
theorem dX2_makeRoom_61 : decode cX2_makeRoom 61 = .ok (.aload_n 0, 1) := by decide +kernel
theorem dX2_makeRoom_62 : decode cX2_makeRoom 62 = .ok (.getfield 22, 3) := by decide +kernel
theorem dX2_makeRoom_65 : decode cX2_makeRoom 65 = .ok (.iconst (-1), 1) := by decide +kernel
theorem dX2_makeRoom_66 : decode cX2_makeRoom 66 = .ok (.invokestatic 72, 3) := by decide +kernel
theorem dX2_makeRoom_69 : decode cX2_makeRoom 69 = .ok (.aload_n 0, 1) := by decide +kernel
theorem dX2_makeRoom_70 : decode cX2_makeRoom 70 = .ok (.iconst 0, 1) := by decide +kernel
theorem dX2_makeRoom_71 : decode cX2_makeRoom 71 = .ok (.putfield 78, 3) := by decide +kernel
theorem dX2_makeRoom_74 : decode cX2_makeRoom 74 = .ok (.return_, 1) := by decide +kernel
theorem dX2_enter_0 : decode cX2_enter 0 = .ok (.aload_n 0, 1) := by decide +kernel
theorem dX2_enter_1 : decode cX2_enter 1 = .ok (.getfield 22, 3) := by decide +kernel
theorem dX2_enter_4 : decode cX2_enter 4 = .ok (.arraylength, 1) := by decide +kernel
theorem dX2_enter_5 : decode cX2_enter 5 = .ok (.iconst 1, 1) := by decide +kernel
theorem dX2_enter_6 : decode cX2_enter 6 = .ok (.isub, 1) := by decide +kernel
theorem dX2_enter_7 : decode cX2_enter 7 = .ok (.istore 4, 2) := by decide +kernel
theorem dX2_enter_9 : decode cX2_enter 9 = .ok (.lload_n 1, 1) := by decide +kernel
theorem dX2_enter_10 : decode cX2_enter 10 = .ok (.ldc2_w 81, 3) := by decide +kernel
theorem dX2_enter_13 : decode cX2_enter 13 = .ok (.lmul, 1) := by decide +kernel
theorem dX2_enter_14 : decode cX2_enter 14 = .ok (.bipush 40, 2) := by decide +kernel
theorem dX2_enter_16 : decode cX2_enter 16 = .ok (.lushr, 1) := by decide +kernel
theorem dX2_enter_17 : decode cX2_enter 17 = .ok (.l2i, 1) := by decide +kernel
theorem dX2_enter_18 : decode cX2_enter 18 = .ok (.iload 4, 2) := by decide +kernel
theorem dX2_enter_20 : decode cX2_enter 20 = .ok (.iand, 1) := by decide +kernel
theorem dX2_enter_21 : decode cX2_enter 21 = .ok (.istore 5, 2) := by decide +kernel
theorem dX2_enter_23 : decode cX2_enter 23 = .ok (.iconst 0, 1) := by decide +kernel
theorem dX2_enter_24 : decode cX2_enter 24 = .ok (.istore 6, 2) := by decide +kernel
theorem dX2_enter_26 : decode cX2_enter 26 = .ok (.iload 6, 2) := by decide +kernel
theorem dX2_enter_28 : decode cX2_enter 28 = .ok (.iload 4, 2) := by decide +kernel
theorem dX2_enter_30 : decode cX2_enter 30 = .ok (.if_icmp .ge 46, 3) := by decide +kernel
theorem dX2_enter_33 : decode cX2_enter 33 = .ok (.aload_n 0, 1) := by decide +kernel
theorem dX2_enter_34 : decode cX2_enter 34 = .ok (.getfield 22, 3) := by decide +kernel
theorem dX2_enter_37 : decode cX2_enter 37 = .ok (.iload 5, 2) := by decide +kernel
theorem dX2_enter_39 : decode cX2_enter 39 = .ok (.iaload, 1) := by decide +kernel
theorem dX2_enter_40 : decode cX2_enter 40 = .ok (.iconst (-1), 1) := by decide +kernel
theorem dX2_enter_41 : decode cX2_enter 41 = .ok (.if_icmp .eq 35, 3) := by decide +kernel
theorem dX2_enter_44 : decode cX2_enter 44 = .ok (.aload_n 0, 1) := by decide +kernel
theorem dX2_enter_45 : decode cX2_enter 45 = .ok (.getfield 15, 3) := by decide +kernel
theorem dX2_enter_48 : decode cX2_enter 48 = .ok (.aload_n 0, 1) := by decide +kernel
theorem dX2_enter_49 : decode cX2_enter 49 = .ok (.getfield 22, 3) := by decide +kernel
theorem dX2_enter_52 : decode cX2_enter 52 = .ok (.iload 5, 2) := by decide +kernel
theorem dX2_enter_54 : decode cX2_enter 54 = .ok (.iaload, 1) := by decide +kernel
theorem dX2_enter_55 : decode cX2_enter 55 = .ok (.laload, 1) := by decide +kernel
theorem dX2_enter_56 : decode cX2_enter 56 = .ok (.lload_n 1, 1) := by decide +kernel
theorem dX2_enter_57 : decode cX2_enter 57 = .ok (.lcmp, 1) := by decide +kernel
theorem dX2_enter_58 : decode cX2_enter 58 = .ok (.ifCond .eq 18, 3) := by decide +kernel
theorem dX2_enter_61 : decode cX2_enter 61 = .ok (.iload 5, 2) := by decide +kernel
theorem dX2_enter_63 : decode cX2_enter 63 = .ok (.iconst 1, 1) := by decide +kernel
theorem dX2_enter_64 : decode cX2_enter 64 = .ok (.iadd, 1) := by decide +kernel
theorem dX2_enter_65 : decode cX2_enter 65 = .ok (.iload 4, 2) := by decide +kernel
theorem dX2_enter_67 : decode cX2_enter 67 = .ok (.iand, 1) := by decide +kernel
theorem dX2_enter_68 : decode cX2_enter 68 = .ok (.istore 5, 2) := by decide +kernel
theorem dX2_enter_70 : decode cX2_enter 70 = .ok (.iinc 6 1, 3) := by decide +kernel
theorem dX2_enter_73 : decode cX2_enter 73 = .ok (.goto (-47), 3) := by decide +kernel
theorem dX2_enter_76 : decode cX2_enter 76 = .ok (.aload_n 0, 1) := by decide +kernel
theorem dX2_enter_77 : decode cX2_enter 77 = .ok (.getfield 22, 3) := by decide +kernel
theorem dX2_enter_80 : decode cX2_enter 80 = .ok (.iload 5, 2) := by decide +kernel
theorem dX2_enter_82 : decode cX2_enter 82 = .ok (.iaload, 1) := by decide +kernel
theorem dX2_enter_83 : decode cX2_enter 83 = .ok (.iconst (-1), 1) := by decide +kernel
theorem dX2_enter_84 : decode cX2_enter 84 = .ok (.if_icmp .ne 63, 3) := by decide +kernel
theorem dX2_enter_87 : decode cX2_enter 87 = .ok (.aload_n 0, 1) := by decide +kernel
theorem dX2_enter_88 : decode cX2_enter 88 = .ok (.getfield 22, 3) := by decide +kernel
theorem dX2_enter_91 : decode cX2_enter 91 = .ok (.iload 5, 2) := by decide +kernel
theorem dX2_enter_93 : decode cX2_enter 93 = .ok (.aload_n 0, 1) := by decide +kernel
theorem dX2_enter_94 : decode cX2_enter 94 = .ok (.getfield 78, 3) := by decide +kernel
theorem dX2_enter_97 : decode cX2_enter 97 = .ok (.iastore, 1) := by decide +kernel
theorem dX2_enter_98 : decode cX2_enter 98 = .ok (.aload_n 0, 1) := by decide +kernel
theorem dX2_enter_99 : decode cX2_enter 99 = .ok (.getfield 9, 3) := by decide +kernel
theorem dX2_enter_102 : decode cX2_enter 102 = .ok (.aload_n 0, 1) := by decide +kernel
theorem dX2_enter_103 : decode cX2_enter 103 = .ok (.getfield 78, 3) := by decide +kernel
theorem dX2_enter_106 : decode cX2_enter 106 = .ok (.aload_n 0, 1) := by decide +kernel
theorem dX2_enter_107 : decode cX2_enter 107 = .ok (.getfield 25, 3) := by decide +kernel
theorem dX2_enter_110 : decode cX2_enter 110 = .ok (.iload_n 3, 1) := by decide +kernel
theorem dX2_enter_111 : decode cX2_enter 111 = .ok (.iconst 3, 1) := by decide +kernel
theorem dX2_enter_112 : decode cX2_enter 112 = .ok (.invokestatic 83, 3) := by decide +kernel
theorem dX2_enter_115 : decode cX2_enter 115 = .ok (.l2i, 1) := by decide +kernel
theorem dX2_enter_116 : decode cX2_enter 116 = .ok (.iastore, 1) := by decide +kernel
theorem dX2_enter_117 : decode cX2_enter 117 = .ok (.aload_n 0, 1) := by decide +kernel
theorem dX2_enter_118 : decode cX2_enter 118 = .ok (.getfield 15, 3) := by decide +kernel
theorem dX2_enter_121 : decode cX2_enter 121 = .ok (.aload_n 0, 1) := by decide +kernel
theorem dX2_enter_122 : decode cX2_enter 122 = .ok (.getfield 78, 3) := by decide +kernel
theorem dX2_enter_125 : decode cX2_enter 125 = .ok (.lload_n 1, 1) := by decide +kernel
theorem dX2_enter_126 : decode cX2_enter 126 = .ok (.lastore, 1) := by decide +kernel
theorem dX2_enter_127 : decode cX2_enter 127 = .ok (.aload_n 0, 1) := by decide +kernel
theorem dX2_enter_128 : decode cX2_enter 128 = .ok (.getfield 19, 3) := by decide +kernel
theorem dX2_enter_131 : decode cX2_enter 131 = .ok (.aload_n 0, 1) := by decide +kernel
theorem dX2_enter_132 : decode cX2_enter 132 = .ok (.getfield 78, 3) := by decide +kernel
theorem dX2_enter_135 : decode cX2_enter 135 = .ok (.iconst 0, 1) := by decide +kernel
theorem dX2_enter_136 : decode cX2_enter 136 = .ok (.iastore, 1) := by decide +kernel
theorem dX2_enter_137 : decode cX2_enter 137 = .ok (.aload_n 0, 1) := by decide +kernel
theorem dX2_enter_138 : decode cX2_enter 138 = .ok (.dup, 1) := by decide +kernel
theorem dX2_enter_139 : decode cX2_enter 139 = .ok (.getfield 78, 3) := by decide +kernel
theorem dX2_enter_142 : decode cX2_enter 142 = .ok (.iconst 1, 1) := by decide +kernel
theorem dX2_enter_143 : decode cX2_enter 143 = .ok (.iadd, 1) := by decide +kernel
theorem dX2_enter_144 : decode cX2_enter 144 = .ok (.putfield 78, 3) := by decide +kernel
theorem dX2_enter_147 : decode cX2_enter 147 = .ok (.aload_n 0, 1) := by decide +kernel
theorem dX2_enter_148 : decode cX2_enter 148 = .ok (.getfield 19, 3) := by decide +kernel
theorem dX2_enter_151 : decode cX2_enter 151 = .ok (.aload_n 0, 1) := by decide +kernel
theorem dX2_enter_152 : decode cX2_enter 152 = .ok (.getfield 22, 3) := by decide +kernel
theorem dX2_enter_155 : decode cX2_enter 155 = .ok (.iload 5, 2) := by decide +kernel
theorem dX2_enter_157 : decode cX2_enter 157 = .ok (.iaload, 1) := by decide +kernel
theorem dX2_enter_158 : decode cX2_enter 158 = .ok (.dup2, 1) := by decide +kernel
theorem dX2_enter_159 : decode cX2_enter 159 = .ok (.iaload, 1) := by decide +kernel
theorem dX2_enter_160 : decode cX2_enter 160 = .ok (.iconst 1, 1) := by decide +kernel
theorem dX2_enter_161 : decode cX2_enter 161 = .ok (.iadd, 1) := by decide +kernel
theorem dX2_enter_162 : decode cX2_enter 162 = .ok (.iastore, 1) := by decide +kernel
theorem dX2_enter_163 : decode cX2_enter 163 = .ok (.return_, 1) := by decide +kernel
theorem dX2_findBest_0 : decode cX2_findBest 0 = .ok (.aload_n 0, 1) := by decide +kernel
theorem dX2_findBest_1 : decode cX2_findBest 1 = .ok (.getfield 32, 3) := by decide +kernel
theorem dX2_findBest_4 : decode cX2_findBest 4 = .ok (.ifCond .eq 4, 3) := by decide +kernel
theorem dX2_findBest_7 : decode cX2_findBest 7 = .ok (.return_, 1) := by decide +kernel
theorem dX2_findBest_8 : decode cX2_findBest 8 = .ok (.aload_n 0, 1) := by decide +kernel
theorem dX2_findBest_9 : decode cX2_findBest 9 = .ok (.iconst (-1), 1) := by decide +kernel
theorem dX2_findBest_10 : decode cX2_findBest 10 = .ok (.putfield 87, 3) := by decide +kernel
theorem dX2_findBest_13 : decode cX2_findBest 13 = .ok (.iconst 0, 1) := by decide +kernel
theorem dX2_findBest_14 : decode cX2_findBest 14 = .ok (.istore 4, 2) := by decide +kernel
theorem dX2_findBest_16 : decode cX2_findBest 16 = .ok (.iload 4, 2) := by decide +kernel
theorem dX2_findBest_18 : decode cX2_findBest 18 = .ok (.aload_n 0, 1) := by decide +kernel
theorem dX2_findBest_19 : decode cX2_findBest 19 = .ok (.getfield 78, 3) := by decide +kernel
theorem dX2_findBest_22 : decode cX2_findBest 22 = .ok (.if_icmp .ge 93, 3) := by decide +kernel
theorem dX2_findBest_25 : decode cX2_findBest 25 = .ok (.aload_n 3, 1) := by decide +kernel
theorem dX2_findBest_26 : decode cX2_findBest 26 = .ok (.aload_n 1, 1) := by decide +kernel
theorem dX2_findBest_27 : decode cX2_findBest 27 = .ok (.aload_n 0, 1) := by decide +kernel
theorem dX2_findBest_28 : decode cX2_findBest 28 = .ok (.getfield 15, 3) := by decide +kernel
theorem dX2_findBest_31 : decode cX2_findBest 31 = .ok (.iload 4, 2) := by decide +kernel
theorem dX2_findBest_33 : decode cX2_findBest 33 = .ok (.laload, 1) := by decide +kernel
theorem dX2_findBest_34 : decode cX2_findBest 34 = .ok (.invokevirtual 90, 3) := by decide +kernel
theorem dX2_findBest_37 : decode cX2_findBest 37 = .ok (.aload_n 2, 1) := by decide +kernel
theorem dX2_findBest_38 : decode cX2_findBest 38 = .ok (.aload_n 3, 1) := by decide +kernel
theorem dX2_findBest_39 : decode cX2_findBest 39 = .ok (.iconst 1, 1) := by decide +kernel
theorem dX2_findBest_40 : decode cX2_findBest 40 = .ok (.aload_n 1, 1) := by decide +kernel
theorem dX2_findBest_41 : decode cX2_findBest 41 = .ok (.getfield 94, 3) := by decide +kernel
theorem dX2_findBest_44 : decode cX2_findBest 44 = .ok (.ishl, 1) := by decide +kernel
theorem dX2_findBest_45 : decode cX2_findBest 45 = .ok (.iconst 1, 1) := by decide +kernel
theorem dX2_findBest_46 : decode cX2_findBest 46 = .ok (.isub, 1) := by decide +kernel
theorem dX2_findBest_47 : decode cX2_findBest 47 = .ok (.invokevirtual 97, 3) := by decide +kernel
theorem dX2_findBest_50 : decode cX2_findBest 50 = .ok (.invokestatic 103, 3) := by decide +kernel
theorem dX2_findBest_53 : decode cX2_findBest 53 = .ok (.istore 5, 2) := by decide +kernel
theorem dX2_findBest_55 : decode cX2_findBest 55 = .ok (.iload 5, 2) := by decide +kernel
theorem dX2_findBest_57 : decode cX2_findBest 57 = .ok (.aload_n 0, 1) := by decide +kernel
theorem dX2_findBest_58 : decode cX2_findBest 58 = .ok (.getfield 87, 3) := by decide +kernel
theorem dX2_findBest_61 : decode cX2_findBest 61 = .ok (.if_icmp .gt 23, 3) := by decide +kernel
theorem dX2_findBest_64 : decode cX2_findBest 64 = .ok (.iload 5, 2) := by decide +kernel
theorem dX2_findBest_66 : decode cX2_findBest 66 = .ok (.aload_n 0, 1) := by decide +kernel
theorem dX2_findBest_67 : decode cX2_findBest 67 = .ok (.getfield 87, 3) := by decide +kernel
theorem dX2_findBest_70 : decode cX2_findBest 70 = .ok (.if_icmp .ne 39, 3) := by decide +kernel
theorem dX2_findBest_73 : decode cX2_findBest 73 = .ok (.aload_n 3, 1) := by decide +kernel
theorem dX2_findBest_74 : decode cX2_findBest 74 = .ok (.getfield 108, 3) := by decide +kernel
theorem dX2_findBest_77 : decode cX2_findBest 77 = .ok (.aload_n 0, 1) := by decide +kernel
theorem dX2_findBest_78 : decode cX2_findBest 78 = .ok (.getfield 111, 3) := by decide +kernel
theorem dX2_findBest_81 : decode cX2_findBest 81 = .ok (.if_icmp .ge 28, 3) := by decide +kernel
theorem dX2_findBest_84 : decode cX2_findBest 84 = .ok (.aload_n 0, 1) := by decide +kernel
theorem dX2_findBest_85 : decode cX2_findBest 85 = .ok (.iload 5, 2) := by decide +kernel
theorem dX2_findBest_87 : decode cX2_findBest 87 = .ok (.putfield 87, 3) := by decide +kernel
theorem dX2_findBest_90 : decode cX2_findBest 90 = .ok (.aload_n 0, 1) := by decide +kernel
theorem dX2_findBest_91 : decode cX2_findBest 91 = .ok (.aload_n 3, 1) := by decide +kernel
theorem dX2_findBest_92 : decode cX2_findBest 92 = .ok (.getfield 108, 3) := by decide +kernel
theorem dX2_findBest_95 : decode cX2_findBest 95 = .ok (.putfield 111, 3) := by decide +kernel
theorem dX2_findBest_98 : decode cX2_findBest 98 = .ok (.aload_n 0, 1) := by decide +kernel
theorem dX2_findBest_99 : decode cX2_findBest 99 = .ok (.aload_n 0, 1) := by decide +kernel
theorem dX2_findBest_100 : decode cX2_findBest 100 = .ok (.getfield 9, 3) := by decide +kernel
theorem dX2_findBest_103 : decode cX2_findBest 103 = .ok (.iload 4, 2) := by decide +kernel
theorem dX2_findBest_105 : decode cX2_findBest 105 = .ok (.iaload, 1) := by decide +kernel
theorem dX2_findBest_106 : decode cX2_findBest 106 = .ok (.putfield 114, 3) := by decide +kernel
theorem dX2_findBest_109 : decode cX2_findBest 109 = .ok (.iinc 4 1, 3) := by decide +kernel
theorem dX2_findBest_112 : decode cX2_findBest 112 = .ok (.goto (-96), 3) := by decide +kernel
theorem dX2_findBest_115 : decode cX2_findBest 115 = .ok (.aload_n 0, 1) := by decide +kernel
theorem dX2_findBest_116 : decode cX2_findBest 116 = .ok (.iconst 1, 1) := by decide +kernel
theorem dX2_findBest_117 : decode cX2_findBest 117 = .ok (.putfield 32, 3) := by decide +kernel
theorem dX2_findBest_120 : decode cX2_findBest 120 = .ok (.return_, 1) := by decide +kernel
theorem dX3_init_0 : decode cX3_init 0 = .ok (.aload_n 0, 1) := by decide +kernel
theorem dX3_init_1 : decode cX3_init 1 = .ok (.invokespecial 3, 3) := by decide +kernel
theorem dX3_init_4 : decode cX3_init 4 = .ok (.aload_n 0, 1) := by decide +kernel
theorem dX3_init_5 : decode cX3_init 5 = .ok (.bipush 7, 2) := by decide +kernel
theorem dX3_init_7 : decode cX3_init 7 = .ok (.newarray .int, 2) := by decide +kernel
theorem dX3_init_9 : decode cX3_init 9 = .ok (.putfield 11, 3) := by decide +kernel
theorem dX3_init_12 : decode cX3_init 12 = .ok (.aload_n 0, 1) := by decide +kernel
theorem dX3_init_13 : decode cX3_init 13 = .ok (.bipush 64, 2) := by decide +kernel
theorem dX3_init_15 : decode cX3_init 15 = .ok (.newarray .int, 2) := by decide +kernel
theorem dX3_init_17 : decode cX3_init 17 = .ok (.putfield 15, 3) := by decide +kernel
theorem dX3_init_20 : decode cX3_init 20 = .ok (.aload_n 0, 1) := by decide +kernel
theorem dX3_init_21 : decode cX3_init 21 = .ok (.bipush 64, 2) := by decide +kernel
theorem dX3_init_23 : decode cX3_init 23 = .ok (.newarray .int, 2) := by decide +kernel
theorem dX3_init_25 : decode cX3_init 25 = .ok (.putfield 18, 3) := by decide +kernel
theorem dX3_init_28 : decode cX3_init 28 = .ok (.return_, 1) := by decide +kernel
theorem dX3_drop_0 : decode cX3_drop 0 = .ok (.aload_n 0, 1) := by decide +kernel
theorem dX3_drop_1 : decode cX3_drop 1 = .ok (.iconst 0, 1) := by decide +kernel
theorem dX3_drop_2 : decode cX3_drop 2 = .ok (.putfield 21, 3) := by decide +kernel
theorem dX3_drop_5 : decode cX3_drop 5 = .ok (.return_, 1) := by decide +kernel
theorem dX3_find_0 : decode cX3_find 0 = .ok (.aload_n 0, 1) := by decide +kernel
theorem dX3_find_1 : decode cX3_find 1 = .ok (.getfield 21, 3) := by decide +kernel
theorem dX3_find_4 : decode cX3_find 4 = .ok (.ifCond .ne 12, 3) := by decide +kernel
theorem dX3_find_7 : decode cX3_find 7 = .ok (.aload_n 1, 1) := by decide +kernel
theorem dX3_find_8 : decode cX3_find 8 = .ok (.getfield 25, 3) := by decide +kernel
theorem dX3_find_11 : decode cX3_find 11 = .ok (.bipush 7, 2) := by decide +kernel
theorem dX3_find_13 : decode cX3_find 13 = .ok (.if_icmp .le 4, 3) := by decide +kernel
theorem dX3_find_16 : decode cX3_find 16 = .ok (.return_, 1) := by decide +kernel
theorem dX3_find_17 : decode cX3_find 17 = .ok (.aload_n 0, 1) := by decide +kernel
theorem dX3_find_18 : decode cX3_find 18 = .ok (.aload_n 1, 1) := by decide +kernel
theorem dX3_find_19 : decode cX3_find 19 = .ok (.aload_n 2, 1) := by decide +kernel
theorem dX3_find_20 : decode cX3_find 20 = .ok (.invokevirtual 31, 3) := by decide +kernel
theorem dX3_find_23 : decode cX3_find 23 = .ok (.aload_n 0, 1) := by decide +kernel
theorem dX3_find_24 : decode cX3_find 24 = .ok (.getfield 11, 3) := by decide +kernel
theorem dX3_find_27 : decode cX3_find 27 = .ok (.invokestatic 35, 3) := by decide +kernel
theorem dX3_find_30 : decode cX3_find 30 = .ok (.aload_n 0, 1) := by decide +kernel
theorem dX3_find_31 : decode cX3_find 31 = .ok (.bipush 11, 2) := by decide +kernel
theorem dX3_find_33 : decode cX3_find 33 = .ok (.putfield 39, 3) := by decide +kernel
theorem dX3_find_36 : decode cX3_find 36 = .ok (.iconst 1, 1) := by decide +kernel
theorem dX3_find_37 : decode cX3_find 37 = .ok (.istore_n 3, 1) := by decide +kernel
theorem dX3_find_38 : decode cX3_find 38 = .ok (.iconst 0, 1) := by decide +kernel
theorem dX3_find_39 : decode cX3_find 39 = .ok (.istore 4, 2) := by decide +kernel
theorem dX3_find_41 : decode cX3_find 41 = .ok (.iload 4, 2) := by decide +kernel
theorem dX3_find_43 : decode cX3_find 43 = .ok (.sipush 5040, 3) := by decide +kernel
theorem dX3_find_46 : decode cX3_find 46 = .ok (.if_icmp .ge 98, 3) := by decide +kernel
theorem dX3_find_49 : decode cX3_find 49 = .ok (.iload_n 3, 1) := by decide +kernel
theorem dX3_find_50 : decode cX3_find 50 = .ok (.ifCond .eq 94, 3) := by decide +kernel
theorem dX3_find_53 : decode cX3_find 53 = .ok (.aload_n 0, 1) := by decide +kernel
theorem dX3_find_54 : decode cX3_find 54 = .ok (.aload_n 1, 1) := by decide +kernel
theorem dX3_find_55 : decode cX3_find 55 = .ok (.getfield 25, 3) := by decide +kernel
theorem dX3_find_58 : decode cX3_find 58 = .ok (.invokevirtual 42, 3) := by decide +kernel
theorem dX3_find_61 : decode cX3_find 61 = .ok (.aload_n 0, 1) := by decide +kernel
theorem dX3_find_62 : decode cX3_find 62 = .ok (.getfield 46, 3) := by decide +kernel
theorem dX3_find_65 : decode cX3_find 65 = .ok (.aload_n 0, 1) := by decide +kernel
theorem dX3_find_66 : decode cX3_find 66 = .ok (.getfield 39, 3) := by decide +kernel
theorem dX3_find_69 : decode cX3_find 69 = .ok (.if_icmp .lt 25, 3) := by decide +kernel
theorem dX3_find_72 : decode cX3_find 72 = .ok (.aload_n 0, 1) := by decide +kernel
theorem dX3_find_73 : decode cX3_find 73 = .ok (.getfield 46, 3) := by decide +kernel
theorem dX3_find_76 : decode cX3_find 76 = .ok (.aload_n 0, 1) := by decide +kernel
theorem dX3_find_77 : decode cX3_find 77 = .ok (.getfield 39, 3) := by decide +kernel
theorem dX3_find_80 : decode cX3_find 80 = .ok (.if_icmp .ne 46, 3) := by decide +kernel
theorem dX3_find_83 : decode cX3_find 83 = .ok (.aload_n 0, 1) := by decide +kernel
theorem dX3_find_84 : decode cX3_find 84 = .ok (.getfield 49, 3) := by decide +kernel
theorem dX3_find_87 : decode cX3_find 87 = .ok (.aload_n 0, 1) := by decide +kernel
theorem dX3_find_88 : decode cX3_find 88 = .ok (.getfield 52, 3) := by decide +kernel
theorem dX3_find_91 : decode cX3_find 91 = .ok (.if_icmp .ge 35, 3) := by decide +kernel
theorem dX3_find_94 : decode cX3_find 94 = .ok (.aload_n 0, 1) := by decide +kernel
theorem dX3_find_95 : decode cX3_find 95 = .ok (.aload_n 0, 1) := by decide +kernel
theorem dX3_find_96 : decode cX3_find 96 = .ok (.getfield 46, 3) := by decide +kernel
theorem dX3_find_99 : decode cX3_find 99 = .ok (.putfield 39, 3) := by decide +kernel
theorem dX3_find_102 : decode cX3_find 102 = .ok (.aload_n 0, 1) := by decide +kernel
theorem dX3_find_103 : decode cX3_find 103 = .ok (.aload_n 0, 1) := by decide +kernel
theorem dX3_find_104 : decode cX3_find 104 = .ok (.getfield 49, 3) := by decide +kernel
theorem dX3_find_107 : decode cX3_find 107 = .ok (.putfield 52, 3) := by decide +kernel
theorem dX3_find_110 : decode cX3_find 110 = .ok (.aload_n 0, 1) := by decide +kernel
theorem dX3_find_111 : decode cX3_find 111 = .ok (.aload_n 0, 1) := by decide +kernel
theorem dX3_find_112 : decode cX3_find 112 = .ok (.getfield 11, 3) := by decide +kernel
theorem dX3_find_115 : decode cX3_find 115 = .ok (.aload_n 1, 1) := by decide +kernel
theorem dX3_find_116 : decode cX3_find 116 = .ok (.getfield 25, 3) := by decide +kernel
theorem dX3_find_119 : decode cX3_find 119 = .ok (.iconst 4, 1) := by decide +kernel
theorem dX3_find_120 : decode cX3_find 120 = .ok (.invokestatic 55, 3) := by decide +kernel
theorem dX3_find_123 : decode cX3_find 123 = .ok (.putfield 59, 3) := by decide +kernel
theorem dX3_find_126 : decode cX3_find 126 = .ok (.aload_n 0, 1) := by decide +kernel
theorem dX3_find_127 : decode cX3_find 127 = .ok (.getfield 11, 3) := by decide +kernel
theorem dX3_find_130 : decode cX3_find 130 = .ok (.aload_n 1, 1) := by decide +kernel
theorem dX3_find_131 : decode cX3_find 131 = .ok (.getfield 25, 3) := by decide +kernel
theorem dX3_find_134 : decode cX3_find 134 = .ok (.invokestatic 63, 3) := by decide +kernel
theorem dX3_find_137 : decode cX3_find 137 = .ok (.istore_n 3, 1) := by decide +kernel
theorem dX3_find_138 : decode cX3_find 138 = .ok (.iinc 4 1, 3) := by decide +kernel
theorem dX3_find_141 : decode cX3_find 141 = .ok (.goto (-100), 3) := by decide +kernel
theorem dX3_find_144 : decode cX3_find 144 = .ok (.aload_n 0, 1) := by decide +kernel
theorem dX3_find_145 : decode cX3_find 145 = .ok (.iconst 1, 1) := by decide +kernel
theorem dX3_find_146 : decode cX3_find 146 = .ok (.putfield 21, 3) := by decide +kernel
theorem dX3_find_149 : decode cX3_find 149 = .ok (.return_, 1) := by decide +kernel
theorem dX3_gatherUps_0 : decode cX3_gatherUps 0 = .ok (.aload_n 0, 1) := by decide +kernel
theorem dX3_gatherUps_1 : decode cX3_gatherUps 1 = .ok (.iconst 0, 1) := by decide +kernel
theorem dX3_gatherUps_2 : decode cX3_gatherUps 2 = .ok (.putfield 67, 3) := by decide +kernel
theorem dX3_gatherUps_5 : decode cX3_gatherUps 5 = .ok (.iconst 0, 1) := by decide +kernel
theorem dX3_gatherUps_6 : decode cX3_gatherUps 6 = .ok (.istore_n 3, 1) := by decide +kernel
theorem dX3_gatherUps_7 : decode cX3_gatherUps 7 = .ok (.iload_n 3, 1) := by decide +kernel
theorem dX3_gatherUps_8 : decode cX3_gatherUps 8 = .ok (.aload_n 2, 1) := by decide +kernel
theorem dX3_gatherUps_9 : decode cX3_gatherUps 9 = .ok (.getfield 70, 3) := by decide +kernel
theorem dX3_gatherUps_12 : decode cX3_gatherUps 12 = .ok (.if_icmp .ge 113, 3) := by decide +kernel
theorem dX3_gatherUps_15 : decode cX3_gatherUps 15 = .ok (.aload_n 1, 1) := by decide +kernel
theorem dX3_gatherUps_16 : decode cX3_gatherUps 16 = .ok (.aload_n 2, 1) := by decide +kernel
theorem dX3_gatherUps_17 : decode cX3_gatherUps 17 = .ok (.iload_n 3, 1) := by decide +kernel
theorem dX3_gatherUps_18 : decode cX3_gatherUps 18 = .ok (.invokevirtual 75, 3) := by decide +kernel
theorem dX3_gatherUps_21 : decode cX3_gatherUps 21 = .ok (.invokevirtual 79, 3) := by decide +kernel
theorem dX3_gatherUps_24 : decode cX3_gatherUps 24 = .ok (.istore 4, 2) := by decide +kernel
theorem dX3_gatherUps_26 : decode cX3_gatherUps 26 = .ok (.iconst 0, 1) := by decide +kernel
theorem dX3_gatherUps_27 : decode cX3_gatherUps 27 = .ok (.istore 5, 2) := by decide +kernel
theorem dX3_gatherUps_29 : decode cX3_gatherUps 29 = .ok (.iload 5, 2) := by decide +kernel
theorem dX3_gatherUps_31 : decode cX3_gatherUps 31 = .ok (.aload_n 0, 1) := by decide +kernel
theorem dX3_gatherUps_32 : decode cX3_gatherUps 32 = .ok (.getfield 67, 3) := by decide +kernel
theorem dX3_gatherUps_35 : decode cX3_gatherUps 35 = .ok (.if_icmp .ge 21, 3) := by decide +kernel
theorem dX3_gatherUps_38 : decode cX3_gatherUps 38 = .ok (.aload_n 0, 1) := by decide +kernel
theorem dX3_gatherUps_39 : decode cX3_gatherUps 39 = .ok (.getfield 15, 3) := by decide +kernel
theorem dX3_gatherUps_42 : decode cX3_gatherUps 42 = .ok (.iload 5, 2) := by decide +kernel
theorem dX3_gatherUps_44 : decode cX3_gatherUps 44 = .ok (.iaload, 1) := by decide +kernel
theorem dX3_gatherUps_45 : decode cX3_gatherUps 45 = .ok (.iload 4, 2) := by decide +kernel
theorem dX3_gatherUps_47 : decode cX3_gatherUps 47 = .ok (.if_icmp .eq 9, 3) := by decide +kernel
theorem dX3_gatherUps_50 : decode cX3_gatherUps 50 = .ok (.iinc 5 1, 3) := by decide +kernel
theorem dX3_gatherUps_53 : decode cX3_gatherUps 53 = .ok (.goto (-24), 3) := by decide +kernel
theorem dX3_gatherUps_56 : decode cX3_gatherUps 56 = .ok (.iload 5, 2) := by decide +kernel
theorem dX3_gatherUps_58 : decode cX3_gatherUps 58 = .ok (.aload_n 0, 1) := by decide +kernel
theorem dX3_gatherUps_59 : decode cX3_gatherUps 59 = .ok (.getfield 67, 3) := by decide +kernel
theorem dX3_gatherUps_62 : decode cX3_gatherUps 62 = .ok (.if_icmp .ge 17, 3) := by decide +kernel
theorem dX3_gatherUps_65 : decode cX3_gatherUps 65 = .ok (.aload_n 0, 1) := by decide +kernel
theorem dX3_gatherUps_66 : decode cX3_gatherUps 66 = .ok (.getfield 18, 3) := by decide +kernel
theorem dX3_gatherUps_69 : decode cX3_gatherUps 69 = .ok (.iload 5, 2) := by decide +kernel
theorem dX3_gatherUps_71 : decode cX3_gatherUps 71 = .ok (.dup2, 1) := by decide +kernel
theorem dX3_gatherUps_72 : decode cX3_gatherUps 72 = .ok (.iaload, 1) := by decide +kernel
theorem dX3_gatherUps_73 : decode cX3_gatherUps 73 = .ok (.iconst 1, 1) := by decide +kernel
theorem dX3_gatherUps_74 : decode cX3_gatherUps 74 = .ok (.iadd, 1) := by decide +kernel
theorem dX3_gatherUps_75 : decode cX3_gatherUps 75 = .ok (.iastore, 1) := by decide +kernel
theorem dX3_gatherUps_76 : decode cX3_gatherUps 76 = .ok (.goto 43, 3) := by decide +kernel
theorem dX3_gatherUps_79 : decode cX3_gatherUps 79 = .ok (.aload_n 0, 1) := by decide +kernel
theorem dX3_gatherUps_80 : decode cX3_gatherUps 80 = .ok (.getfield 67, 3) := by decide +kernel
theorem dX3_gatherUps_83 : decode cX3_gatherUps 83 = .ok (.bipush 63, 2) := by decide +kernel
theorem dX3_gatherUps_85 : decode cX3_gatherUps 85 = .ok (.if_icmp .gt 34, 3) := by decide +kernel
theorem dX3_gatherUps_88 : decode cX3_gatherUps 88 = .ok (.aload_n 0, 1) := by decide +kernel
theorem dX3_gatherUps_89 : decode cX3_gatherUps 89 = .ok (.getfield 15, 3) := by decide +kernel
theorem dX3_gatherUps_92 : decode cX3_gatherUps 92 = .ok (.aload_n 0, 1) := by decide +kernel
theorem dX3_gatherUps_93 : decode cX3_gatherUps 93 = .ok (.getfield 67, 3) := by decide +kernel
theorem dX3_gatherUps_96 : decode cX3_gatherUps 96 = .ok (.iload 4, 2) := by decide +kernel
theorem dX3_gatherUps_98 : decode cX3_gatherUps 98 = .ok (.iastore, 1) := by decide +kernel
theorem dX3_gatherUps_99 : decode cX3_gatherUps 99 = .ok (.aload_n 0, 1) := by decide +kernel
theorem dX3_gatherUps_100 : decode cX3_gatherUps 100 = .ok (.getfield 18, 3) := by decide +kernel
theorem dX3_gatherUps_103 : decode cX3_gatherUps 103 = .ok (.aload_n 0, 1) := by decide +kernel
theorem dX3_gatherUps_104 : decode cX3_gatherUps 104 = .ok (.getfield 67, 3) := by decide +kernel
theorem dX3_gatherUps_107 : decode cX3_gatherUps 107 = .ok (.iconst 1, 1) := by decide +kernel
theorem dX3_gatherUps_108 : decode cX3_gatherUps 108 = .ok (.iastore, 1) := by decide +kernel
theorem dX3_gatherUps_109 : decode cX3_gatherUps 109 = .ok (.aload_n 0, 1) := by decide +kernel
theorem dX3_gatherUps_110 : decode cX3_gatherUps 110 = .ok (.dup, 1) := by decide +kernel
theorem dX3_gatherUps_111 : decode cX3_gatherUps 111 = .ok (.getfield 67, 3) := by decide +kernel
theorem dX3_gatherUps_114 : decode cX3_gatherUps 114 = .ok (.iconst 1, 1) := by decide +kernel
theorem dX3_gatherUps_115 : decode cX3_gatherUps 115 = .ok (.iadd, 1) := by decide +kernel
theorem dX3_gatherUps_116 : decode cX3_gatherUps 116 = .ok (.putfield 67, 3) := by decide +kernel
theorem dX3_gatherUps_119 : decode cX3_gatherUps 119 = .ok (.iinc 3 1, 3) := by decide +kernel
theorem dX3_gatherUps_122 : decode cX3_gatherUps 122 = .ok (.goto (-115), 3) := by decide +kernel
theorem dX3_gatherUps_125 : decode cX3_gatherUps 125 = .ok (.return_, 1) := by decide +kernel
theorem dX3_measure_0 : decode cX3_measure 0 = .ok (.aload_n 0, 1) := by decide +kernel
theorem dX3_measure_1 : decode cX3_measure 1 = .ok (.iconst 0, 1) := by decide +kernel
theorem dX3_measure_2 : decode cX3_measure 2 = .ok (.putfield 46, 3) := by decide +kernel
theorem dX3_measure_5 : decode cX3_measure 5 = .ok (.aload_n 0, 1) := by decide +kernel
theorem dX3_measure_6 : decode cX3_measure 6 = .ok (.iconst 0, 1) := by decide +kernel
theorem dX3_measure_7 : decode cX3_measure 7 = .ok (.putfield 49, 3) := by decide +kernel
theorem dX3_measure_10 : decode cX3_measure 10 = .ok (.iconst 0, 1) := by decide +kernel
theorem dX3_measure_11 : decode cX3_measure 11 = .ok (.istore_n 2, 1) := by decide +kernel
theorem dX3_measure_12 : decode cX3_measure 12 = .ok (.iload_n 2, 1) := by decide +kernel
theorem dX3_measure_13 : decode cX3_measure 13 = .ok (.aload_n 0, 1) := by decide +kernel
theorem dX3_measure_14 : decode cX3_measure 14 = .ok (.getfield 67, 3) := by decide +kernel
theorem dX3_measure_17 : decode cX3_measure 17 = .ok (.if_icmp .ge 109, 3) := by decide +kernel
theorem dX3_measure_20 : decode cX3_measure 20 = .ok (.aload_n 0, 1) := by decide +kernel
theorem dX3_measure_21 : decode cX3_measure 21 = .ok (.getfield 46, 3) := by decide +kernel
theorem dX3_measure_24 : decode cX3_measure 24 = .ok (.aload_n 0, 1) := by decide +kernel
theorem dX3_measure_25 : decode cX3_measure 25 = .ok (.getfield 39, 3) := by decide +kernel
theorem dX3_measure_28 : decode cX3_measure 28 = .ok (.if_icmp .gt 98, 3) := by decide +kernel
theorem dX3_measure_31 : decode cX3_measure 31 = .ok (.iconst 0, 1) := by decide +kernel
theorem dX3_measure_32 : decode cX3_measure 32 = .ok (.istore_n 3, 1) := by decide +kernel
theorem dX3_measure_33 : decode cX3_measure 33 = .ok (.iconst 0, 1) := by decide +kernel
theorem dX3_measure_34 : decode cX3_measure 34 = .ok (.istore 4, 2) := by decide +kernel
theorem dX3_measure_36 : decode cX3_measure 36 = .ok (.iload 4, 2) := by decide +kernel
theorem dX3_measure_38 : decode cX3_measure 38 = .ok (.iload_n 1, 1) := by decide +kernel
theorem dX3_measure_39 : decode cX3_measure 39 = .ok (.if_icmp .ge 31, 3) := by decide +kernel
theorem dX3_measure_42 : decode cX3_measure 42 = .ok (.iload_n 3, 1) := by decide +kernel
theorem dX3_measure_43 : decode cX3_measure 43 = .ok (.aload_n 0, 1) := by decide +kernel
theorem dX3_measure_44 : decode cX3_measure 44 = .ok (.getfield 15, 3) := by decide +kernel
theorem dX3_measure_47 : decode cX3_measure 47 = .ok (.iload_n 2, 1) := by decide +kernel
theorem dX3_measure_48 : decode cX3_measure 48 = .ok (.iaload, 1) := by decide +kernel
theorem dX3_measure_49 : decode cX3_measure 49 = .ok (.aload_n 0, 1) := by decide +kernel
theorem dX3_measure_50 : decode cX3_measure 50 = .ok (.getfield 11, 3) := by decide +kernel
theorem dX3_measure_53 : decode cX3_measure 53 = .ok (.iload 4, 2) := by decide +kernel
theorem dX3_measure_55 : decode cX3_measure 55 = .ok (.iaload, 1) := by decide +kernel
theorem dX3_measure_56 : decode cX3_measure 56 = .ok (.ishr, 1) := by decide +kernel
theorem dX3_measure_57 : decode cX3_measure 57 = .ok (.iconst 1, 1) := by decide +kernel
theorem dX3_measure_58 : decode cX3_measure 58 = .ok (.iand, 1) := by decide +kernel
theorem dX3_measure_59 : decode cX3_measure 59 = .ok (.iload 4, 2) := by decide +kernel
theorem dX3_measure_61 : decode cX3_measure 61 = .ok (.ishl, 1) := by decide +kernel
theorem dX3_measure_62 : decode cX3_measure 62 = .ok (.ior, 1) := by decide +kernel
theorem dX3_measure_63 : decode cX3_measure 63 = .ok (.istore_n 3, 1) := by decide +kernel
theorem dX3_measure_64 : decode cX3_measure 64 = .ok (.iinc 4 1, 3) := by decide +kernel
theorem dX3_measure_67 : decode cX3_measure 67 = .ok (.goto (-31), 3) := by decide +kernel
theorem dX3_measure_70 : decode cX3_measure 70 = .ok (.aload_n 0, 1) := by decide +kernel
theorem dX3_measure_71 : decode cX3_measure 71 = .ok (.aload_n 0, 1) := by decide +kernel
theorem dX3_measure_72 : decode cX3_measure 72 = .ok (.getfield 46, 3) := by decide +kernel
theorem dX3_measure_75 : decode cX3_measure 75 = .ok (.iload_n 3, 1) := by decide +kernel
theorem dX3_measure_76 : decode cX3_measure 76 = .ok (.invokestatic 82, 3) := by decide +kernel
theorem dX3_measure_79 : decode cX3_measure 79 = .ok (.invokestatic 85, 3) := by decide +kernel
theorem dX3_measure_82 : decode cX3_measure 82 = .ok (.putfield 46, 3) := by decide +kernel
theorem dX3_measure_85 : decode cX3_measure 85 = .ok (.iload_n 3, 1) := by decide +kernel
theorem dX3_measure_86 : decode cX3_measure 86 = .ok (.iload_n 3, 1) := by decide +kernel
theorem dX3_measure_87 : decode cX3_measure 87 = .ok (.iconst 1, 1) := by decide +kernel
theorem dX3_measure_88 : decode cX3_measure 88 = .ok (.ishl, 1) := by decide +kernel
theorem dX3_measure_89 : decode cX3_measure 89 = .ok (.iand, 1) := by decide +kernel
theorem dX3_measure_90 : decode cX3_measure 90 = .ok (.istore 4, 2) := by decide +kernel
theorem dX3_measure_92 : decode cX3_measure 92 = .ok (.aload_n 0, 1) := by decide +kernel
theorem dX3_measure_93 : decode cX3_measure 93 = .ok (.dup, 1) := by decide +kernel
theorem dX3_measure_94 : decode cX3_measure 94 = .ok (.getfield 49, 3) := by decide +kernel
theorem dX3_measure_97 : decode cX3_measure 97 = .ok (.aload_n 0, 1) := by decide +kernel
theorem dX3_measure_98 : decode cX3_measure 98 = .ok (.getfield 18, 3) := by decide +kernel
theorem dX3_measure_101 : decode cX3_measure 101 = .ok (.iload_n 2, 1) := by decide +kernel
theorem dX3_measure_102 : decode cX3_measure 102 = .ok (.iaload, 1) := by decide +kernel
theorem dX3_measure_103 : decode cX3_measure 103 = .ok (.iload 4, 2) := by decide +kernel
theorem dX3_measure_105 : decode cX3_measure 105 = .ok (.iload 4, 2) := by decide +kernel
theorem dX3_measure_107 : decode cX3_measure 107 = .ok (.iconst 1, 1) := by decide +kernel
theorem dX3_measure_108 : decode cX3_measure 108 = .ok (.ishl, 1) := by decide +kernel
theorem dX3_measure_109 : decode cX3_measure 109 = .ok (.iconst (-1), 1) := by decide +kernel
theorem dX3_measure_110 : decode cX3_measure 110 = .ok (.ixor, 1) := by decide +kernel
theorem dX3_measure_111 : decode cX3_measure 111 = .ok (.iand, 1) := by decide +kernel
theorem dX3_measure_112 : decode cX3_measure 112 = .ok (.invokestatic 91, 3) := by decide +kernel
theorem dX3_measure_115 : decode cX3_measure 115 = .ok (.imul, 1) := by decide +kernel
theorem dX3_measure_116 : decode cX3_measure 116 = .ok (.iadd, 1) := by decide +kernel
theorem dX3_measure_117 : decode cX3_measure 117 = .ok (.putfield 49, 3) := by decide +kernel
theorem dX3_measure_120 : decode cX3_measure 120 = .ok (.iinc 2 1, 3) := by decide +kernel
theorem dX3_measure_123 : decode cX3_measure 123 = .ok (.goto (-111), 3) := by decide +kernel
theorem dX3_measure_126 : decode cX3_measure 126 = .ok (.return_, 1) := by decide +kernel
theorem dX4_init_0 : decode cX4_init 0 = .ok (.aload_n 0, 1) := by decide +kernel
theorem dX4_init_1 : decode cX4_init 1 = .ok (.invokespecial 3, 3) := by decide +kernel
theorem dX4_init_4 : decode cX4_init 4 = .ok (.aload_n 0, 1) := by decide +kernel
theorem dX4_init_5 : decode cX4_init 5 = .ok (.bipush 7, 2) := by decide +kernel
theorem dX4_init_7 : decode cX4_init 7 = .ok (.newarray .int, 2) := by decide +kernel
theorem dX4_init_9 : decode cX4_init 9 = .ok (.putfield 9, 3) := by decide +kernel
theorem dX4_init_12 : decode cX4_init 12 = .ok (.return_, 1) := by decide +kernel
theorem dX4_drawDocket_0 : decode cX4_drawDocket 0 = .ok (.aload_n 0, 1) := by decide +kernel
theorem dX4_drawDocket_1 : decode cX4_drawDocket 1 = .ok (.getfield 9, 3) := by decide +kernel
theorem dX4_drawDocket_4 : decode cX4_drawDocket 4 = .ok (.invokestatic 15, 3) := by decide +kernel
theorem dX4_drawDocket_7 : decode cX4_drawDocket 7 = .ok (.iconst 0, 1) := by decide +kernel
theorem dX4_drawDocket_8 : decode cX4_drawDocket 8 = .ok (.istore_n 3, 1) := by decide +kernel
theorem dX4_drawDocket_9 : decode cX4_drawDocket 9 = .ok (.iload_n 3, 1) := by decide +kernel
theorem dX4_drawDocket_10 : decode cX4_drawDocket 10 = .ok (.iload_n 2, 1) := by decide +kernel
theorem dX4_drawDocket_11 : decode cX4_drawDocket 11 = .ok (.if_icmp .ge 53, 3) := by decide +kernel
theorem dX4_drawDocket_14 : decode cX4_drawDocket 14 = .ok (.aload_n 0, 1) := by decide +kernel
theorem dX4_drawDocket_15 : decode cX4_drawDocket 15 = .ok (.iload_n 2, 1) := by decide +kernel
theorem dX4_drawDocket_16 : decode cX4_drawDocket 16 = .ok (.iload_n 3, 1) := by decide +kernel
theorem dX4_drawDocket_17 : decode cX4_drawDocket 17 = .ok (.isub, 1) := by decide +kernel
theorem dX4_drawDocket_18 : decode cX4_drawDocket 18 = .ok (.invokevirtual 19, 3) := by decide +kernel
theorem dX4_drawDocket_21 : decode cX4_drawDocket 21 = .ok (.istore 4, 2) := by decide +kernel
theorem dX4_drawDocket_23 : decode cX4_drawDocket 23 = .ok (.aload_n 1, 1) := by decide +kernel
theorem dX4_drawDocket_24 : decode cX4_drawDocket 24 = .ok (.iload_n 3, 1) := by decide +kernel
theorem dX4_drawDocket_25 : decode cX4_drawDocket 25 = .ok (.aload_n 0, 1) := by decide +kernel
theorem dX4_drawDocket_26 : decode cX4_drawDocket 26 = .ok (.getfield 9, 3) := by decide +kernel
theorem dX4_drawDocket_29 : decode cX4_drawDocket 29 = .ok (.iload 4, 2) := by decide +kernel
theorem dX4_drawDocket_31 : decode cX4_drawDocket 31 = .ok (.iaload, 1) := by decide +kernel
theorem dX4_drawDocket_32 : decode cX4_drawDocket 32 = .ok (.iastore, 1) := by decide +kernel
theorem dX4_drawDocket_33 : decode cX4_drawDocket 33 = .ok (.aload_n 0, 1) := by decide +kernel
theorem dX4_drawDocket_34 : decode cX4_drawDocket 34 = .ok (.getfield 9, 3) := by decide +kernel
theorem dX4_drawDocket_37 : decode cX4_drawDocket 37 = .ok (.iload 4, 2) := by decide +kernel
theorem dX4_drawDocket_39 : decode cX4_drawDocket 39 = .ok (.iconst 1, 1) := by decide +kernel
theorem dX4_drawDocket_40 : decode cX4_drawDocket 40 = .ok (.iadd, 1) := by decide +kernel
theorem dX4_drawDocket_41 : decode cX4_drawDocket 41 = .ok (.aload_n 0, 1) := by decide +kernel
theorem dX4_drawDocket_42 : decode cX4_drawDocket 42 = .ok (.getfield 9, 3) := by decide +kernel
theorem dX4_drawDocket_45 : decode cX4_drawDocket 45 = .ok (.iload 4, 2) := by decide +kernel
theorem dX4_drawDocket_47 : decode cX4_drawDocket 47 = .ok (.iload_n 2, 1) := by decide +kernel
theorem dX4_drawDocket_48 : decode cX4_drawDocket 48 = .ok (.iload_n 3, 1) := by decide +kernel
theorem dX4_drawDocket_49 : decode cX4_drawDocket 49 = .ok (.isub, 1) := by decide +kernel
theorem dX4_drawDocket_50 : decode cX4_drawDocket 50 = .ok (.iload 4, 2) := by decide +kernel
theorem dX4_drawDocket_52 : decode cX4_drawDocket 52 = .ok (.isub, 1) := by decide +kernel
theorem dX4_drawDocket_53 : decode cX4_drawDocket 53 = .ok (.iconst 1, 1) := by decide +kernel
theorem dX4_drawDocket_54 : decode cX4_drawDocket 54 = .ok (.isub, 1) := by decide +kernel
theorem dX4_drawDocket_55 : decode cX4_drawDocket 55 = .ok (.invokestatic 23, 3) := by decide +kernel
theorem dX4_drawDocket_58 : decode cX4_drawDocket 58 = .ok (.iinc 3 1, 3) := by decide +kernel
theorem dX4_drawDocket_61 : decode cX4_drawDocket 61 = .ok (.goto (-52), 3) := by decide +kernel
theorem dX4_drawDocket_64 : decode cX4_drawDocket 64 = .ok (.return_, 1) := by decide +kernel
theorem dX4_draw_0 : decode cX4_draw 0 = .ok (.aload_n 0, 1) := by decide +kernel
theorem dX4_draw_1 : decode cX4_draw 1 = .ok (.aload_n 0, 1) := by decide +kernel
theorem dX4_draw_2 : decode cX4_draw 2 = .ok (.getfield 29, 3) := by decide +kernel
theorem dX4_draw_5 : decode cX4_draw 5 = .ok (.ldc 33, 2) := by decide +kernel
theorem dX4_draw_7 : decode cX4_draw 7 = .ok (.imul, 1) := by decide +kernel
theorem dX4_draw_8 : decode cX4_draw 8 = .ok (.sipush 12345, 3) := by decide +kernel
theorem dX4_draw_11 : decode cX4_draw 11 = .ok (.iadd, 1) := by decide +kernel
theorem dX4_draw_12 : decode cX4_draw 12 = .ok (.putfield 29, 3) := by decide +kernel
theorem dX4_draw_15 : decode cX4_draw 15 = .ok (.iload_n 1, 1) := by decide +kernel
theorem dX4_draw_16 : decode cX4_draw 16 = .ok (.ifCond .le 19, 3) := by decide +kernel
theorem dX4_draw_19 : decode cX4_draw 19 = .ok (.aload_n 0, 1) := by decide +kernel
theorem dX4_draw_20 : decode cX4_draw 20 = .ok (.getfield 29, 3) := by decide +kernel
theorem dX4_draw_23 : decode cX4_draw 23 = .ok (.bipush 16, 2) := by decide +kernel
theorem dX4_draw_25 : decode cX4_draw 25 = .ok (.iushr, 1) := by decide +kernel
theorem dX4_draw_26 : decode cX4_draw 26 = .ok (.sipush 32767, 3) := by decide +kernel
theorem dX4_draw_29 : decode cX4_draw 29 = .ok (.iand, 1) := by decide +kernel
theorem dX4_draw_30 : decode cX4_draw 30 = .ok (.iload_n 1, 1) := by decide +kernel
theorem dX4_draw_31 : decode cX4_draw 31 = .ok (.irem, 1) := by decide +kernel
theorem dX4_draw_32 : decode cX4_draw 32 = .ok (.goto 4, 3) := by decide +kernel
theorem dX4_draw_35 : decode cX4_draw 35 = .ok (.iconst 0, 1) := by decide +kernel
theorem dX4_draw_36 : decode cX4_draw 36 = .ok (.ireturn, 1) := by decide +kernel
theorem dX5_init_0 : decode cX5_init 0 = .ok (.aload_n 0, 1) := by decide +kernel
theorem dX5_init_1 : decode cX5_init 1 = .ok (.invokespecial 3, 3) := by decide +kernel
theorem dX5_init_4 : decode cX5_init 4 = .ok (.aload_n 0, 1) := by decide +kernel
theorem dX5_init_5 : decode cX5_init 5 = .ok (.bipush 121, 2) := by decide +kernel
theorem dX5_init_7 : decode cX5_init 7 = .ok (.newarray .int, 2) := by decide +kernel
theorem dX5_init_9 : decode cX5_init 9 = .ok (.putfield 11, 3) := by decide +kernel
theorem dX5_init_12 : decode cX5_init 12 = .ok (.aload_n 0, 1) := by decide +kernel
theorem dX5_init_13 : decode cX5_init 13 = .ok (.bipush 121, 2) := by decide +kernel
theorem dX5_init_15 : decode cX5_init 15 = .ok (.newarray .int, 2) := by decide +kernel
theorem dX5_init_17 : decode cX5_init 17 = .ok (.putfield 15, 3) := by decide +kernel
theorem dX5_init_20 : decode cX5_init 20 = .ok (.aload_n 0, 1) := by decide +kernel
theorem dX5_init_21 : decode cX5_init 21 = .ok (.bipush 11, 2) := by decide +kernel
theorem dX5_init_23 : decode cX5_init 23 = .ok (.newarray .int, 2) := by decide +kernel
theorem dX5_init_25 : decode cX5_init 25 = .ok (.putfield 18, 3) := by decide +kernel
theorem dX5_init_28 : decode cX5_init 28 = .ok (.aload_n 0, 1) := by decide +kernel
theorem dX5_init_29 : decode cX5_init 29 = .ok (.bipush 11, 2) := by decide +kernel
theorem dX5_init_31 : decode cX5_init 31 = .ok (.newarray .int, 2) := by decide +kernel
theorem dX5_init_33 : decode cX5_init 33 = .ok (.putfield 21, 3) := by decide +kernel
theorem dX5_init_36 : decode cX5_init 36 = .ok (.aload_n 0, 1) := by decide +kernel
theorem dX5_init_37 : decode cX5_init 37 = .ok (.aload_n 1, 1) := by decide +kernel
theorem dX5_init_38 : decode cX5_init 38 = .ok (.putfield 24, 3) := by decide +kernel
theorem dX5_init_41 : decode cX5_init 41 = .ok (.return_, 1) := by decide +kernel
theorem dX5_bringForth_0 : decode cX5_bringForth 0 = .ok (.aload_n 0, 1) := by decide +kernel
theorem dX5_bringForth_1 : decode cX5_bringForth 1 = .ok (.aload_n 1, 1) := by decide +kernel
theorem dX5_bringForth_2 : decode cX5_bringForth 2 = .ok (.getfield 28, 3) := by decide +kernel
theorem dX5_bringForth_5 : decode cX5_bringForth 5 = .ok (.iconst 1, 1) := by decide +kernel
theorem dX5_bringForth_6 : decode cX5_bringForth 6 = .ok (.iadd, 1) := by decide +kernel
theorem dX5_bringForth_7 : decode cX5_bringForth 7 = .ok (.putfield 34, 3) := by decide +kernel
theorem dX5_bringForth_10 : decode cX5_bringForth 10 = .ok (.aload_n 0, 1) := by decide +kernel
theorem dX5_bringForth_11 : decode cX5_bringForth 11 = .ok (.aload_n 1, 1) := by decide +kernel
theorem dX5_bringForth_12 : decode cX5_bringForth 12 = .ok (.aload_n 2, 1) := by decide +kernel
theorem dX5_bringForth_13 : decode cX5_bringForth 13 = .ok (.iload_n 3, 1) := by decide +kernel
theorem dX5_bringForth_14 : decode cX5_bringForth 14 = .ok (.invokevirtual 37, 3) := by decide +kernel
theorem dX5_bringForth_17 : decode cX5_bringForth 17 = .ok (.invokevirtual 43, 3) := by decide +kernel
theorem dX5_bringForth_20 : decode cX5_bringForth 20 = .ok (.putfield 46, 3) := by decide +kernel
theorem dX5_bringForth_23 : decode cX5_bringForth 23 = .ok (.aload_n 0, 1) := by decide +kernel
theorem dX5_bringForth_24 : decode cX5_bringForth 24 = .ok (.aload_n 2, 1) := by decide +kernel
theorem dX5_bringForth_25 : decode cX5_bringForth 25 = .ok (.iload_n 3, 1) := by decide +kernel
theorem dX5_bringForth_26 : decode cX5_bringForth 26 = .ok (.invokevirtual 49, 3) := by decide +kernel
theorem dX5_bringForth_29 : decode cX5_bringForth 29 = .ok (.putfield 52, 3) := by decide +kernel
theorem dX5_bringForth_32 : decode cX5_bringForth 32 = .ok (.aload_n 0, 1) := by decide +kernel
theorem dX5_bringForth_33 : decode cX5_bringForth 33 = .ok (.aload_n 1, 1) := by decide +kernel
theorem dX5_bringForth_34 : decode cX5_bringForth 34 = .ok (.iload_n 3, 1) := by decide +kernel
theorem dX5_bringForth_35 : decode cX5_bringForth 35 = .ok (.invokevirtual 55, 3) := by decide +kernel
theorem dX5_bringForth_38 : decode cX5_bringForth 38 = .ok (.putfield 59, 3) := by decide +kernel
theorem dX5_bringForth_41 : decode cX5_bringForth 41 = .ok (.return_, 1) := by decide +kernel
theorem dX5_weighAll_0 : decode cX5_weighAll 0 = .ok (.aload_n 0, 1) := by decide +kernel
theorem dX5_weighAll_1 : decode cX5_weighAll 1 = .ok (.getfield 18, 3) := by decide +kernel
theorem dX5_weighAll_4 : decode cX5_weighAll 4 = .ok (.iconst (-1), 1) := by decide +kernel
theorem dX5_weighAll_5 : decode cX5_weighAll 5 = .ok (.invokestatic 63, 3) := by decide +kernel
theorem dX5_weighAll_8 : decode cX5_weighAll 8 = .ok (.aload_n 0, 1) := by decide +kernel
theorem dX5_weighAll_9 : decode cX5_weighAll 9 = .ok (.getfield 21, 3) := by decide +kernel
theorem dX5_weighAll_12 : decode cX5_weighAll 12 = .ok (.iconst (-1), 1) := by decide +kernel
theorem dX5_weighAll_13 : decode cX5_weighAll 13 = .ok (.invokestatic 63, 3) := by decide +kernel
theorem dX5_weighAll_16 : decode cX5_weighAll 16 = .ok (.iconst 0, 1) := by decide +kernel
theorem dX5_weighAll_17 : decode cX5_weighAll 17 = .ok (.istore_n 3, 1) := by decide +kernel
theorem dX5_weighAll_18 : decode cX5_weighAll 18 = .ok (.iload_n 3, 1) := by decide +kernel
theorem dX5_weighAll_19 : decode cX5_weighAll 19 = .ok (.aload_n 0, 1) := by decide +kernel
theorem dX5_weighAll_20 : decode cX5_weighAll 20 = .ok (.getfield 34, 3) := by decide +kernel
theorem dX5_weighAll_23 : decode cX5_weighAll 23 = .ok (.if_icmp .ge 99, 3) := by decide +kernel
theorem dX5_weighAll_26 : decode cX5_weighAll 26 = .ok (.iconst 0, 1) := by decide +kernel
theorem dX5_weighAll_27 : decode cX5_weighAll 27 = .ok (.istore 4, 2) := by decide +kernel
theorem dX5_weighAll_29 : decode cX5_weighAll 29 = .ok (.iload 4, 2) := by decide +kernel
theorem dX5_weighAll_31 : decode cX5_weighAll 31 = .ok (.aload_n 0, 1) := by decide +kernel
theorem dX5_weighAll_32 : decode cX5_weighAll 32 = .ok (.getfield 34, 3) := by decide +kernel
theorem dX5_weighAll_35 : decode cX5_weighAll 35 = .ok (.if_icmp .ge 81, 3) := by decide +kernel
theorem dX5_weighAll_38 : decode cX5_weighAll 38 = .ok (.iload_n 3, 1) := by decide +kernel
theorem dX5_weighAll_39 : decode cX5_weighAll 39 = .ok (.bipush 11, 2) := by decide +kernel
theorem dX5_weighAll_41 : decode cX5_weighAll 41 = .ok (.imul, 1) := by decide +kernel
theorem dX5_weighAll_42 : decode cX5_weighAll 42 = .ok (.iload 4, 2) := by decide +kernel
theorem dX5_weighAll_44 : decode cX5_weighAll 44 = .ok (.iadd, 1) := by decide +kernel
theorem dX5_weighAll_45 : decode cX5_weighAll 45 = .ok (.istore 5, 2) := by decide +kernel
theorem dX5_weighAll_47 : decode cX5_weighAll 47 = .ok (.aload_n 0, 1) := by decide +kernel
theorem dX5_weighAll_48 : decode cX5_weighAll 48 = .ok (.iload 5, 2) := by decide +kernel
theorem dX5_weighAll_50 : decode cX5_weighAll 50 = .ok (.iload_n 3, 1) := by decide +kernel
theorem dX5_weighAll_51 : decode cX5_weighAll 51 = .ok (.invokestatic 69, 3) := by decide +kernel
theorem dX5_weighAll_54 : decode cX5_weighAll 54 = .ok (.iload 4, 2) := by decide +kernel
theorem dX5_weighAll_56 : decode cX5_weighAll 56 = .ok (.invokestatic 69, 3) := by decide +kernel
theorem dX5_weighAll_59 : decode cX5_weighAll 59 = .ok (.iload_n 1, 1) := by decide +kernel
theorem dX5_weighAll_60 : decode cX5_weighAll 60 = .ok (.iload_n 2, 1) := by decide +kernel
theorem dX5_weighAll_61 : decode cX5_weighAll 61 = .ok (.invokevirtual 72, 3) := by decide +kernel
theorem dX5_weighAll_64 : decode cX5_weighAll 64 = .ok (.aload_n 0, 1) := by decide +kernel
theorem dX5_weighAll_65 : decode cX5_weighAll 65 = .ok (.getfield 18, 3) := by decide +kernel
theorem dX5_weighAll_68 : decode cX5_weighAll 68 = .ok (.iload 4, 2) := by decide +kernel
theorem dX5_weighAll_70 : decode cX5_weighAll 70 = .ok (.aload_n 0, 1) := by decide +kernel
theorem dX5_weighAll_71 : decode cX5_weighAll 71 = .ok (.getfield 18, 3) := by decide +kernel
theorem dX5_weighAll_74 : decode cX5_weighAll 74 = .ok (.iload 4, 2) := by decide +kernel
theorem dX5_weighAll_76 : decode cX5_weighAll 76 = .ok (.iaload, 1) := by decide +kernel
theorem dX5_weighAll_77 : decode cX5_weighAll 77 = .ok (.aload_n 0, 1) := by decide +kernel
theorem dX5_weighAll_78 : decode cX5_weighAll 78 = .ok (.getfield 11, 3) := by decide +kernel
theorem dX5_weighAll_81 : decode cX5_weighAll 81 = .ok (.iload 5, 2) := by decide +kernel
theorem dX5_weighAll_83 : decode cX5_weighAll 83 = .ok (.iaload, 1) := by decide +kernel
theorem dX5_weighAll_84 : decode cX5_weighAll 84 = .ok (.invokestatic 76, 3) := by decide +kernel
theorem dX5_weighAll_87 : decode cX5_weighAll 87 = .ok (.iastore, 1) := by decide +kernel
theorem dX5_weighAll_88 : decode cX5_weighAll 88 = .ok (.aload_n 0, 1) := by decide +kernel
theorem dX5_weighAll_89 : decode cX5_weighAll 89 = .ok (.getfield 21, 3) := by decide +kernel
theorem dX5_weighAll_92 : decode cX5_weighAll 92 = .ok (.iload_n 3, 1) := by decide +kernel
theorem dX5_weighAll_93 : decode cX5_weighAll 93 = .ok (.aload_n 0, 1) := by decide +kernel
theorem dX5_weighAll_94 : decode cX5_weighAll 94 = .ok (.getfield 21, 3) := by decide +kernel
theorem dX5_weighAll_97 : decode cX5_weighAll 97 = .ok (.iload_n 3, 1) := by decide +kernel
theorem dX5_weighAll_98 : decode cX5_weighAll 98 = .ok (.iaload, 1) := by decide +kernel
theorem dX5_weighAll_99 : decode cX5_weighAll 99 = .ok (.aload_n 0, 1) := by decide +kernel
theorem dX5_weighAll_100 : decode cX5_weighAll 100 = .ok (.getfield 15, 3) := by decide +kernel
theorem dX5_weighAll_103 : decode cX5_weighAll 103 = .ok (.iload 5, 2) := by decide +kernel
theorem dX5_weighAll_105 : decode cX5_weighAll 105 = .ok (.iaload, 1) := by decide +kernel
theorem dX5_weighAll_106 : decode cX5_weighAll 106 = .ok (.invokestatic 76, 3) := by decide +kernel
theorem dX5_weighAll_109 : decode cX5_weighAll 109 = .ok (.iastore, 1) := by decide +kernel
theorem dX5_weighAll_110 : decode cX5_weighAll 110 = .ok (.iinc 4 1, 3) := by decide +kernel
theorem dX5_weighAll_113 : decode cX5_weighAll 113 = .ok (.goto (-84), 3) := by decide +kernel
theorem dX5_weighAll_116 : decode cX5_weighAll 116 = .ok (.iinc 3 1, 3) := by decide +kernel
theorem dX5_weighAll_119 : decode cX5_weighAll 119 = .ok (.goto (-101), 3) := by decide +kernel
theorem dX5_weighAll_122 : decode cX5_weighAll 122 = .ok (.return_, 1) := by decide +kernel
theorem dX5_bookOf_0 : decode cX5_bookOf 0 = .ok (.iload_n 0, 1) := by decide +kernel
theorem dX5_bookOf_1 : decode cX5_bookOf 1 = .ok (.ifCond .ne 7, 3) := by decide +kernel
theorem dX5_bookOf_4 : decode cX5_bookOf 4 = .ok (.iconst 0, 1) := by decide +kernel
theorem dX5_bookOf_5 : decode cX5_bookOf 5 = .ok (.goto 8, 3) := by decide +kernel
theorem dX5_bookOf_8 : decode cX5_bookOf 8 = .ok (.iconst 1, 1) := by decide +kernel
theorem dX5_bookOf_9 : decode cX5_bookOf 9 = .ok (.iload_n 0, 1) := by decide +kernel
theorem dX5_bookOf_10 : decode cX5_bookOf 10 = .ok (.iconst 1, 1) := by decide +kernel
theorem dX5_bookOf_11 : decode cX5_bookOf 11 = .ok (.isub, 1) := by decide +kernel
theorem dX5_bookOf_12 : decode cX5_bookOf 12 = .ok (.ishl, 1) := by decide +kernel
theorem dX5_bookOf_13 : decode cX5_bookOf 13 = .ok (.ireturn, 1) := by decide +kernel
theorem dX5_weigh_0 : decode cX5_weigh 0 = .ok (.iload_n 2, 1) := by decide +kernel
theorem dX5_weigh_1 : decode cX5_weigh 1 = .ok (.iload_n 3, 1) := by decide +kernel
theorem dX5_weigh_2 : decode cX5_weigh 2 = .ok (.ior, 1) := by decide +kernel
theorem dX5_weigh_3 : decode cX5_weigh 3 = .ok (.aload_n 0, 1) := by decide +kernel
theorem dX5_weigh_4 : decode cX5_weigh 4 = .ok (.getfield 46, 3) := by decide +kernel
theorem dX5_weigh_7 : decode cX5_weigh 7 = .ok (.iand, 1) := by decide +kernel
theorem dX5_weigh_8 : decode cX5_weigh 8 = .ok (.ifCond .eq 18, 3) := by decide +kernel
theorem dX5_weigh_11 : decode cX5_weigh 11 = .ok (.aload_n 0, 1) := by decide +kernel
theorem dX5_weigh_12 : decode cX5_weigh 12 = .ok (.getfield 11, 3) := by decide +kernel
theorem dX5_weigh_15 : decode cX5_weigh 15 = .ok (.iload_n 1, 1) := by decide +kernel
theorem dX5_weigh_16 : decode cX5_weigh 16 = .ok (.iconst (-1), 1) := by decide +kernel
theorem dX5_weigh_17 : decode cX5_weigh 17 = .ok (.iastore, 1) := by decide +kernel
theorem dX5_weigh_18 : decode cX5_weigh 18 = .ok (.aload_n 0, 1) := by decide +kernel
theorem dX5_weigh_19 : decode cX5_weigh 19 = .ok (.getfield 15, 3) := by decide +kernel
theorem dX5_weigh_22 : decode cX5_weigh 22 = .ok (.iload_n 1, 1) := by decide +kernel
theorem dX5_weigh_23 : decode cX5_weigh 23 = .ok (.iconst (-1), 1) := by decide +kernel
theorem dX5_weigh_24 : decode cX5_weigh 24 = .ok (.iastore, 1) := by decide +kernel
theorem dX5_weigh_25 : decode cX5_weigh 25 = .ok (.return_, 1) := by decide +kernel
theorem dX5_weigh_26 : decode cX5_weigh 26 = .ok (.aload_n 0, 1) := by decide +kernel
theorem dX5_weigh_27 : decode cX5_weigh 27 = .ok (.getfield 24, 3) := by decide +kernel
theorem dX5_weigh_30 : decode cX5_weigh 30 = .ok (.aload_n 0, 1) := by decide +kernel
theorem dX5_weigh_31 : decode cX5_weigh 31 = .ok (.getfield 46, 3) := by decide +kernel
theorem dX5_weigh_34 : decode cX5_weigh 34 = .ok (.iload_n 2, 1) := by decide +kernel
theorem dX5_weigh_35 : decode cX5_weigh 35 = .ok (.ior, 1) := by decide +kernel
theorem dX5_weigh_36 : decode cX5_weigh 36 = .ok (.iload_n 3, 1) := by decide +kernel
theorem dX5_weigh_37 : decode cX5_weigh 37 = .ok (.ior, 1) := by decide +kernel
theorem dX5_weigh_38 : decode cX5_weigh 38 = .ok (.invokevirtual 82, 3) := by decide +kernel
theorem dX5_weigh_41 : decode cX5_weigh 41 = .ok (.istore 6, 2) := by decide +kernel
theorem dX5_weigh_43 : decode cX5_weigh 43 = .ok (.aload_n 0, 1) := by decide +kernel
theorem dX5_weigh_44 : decode cX5_weigh 44 = .ok (.getfield 24, 3) := by decide +kernel
theorem dX5_weigh_47 : decode cX5_weigh 47 = .ok (.iload 4, 2) := by decide +kernel
theorem dX5_weigh_49 : decode cX5_weigh 49 = .ok (.aload_n 0, 1) := by decide +kernel
theorem dX5_weigh_50 : decode cX5_weigh 50 = .ok (.getfield 24, 3) := by decide +kernel
theorem dX5_weigh_53 : decode cX5_weigh 53 = .ok (.iload 4, 2) := by decide +kernel
theorem dX5_weigh_55 : decode cX5_weigh 55 = .ok (.iload 6, 2) := by decide +kernel
theorem dX5_weigh_57 : decode cX5_weigh 57 = .ok (.aload_n 0, 1) := by decide +kernel
theorem dX5_weigh_58 : decode cX5_weigh 58 = .ok (.getfield 52, 3) := by decide +kernel
theorem dX5_weigh_61 : decode cX5_weigh 61 = .ok (.invokevirtual 87, 3) := by decide +kernel
theorem dX5_weigh_64 : decode cX5_weigh 64 = .ok (.aload_n 0, 1) := by decide +kernel
theorem dX5_weigh_65 : decode cX5_weigh 65 = .ok (.getfield 59, 3) := by decide +kernel
theorem dX5_weigh_68 : decode cX5_weigh 68 = .ok (.invokevirtual 91, 3) := by decide +kernel
theorem dX5_weigh_71 : decode cX5_weigh 71 = .ok (.ifCond .eq 7, 3) := by decide +kernel
theorem dX5_weigh_74 : decode cX5_weigh 74 = .ok (.iconst 1, 1) := by decide +kernel
theorem dX5_weigh_75 : decode cX5_weigh 75 = .ok (.goto 4, 3) := by decide +kernel
theorem dX5_weigh_78 : decode cX5_weigh 78 = .ok (.iconst 0, 1) := by decide +kernel
theorem dX5_weigh_79 : decode cX5_weigh 79 = .ok (.istore 7, 2) := by decide +kernel
theorem dX5_weigh_81 : decode cX5_weigh 81 = .ok (.aload_n 0, 1) := by decide +kernel
theorem dX5_weigh_82 : decode cX5_weigh 82 = .ok (.getfield 24, 3) := by decide +kernel
theorem dX5_weigh_85 : decode cX5_weigh 85 = .ok (.iload 5, 2) := by decide +kernel
theorem dX5_weigh_87 : decode cX5_weigh 87 = .ok (.aload_n 0, 1) := by decide +kernel
theorem dX5_weigh_88 : decode cX5_weigh 88 = .ok (.getfield 24, 3) := by decide +kernel
theorem dX5_weigh_91 : decode cX5_weigh 91 = .ok (.iload 5, 2) := by decide +kernel
theorem dX5_weigh_93 : decode cX5_weigh 93 = .ok (.iload 6, 2) := by decide +kernel
theorem dX5_weigh_95 : decode cX5_weigh 95 = .ok (.aload_n 0, 1) := by decide +kernel
theorem dX5_weigh_96 : decode cX5_weigh 96 = .ok (.getfield 52, 3) := by decide +kernel
theorem dX5_weigh_99 : decode cX5_weigh 99 = .ok (.invokevirtual 87, 3) := by decide +kernel
theorem dX5_weigh_102 : decode cX5_weigh 102 = .ok (.aload_n 0, 1) := by decide +kernel
theorem dX5_weigh_103 : decode cX5_weigh 103 = .ok (.getfield 59, 3) := by decide +kernel
theorem dX5_weigh_106 : decode cX5_weigh 106 = .ok (.invokevirtual 91, 3) := by decide +kernel
theorem dX5_weigh_109 : decode cX5_weigh 109 = .ok (.ifCond .eq 7, 3) := by decide +kernel
theorem dX5_weigh_112 : decode cX5_weigh 112 = .ok (.iconst 1, 1) := by decide +kernel
theorem dX5_weigh_113 : decode cX5_weigh 113 = .ok (.goto 4, 3) := by decide +kernel
theorem dX5_weigh_116 : decode cX5_weigh 116 = .ok (.iconst 0, 1) := by decide +kernel
theorem dX5_weigh_117 : decode cX5_weigh 117 = .ok (.istore 8, 2) := by decide +kernel
theorem dX5_weigh_119 : decode cX5_weigh 119 = .ok (.aload_n 0, 1) := by decide +kernel
theorem dX5_weigh_120 : decode cX5_weigh 120 = .ok (.getfield 11, 3) := by decide +kernel
theorem dX5_weigh_123 : decode cX5_weigh 123 = .ok (.iload_n 1, 1) := by decide +kernel
theorem dX5_weigh_124 : decode cX5_weigh 124 = .ok (.iconst 2, 1) := by decide +kernel
theorem dX5_weigh_125 : decode cX5_weigh 125 = .ok (.iload 7, 2) := by decide +kernel
theorem dX5_weigh_127 : decode cX5_weigh 127 = .ok (.imul, 1) := by decide +kernel
theorem dX5_weigh_128 : decode cX5_weigh 128 = .ok (.iconst 1, 1) := by decide +kernel
theorem dX5_weigh_129 : decode cX5_weigh 129 = .ok (.iadd, 1) := by decide +kernel
theorem dX5_weigh_130 : decode cX5_weigh 130 = .ok (.iload 8, 2) := by decide +kernel
theorem dX5_weigh_132 : decode cX5_weigh 132 = .ok (.isub, 1) := by decide +kernel
theorem dX5_weigh_133 : decode cX5_weigh 133 = .ok (.iastore, 1) := by decide +kernel
theorem dX5_weigh_134 : decode cX5_weigh 134 = .ok (.aload_n 0, 1) := by decide +kernel
theorem dX5_weigh_135 : decode cX5_weigh 135 = .ok (.getfield 15, 3) := by decide +kernel
theorem dX5_weigh_138 : decode cX5_weigh 138 = .ok (.iload_n 1, 1) := by decide +kernel
theorem dX5_weigh_139 : decode cX5_weigh 139 = .ok (.iconst 2, 1) := by decide +kernel
theorem dX5_weigh_140 : decode cX5_weigh 140 = .ok (.iload 8, 2) := by decide +kernel
theorem dX5_weigh_142 : decode cX5_weigh 142 = .ok (.imul, 1) := by decide +kernel
theorem dX5_weigh_143 : decode cX5_weigh 143 = .ok (.iconst 1, 1) := by decide +kernel
theorem dX5_weigh_144 : decode cX5_weigh 144 = .ok (.iadd, 1) := by decide +kernel
theorem dX5_weigh_145 : decode cX5_weigh 145 = .ok (.iload 7, 2) := by decide +kernel
theorem dX5_weigh_147 : decode cX5_weigh 147 = .ok (.isub, 1) := by decide +kernel
theorem dX5_weigh_148 : decode cX5_weigh 148 = .ok (.iastore, 1) := by decide +kernel
theorem dX5_weigh_149 : decode cX5_weigh 149 = .ok (.return_, 1) := by decide +kernel
theorem dX5_findRests_0 : decode cX5_findRests 0 = .ok (.aload_n 0, 1) := by decide +kernel
theorem dX5_findRests_1 : decode cX5_findRests 1 = .ok (.iconst 0, 1) := by decide +kernel
theorem dX5_findRests_2 : decode cX5_findRests 2 = .ok (.putfield 95, 3) := by decide +kernel
theorem dX5_findRests_5 : decode cX5_findRests 5 = .ok (.aload_n 0, 1) := by decide +kernel
theorem dX5_findRests_6 : decode cX5_findRests 6 = .ok (.iconst (-1), 1) := by decide +kernel
theorem dX5_findRests_7 : decode cX5_findRests 7 = .ok (.putfield 98, 3) := by decide +kernel
theorem dX5_findRests_10 : decode cX5_findRests 10 = .ok (.iconst 0, 1) := by decide +kernel
theorem dX5_findRests_11 : decode cX5_findRests 11 = .ok (.istore_n 1, 1) := by decide +kernel
theorem dX5_findRests_12 : decode cX5_findRests 12 = .ok (.iload_n 1, 1) := by decide +kernel
theorem dX5_findRests_13 : decode cX5_findRests 13 = .ok (.aload_n 0, 1) := by decide +kernel
theorem dX5_findRests_14 : decode cX5_findRests 14 = .ok (.getfield 34, 3) := by decide +kernel
theorem dX5_findRests_17 : decode cX5_findRests 17 = .ok (.if_icmp .ge 106, 3) := by decide +kernel
theorem dX5_findRests_20 : decode cX5_findRests 20 = .ok (.iconst 0, 1) := by decide +kernel
theorem dX5_findRests_21 : decode cX5_findRests 21 = .ok (.istore_n 2, 1) := by decide +kernel
theorem dX5_findRests_22 : decode cX5_findRests 22 = .ok (.iload_n 2, 1) := by decide +kernel
theorem dX5_findRests_23 : decode cX5_findRests 23 = .ok (.aload_n 0, 1) := by decide +kernel
theorem dX5_findRests_24 : decode cX5_findRests 24 = .ok (.getfield 34, 3) := by decide +kernel
theorem dX5_findRests_27 : decode cX5_findRests 27 = .ok (.if_icmp .ge 90, 3) := by decide +kernel
theorem dX5_findRests_30 : decode cX5_findRests 30 = .ok (.iload_n 1, 1) := by decide +kernel
theorem dX5_findRests_31 : decode cX5_findRests 31 = .ok (.bipush 11, 2) := by decide +kernel
theorem dX5_findRests_33 : decode cX5_findRests 33 = .ok (.imul, 1) := by decide +kernel
theorem dX5_findRests_34 : decode cX5_findRests 34 = .ok (.iload_n 2, 1) := by decide +kernel
theorem dX5_findRests_35 : decode cX5_findRests 35 = .ok (.iadd, 1) := by decide +kernel
theorem dX5_findRests_36 : decode cX5_findRests 36 = .ok (.istore_n 3, 1) := by decide +kernel
theorem dX5_findRests_37 : decode cX5_findRests 37 = .ok (.aload_n 0, 1) := by decide +kernel
theorem dX5_findRests_38 : decode cX5_findRests 38 = .ok (.getfield 11, 3) := by decide +kernel
theorem dX5_findRests_41 : decode cX5_findRests 41 = .ok (.iload_n 3, 1) := by decide +kernel
theorem dX5_findRests_42 : decode cX5_findRests 42 = .ok (.iaload, 1) := by decide +kernel
theorem dX5_findRests_43 : decode cX5_findRests 43 = .ok (.iconst (-1), 1) := by decide +kernel
theorem dX5_findRests_44 : decode cX5_findRests 44 = .ok (.if_icmp .eq 67, 3) := by decide +kernel
theorem dX5_findRests_47 : decode cX5_findRests 47 = .ok (.aload_n 0, 1) := by decide +kernel
theorem dX5_findRests_48 : decode cX5_findRests 48 = .ok (.getfield 11, 3) := by decide +kernel
theorem dX5_findRests_51 : decode cX5_findRests 51 = .ok (.iload_n 3, 1) := by decide +kernel
theorem dX5_findRests_52 : decode cX5_findRests 52 = .ok (.iaload, 1) := by decide +kernel
theorem dX5_findRests_53 : decode cX5_findRests 53 = .ok (.aload_n 0, 1) := by decide +kernel
theorem dX5_findRests_54 : decode cX5_findRests 54 = .ok (.getfield 18, 3) := by decide +kernel
theorem dX5_findRests_57 : decode cX5_findRests 57 = .ok (.iload_n 2, 1) := by decide +kernel
theorem dX5_findRests_58 : decode cX5_findRests 58 = .ok (.iaload, 1) := by decide +kernel
theorem dX5_findRests_59 : decode cX5_findRests 59 = .ok (.if_icmp .ne 52, 3) := by decide +kernel
theorem dX5_findRests_62 : decode cX5_findRests 62 = .ok (.aload_n 0, 1) := by decide +kernel
theorem dX5_findRests_63 : decode cX5_findRests 63 = .ok (.getfield 15, 3) := by decide +kernel
theorem dX5_findRests_66 : decode cX5_findRests 66 = .ok (.iload_n 3, 1) := by decide +kernel
theorem dX5_findRests_67 : decode cX5_findRests 67 = .ok (.iaload, 1) := by decide +kernel
theorem dX5_findRests_68 : decode cX5_findRests 68 = .ok (.aload_n 0, 1) := by decide +kernel
theorem dX5_findRests_69 : decode cX5_findRests 69 = .ok (.getfield 21, 3) := by decide +kernel
theorem dX5_findRests_72 : decode cX5_findRests 72 = .ok (.iload_n 1, 1) := by decide +kernel
theorem dX5_findRests_73 : decode cX5_findRests 73 = .ok (.iaload, 1) := by decide +kernel
theorem dX5_findRests_74 : decode cX5_findRests 74 = .ok (.if_icmp .ne 37, 3) := by decide +kernel
theorem dX5_findRests_77 : decode cX5_findRests 77 = .ok (.aload_n 0, 1) := by decide +kernel
theorem dX5_findRests_78 : decode cX5_findRests 78 = .ok (.aload_n 0, 1) := by decide +kernel
theorem dX5_findRests_79 : decode cX5_findRests 79 = .ok (.getfield 95, 3) := by decide +kernel
theorem dX5_findRests_82 : decode cX5_findRests 82 = .ok (.ifCond .ne 12, 3) := by decide +kernel
theorem dX5_findRests_85 : decode cX5_findRests 85 = .ok (.bipush 16, 2) := by decide +kernel
theorem dX5_findRests_87 : decode cX5_findRests 87 = .ok (.iload_n 1, 1) := by decide +kernel
theorem dX5_findRests_88 : decode cX5_findRests 88 = .ok (.imul, 1) := by decide +kernel
theorem dX5_findRests_89 : decode cX5_findRests 89 = .ok (.iload_n 2, 1) := by decide +kernel
theorem dX5_findRests_90 : decode cX5_findRests 90 = .ok (.iadd, 1) := by decide +kernel
theorem dX5_findRests_91 : decode cX5_findRests 91 = .ok (.goto 7, 3) := by decide +kernel
theorem dX5_findRests_94 : decode cX5_findRests 94 = .ok (.aload_n 0, 1) := by decide +kernel
theorem dX5_findRests_95 : decode cX5_findRests 95 = .ok (.getfield 98, 3) := by decide +kernel
theorem dX5_findRests_98 : decode cX5_findRests 98 = .ok (.putfield 98, 3) := by decide +kernel
theorem dX5_findRests_101 : decode cX5_findRests 101 = .ok (.aload_n 0, 1) := by decide +kernel
theorem dX5_findRests_102 : decode cX5_findRests 102 = .ok (.dup, 1) := by decide +kernel
theorem dX5_findRests_103 : decode cX5_findRests 103 = .ok (.getfield 95, 3) := by decide +kernel
theorem dX5_findRests_106 : decode cX5_findRests 106 = .ok (.iconst 1, 1) := by decide +kernel
theorem dX5_findRests_107 : decode cX5_findRests 107 = .ok (.iadd, 1) := by decide +kernel
theorem dX5_findRests_108 : decode cX5_findRests 108 = .ok (.putfield 95, 3) := by decide +kernel
theorem dX5_findRests_111 : decode cX5_findRests 111 = .ok (.iinc 2 1, 3) := by decide +kernel
theorem dX5_findRests_114 : decode cX5_findRests 114 = .ok (.goto (-92), 3) := by decide +kernel
theorem dX5_findRests_117 : decode cX5_findRests 117 = .ok (.iinc 1 1, 3) := by decide +kernel
theorem dX5_findRests_120 : decode cX5_findRests 120 = .ok (.goto (-108), 3) := by decide +kernel
theorem dX5_findRests_123 : decode cX5_findRests 123 = .ok (.return_, 1) := by decide +kernel
theorem dX6_init_0 : decode cX6_init 0 = .ok (.aload_n 0, 1) := by decide +kernel
theorem dX6_init_1 : decode cX6_init 1 = .ok (.invokespecial 1, 3) := by decide +kernel
theorem dX6_init_4 : decode cX6_init 4 = .ok (.aload_n 0, 1) := by decide +kernel
theorem dX6_init_5 : decode cX6_init 5 = .ok (.iconst 0, 1) := by decide +kernel
theorem dX6_init_6 : decode cX6_init 6 = .ok (.newarray .byte, 2) := by decide +kernel
theorem dX6_init_8 : decode cX6_init 8 = .ok (.putfield 7, 3) := by decide +kernel
theorem dX6_init_11 : decode cX6_init 11 = .ok (.return_, 1) := by decide +kernel
theorem dX6_open_0 : decode cX6_open 0 = .ok (.aload_n 0, 1) := by decide +kernel
theorem dX6_open_1 : decode cX6_open 1 = .ok (.aload_n 1, 1) := by decide +kernel
theorem dX6_open_2 : decode cX6_open 2 = .ok (.putfield 7, 3) := by decide +kernel
theorem dX6_open_5 : decode cX6_open 5 = .ok (.aload_n 0, 1) := by decide +kernel
theorem dX6_open_6 : decode cX6_open 6 = .ok (.iload_n 2, 1) := by decide +kernel
theorem dX6_open_7 : decode cX6_open 7 = .ok (.aload_n 1, 1) := by decide +kernel
theorem dX6_open_8 : decode cX6_open 8 = .ok (.arraylength, 1) := by decide +kernel
theorem dX6_open_9 : decode cX6_open 9 = .ok (.invokestatic 13, 3) := by decide +kernel
theorem dX6_open_12 : decode cX6_open 12 = .ok (.putfield 19, 3) := by decide +kernel
theorem dX6_open_15 : decode cX6_open 15 = .ok (.aload_n 0, 1) := by decide +kernel
theorem dX6_open_16 : decode cX6_open 16 = .ok (.iconst 0, 1) := by decide +kernel
theorem dX6_open_17 : decode cX6_open 17 = .ok (.putfield 23, 3) := by decide +kernel
theorem dX6_open_20 : decode cX6_open 20 = .ok (.aload_n 0, 1) := by decide +kernel
theorem dX6_open_21 : decode cX6_open 21 = .ok (.invokevirtual 26, 3) := by decide +kernel
theorem dX6_open_24 : decode cX6_open 24 = .ok (.return_, 1) := by decide +kernel
theorem dX6_next_0 : decode cX6_next 0 = .ok (.aload_n 0, 1) := by decide +kernel
theorem dX6_next_1 : decode cX6_next 1 = .ok (.getfield 23, 3) := by decide +kernel
theorem dX6_next_4 : decode cX6_next 4 = .ok (.aload_n 0, 1) := by decide +kernel
theorem dX6_next_5 : decode cX6_next 5 = .ok (.getfield 19, 3) := by decide +kernel
theorem dX6_next_8 : decode cX6_next 8 = .ok (.if_icmp .ge 44, 3) := by decide +kernel
theorem dX6_next_11 : decode cX6_next 11 = .ok (.aload_n 0, 1) := by decide +kernel
theorem dX6_next_12 : decode cX6_next 12 = .ok (.getfield 7, 3) := by decide +kernel
theorem dX6_next_15 : decode cX6_next 15 = .ok (.aload_n 0, 1) := by decide +kernel
theorem dX6_next_16 : decode cX6_next 16 = .ok (.getfield 23, 3) := by decide +kernel
theorem dX6_next_19 : decode cX6_next 19 = .ok (.baload, 1) := by decide +kernel
theorem dX6_next_20 : decode cX6_next 20 = .ok (.bipush 32, 2) := by decide +kernel
theorem dX6_next_22 : decode cX6_next 22 = .ok (.if_icmp .eq 17, 3) := by decide +kernel
theorem dX6_next_25 : decode cX6_next 25 = .ok (.aload_n 0, 1) := by decide +kernel
theorem dX6_next_26 : decode cX6_next 26 = .ok (.getfield 7, 3) := by decide +kernel
theorem dX6_next_29 : decode cX6_next 29 = .ok (.aload_n 0, 1) := by decide +kernel
theorem dX6_next_30 : decode cX6_next 30 = .ok (.getfield 23, 3) := by decide +kernel
theorem dX6_next_33 : decode cX6_next 33 = .ok (.baload, 1) := by decide +kernel
theorem dX6_next_34 : decode cX6_next 34 = .ok (.bipush 10, 2) := by decide +kernel
theorem dX6_next_36 : decode cX6_next 36 = .ok (.if_icmp .ne 16, 3) := by decide +kernel
theorem dX6_next_39 : decode cX6_next 39 = .ok (.aload_n 0, 1) := by decide +kernel
theorem dX6_next_40 : decode cX6_next 40 = .ok (.dup, 1) := by decide +kernel
theorem dX6_next_41 : decode cX6_next 41 = .ok (.getfield 23, 3) := by decide +kernel
theorem dX6_next_44 : decode cX6_next 44 = .ok (.iconst 1, 1) := by decide +kernel
theorem dX6_next_45 : decode cX6_next 45 = .ok (.iadd, 1) := by decide +kernel
theorem dX6_next_46 : decode cX6_next 46 = .ok (.putfield 23, 3) := by decide +kernel
theorem dX6_next_49 : decode cX6_next 49 = .ok (.goto (-49), 3) := by decide +kernel
theorem dX6_next_52 : decode cX6_next 52 = .ok (.aload_n 0, 1) := by decide +kernel
theorem dX6_next_53 : decode cX6_next 53 = .ok (.aload_n 0, 1) := by decide +kernel
theorem dX6_next_54 : decode cX6_next 54 = .ok (.getfield 23, 3) := by decide +kernel
theorem dX6_next_57 : decode cX6_next 57 = .ok (.putfield 29, 3) := by decide +kernel
theorem dX6_next_60 : decode cX6_next 60 = .ok (.aload_n 0, 1) := by decide +kernel
theorem dX6_next_61 : decode cX6_next 61 = .ok (.iconst 0, 1) := by decide +kernel
theorem dX6_next_62 : decode cX6_next 62 = .ok (.putfield 32, 3) := by decide +kernel
theorem dX6_next_65 : decode cX6_next 65 = .ok (.aload_n 0, 1) := by decide +kernel
theorem dX6_next_66 : decode cX6_next 66 = .ok (.getfield 23, 3) := by decide +kernel
theorem dX6_next_69 : decode cX6_next 69 = .ok (.aload_n 0, 1) := by decide +kernel
theorem dX6_next_70 : decode cX6_next 70 = .ok (.getfield 19, 3) := by decide +kernel
theorem dX6_next_73 : decode cX6_next 73 = .ok (.if_icmp .lt 11, 3) := by decide +kernel
theorem dX6_next_76 : decode cX6_next 76 = .ok (.aload_n 0, 1) := by decide +kernel
theorem dX6_next_77 : decode cX6_next 77 = .ok (.iconst 0, 1) := by decide +kernel
theorem dX6_next_78 : decode cX6_next 78 = .ok (.putfield 35, 3) := by decide +kernel
theorem dX6_next_81 : decode cX6_next 81 = .ok (.goto 117, 3) := by decide +kernel
theorem dX6_next_84 : decode cX6_next 84 = .ok (.aload_n 0, 1) := by decide +kernel
theorem dX6_next_85 : decode cX6_next 85 = .ok (.getfield 7, 3) := by decide +kernel
theorem dX6_next_88 : decode cX6_next 88 = .ok (.aload_n 0, 1) := by decide +kernel
theorem dX6_next_89 : decode cX6_next 89 = .ok (.getfield 23, 3) := by decide +kernel
theorem dX6_next_92 : decode cX6_next 92 = .ok (.baload, 1) := by decide +kernel
theorem dX6_next_93 : decode cX6_next 93 = .ok (.invokestatic 38, 3) := by decide +kernel
theorem dX6_next_96 : decode cX6_next 96 = .ok (.ifCond .eq 47, 3) := by decide +kernel
theorem dX6_next_99 : decode cX6_next 99 = .ok (.aload_n 0, 1) := by decide +kernel
theorem dX6_next_100 : decode cX6_next 100 = .ok (.iconst 1, 1) := by decide +kernel
theorem dX6_next_101 : decode cX6_next 101 = .ok (.putfield 35, 3) := by decide +kernel
theorem dX6_next_104 : decode cX6_next 104 = .ok (.aload_n 0, 1) := by decide +kernel
theorem dX6_next_105 : decode cX6_next 105 = .ok (.getfield 23, 3) := by decide +kernel
theorem dX6_next_108 : decode cX6_next 108 = .ok (.aload_n 0, 1) := by decide +kernel
theorem dX6_next_109 : decode cX6_next 109 = .ok (.getfield 19, 3) := by decide +kernel
theorem dX6_next_112 : decode cX6_next 112 = .ok (.if_icmp .ge 86, 3) := by decide +kernel
theorem dX6_next_115 : decode cX6_next 115 = .ok (.aload_n 0, 1) := by decide +kernel
theorem dX6_next_116 : decode cX6_next 116 = .ok (.getfield 7, 3) := by decide +kernel
theorem dX6_next_119 : decode cX6_next 119 = .ok (.aload_n 0, 1) := by decide +kernel
theorem dX6_next_120 : decode cX6_next 120 = .ok (.getfield 23, 3) := by decide +kernel
theorem dX6_next_123 : decode cX6_next 123 = .ok (.baload, 1) := by decide +kernel
theorem dX6_next_124 : decode cX6_next 124 = .ok (.invokestatic 38, 3) := by decide +kernel
theorem dX6_next_127 : decode cX6_next 127 = .ok (.ifCond .eq 71, 3) := by decide +kernel
theorem dX6_next_130 : decode cX6_next 130 = .ok (.aload_n 0, 1) := by decide +kernel
theorem dX6_next_131 : decode cX6_next 131 = .ok (.dup, 1) := by decide +kernel
theorem dX6_next_132 : decode cX6_next 132 = .ok (.getfield 23, 3) := by decide +kernel
theorem dX6_next_135 : decode cX6_next 135 = .ok (.iconst 1, 1) := by decide +kernel
theorem dX6_next_136 : decode cX6_next 136 = .ok (.iadd, 1) := by decide +kernel
theorem dX6_next_137 : decode cX6_next 137 = .ok (.putfield 23, 3) := by decide +kernel
theorem dX6_next_140 : decode cX6_next 140 = .ok (.goto (-36), 3) := by decide +kernel
theorem dX6_next_143 : decode cX6_next 143 = .ok (.aload_n 0, 1) := by decide +kernel
theorem dX6_next_144 : decode cX6_next 144 = .ok (.getfield 7, 3) := by decide +kernel
theorem dX6_next_147 : decode cX6_next 147 = .ok (.aload_n 0, 1) := by decide +kernel
theorem dX6_next_148 : decode cX6_next 148 = .ok (.getfield 23, 3) := by decide +kernel
theorem dX6_next_151 : decode cX6_next 151 = .ok (.baload, 1) := by decide +kernel
theorem dX6_next_152 : decode cX6_next 152 = .ok (.invokestatic 42, 3) := by decide +kernel
theorem dX6_next_155 : decode cX6_next 155 = .ok (.ifCond .eq 10, 3) := by decide +kernel
theorem dX6_next_158 : decode cX6_next 158 = .ok (.aload_n 0, 1) := by decide +kernel
theorem dX6_next_159 : decode cX6_next 159 = .ok (.invokevirtual 45, 3) := by decide +kernel
theorem dX6_next_162 : decode cX6_next 162 = .ok (.goto 36, 3) := by decide +kernel
theorem dX6_next_165 : decode cX6_next 165 = .ok (.aload_n 0, 1) := by decide +kernel
theorem dX6_next_166 : decode cX6_next 166 = .ok (.aload_n 0, 1) := by decide +kernel
theorem dX6_next_167 : decode cX6_next 167 = .ok (.getfield 7, 3) := by decide +kernel
theorem dX6_next_170 : decode cX6_next 170 = .ok (.aload_n 0, 1) := by decide +kernel
theorem dX6_next_171 : decode cX6_next 171 = .ok (.getfield 23, 3) := by decide +kernel
theorem dX6_next_174 : decode cX6_next 174 = .ok (.baload, 1) := by decide +kernel
theorem dX6_next_175 : decode cX6_next 175 = .ok (.bipush 59, 2) := by decide +kernel
theorem dX6_next_177 : decode cX6_next 177 = .ok (.if_icmp .ne 7, 3) := by decide +kernel
theorem dX6_next_180 : decode cX6_next 180 = .ok (.iconst 4, 1) := by decide +kernel
theorem dX6_next_181 : decode cX6_next 181 = .ok (.goto 4, 3) := by decide +kernel
theorem dX6_next_184 : decode cX6_next 184 = .ok (.iconst 5, 1) := by decide +kernel
theorem dX6_next_185 : decode cX6_next 185 = .ok (.putfield 35, 3) := by decide +kernel
theorem dX6_next_188 : decode cX6_next 188 = .ok (.aload_n 0, 1) := by decide +kernel
theorem dX6_next_189 : decode cX6_next 189 = .ok (.dup, 1) := by decide +kernel
theorem dX6_next_190 : decode cX6_next 190 = .ok (.getfield 23, 3) := by decide +kernel
theorem dX6_next_193 : decode cX6_next 193 = .ok (.iconst 1, 1) := by decide +kernel
theorem dX6_next_194 : decode cX6_next 194 = .ok (.iadd, 1) := by decide +kernel
theorem dX6_next_195 : decode cX6_next 195 = .ok (.putfield 23, 3) := by decide +kernel
theorem dX6_next_198 : decode cX6_next 198 = .ok (.return_, 1) := by decide +kernel
theorem dX6_readNumber_0 : decode cX6_readNumber 0 = .ok (.aload_n 0, 1) := by decide +kernel
theorem dX6_readNumber_1 : decode cX6_readNumber 1 = .ok (.getfield 23, 3) := by decide +kernel
theorem dX6_readNumber_4 : decode cX6_readNumber 4 = .ok (.aload_n 0, 1) := by decide +kernel
theorem dX6_readNumber_5 : decode cX6_readNumber 5 = .ok (.getfield 19, 3) := by decide +kernel
theorem dX6_readNumber_8 : decode cX6_readNumber 8 = .ok (.if_icmp .ge 68, 3) := by decide +kernel
theorem dX6_readNumber_11 : decode cX6_readNumber 11 = .ok (.aload_n 0, 1) := by decide +kernel
theorem dX6_readNumber_12 : decode cX6_readNumber 12 = .ok (.getfield 7, 3) := by decide +kernel
theorem dX6_readNumber_15 : decode cX6_readNumber 15 = .ok (.aload_n 0, 1) := by decide +kernel
theorem dX6_readNumber_16 : decode cX6_readNumber 16 = .ok (.getfield 23, 3) := by decide +kernel
theorem dX6_readNumber_19 : decode cX6_readNumber 19 = .ok (.baload, 1) := by decide +kernel
theorem dX6_readNumber_20 : decode cX6_readNumber 20 = .ok (.invokestatic 42, 3) := by decide +kernel
theorem dX6_readNumber_23 : decode cX6_readNumber 23 = .ok (.ifCond .eq 53, 3) := by decide +kernel
theorem dX6_readNumber_26 : decode cX6_readNumber 26 = .ok (.aload_n 0, 1) := by decide +kernel
theorem dX6_readNumber_27 : decode cX6_readNumber 27 = .ok (.getfield 23, 3) := by decide +kernel
theorem dX6_readNumber_30 : decode cX6_readNumber 30 = .ok (.aload_n 0, 1) := by decide +kernel
theorem dX6_readNumber_31 : decode cX6_readNumber 31 = .ok (.getfield 29, 3) := by decide +kernel
theorem dX6_readNumber_34 : decode cX6_readNumber 34 = .ok (.isub, 1) := by decide +kernel
theorem dX6_readNumber_35 : decode cX6_readNumber 35 = .ok (.iconst 3, 1) := by decide +kernel
theorem dX6_readNumber_36 : decode cX6_readNumber 36 = .ok (.if_icmp .ge 27, 3) := by decide +kernel
theorem dX6_readNumber_39 : decode cX6_readNumber 39 = .ok (.aload_n 0, 1) := by decide +kernel
theorem dX6_readNumber_40 : decode cX6_readNumber 40 = .ok (.bipush 10, 2) := by decide +kernel
theorem dX6_readNumber_42 : decode cX6_readNumber 42 = .ok (.aload_n 0, 1) := by decide +kernel
theorem dX6_readNumber_43 : decode cX6_readNumber 43 = .ok (.getfield 32, 3) := by decide +kernel
theorem dX6_readNumber_46 : decode cX6_readNumber 46 = .ok (.imul, 1) := by decide +kernel
theorem dX6_readNumber_47 : decode cX6_readNumber 47 = .ok (.aload_n 0, 1) := by decide +kernel
theorem dX6_readNumber_48 : decode cX6_readNumber 48 = .ok (.getfield 7, 3) := by decide +kernel
theorem dX6_readNumber_51 : decode cX6_readNumber 51 = .ok (.aload_n 0, 1) := by decide +kernel
theorem dX6_readNumber_52 : decode cX6_readNumber 52 = .ok (.getfield 23, 3) := by decide +kernel
theorem dX6_readNumber_55 : decode cX6_readNumber 55 = .ok (.baload, 1) := by decide +kernel
theorem dX6_readNumber_56 : decode cX6_readNumber 56 = .ok (.iadd, 1) := by decide +kernel
theorem dX6_readNumber_57 : decode cX6_readNumber 57 = .ok (.bipush 48, 2) := by decide +kernel
theorem dX6_readNumber_59 : decode cX6_readNumber 59 = .ok (.isub, 1) := by decide +kernel
theorem dX6_readNumber_60 : decode cX6_readNumber 60 = .ok (.putfield 32, 3) := by decide +kernel
theorem dX6_readNumber_63 : decode cX6_readNumber 63 = .ok (.aload_n 0, 1) := by decide +kernel
theorem dX6_readNumber_64 : decode cX6_readNumber 64 = .ok (.dup, 1) := by decide +kernel
theorem dX6_readNumber_65 : decode cX6_readNumber 65 = .ok (.getfield 23, 3) := by decide +kernel
theorem dX6_readNumber_68 : decode cX6_readNumber 68 = .ok (.iconst 1, 1) := by decide +kernel
theorem dX6_readNumber_69 : decode cX6_readNumber 69 = .ok (.iadd, 1) := by decide +kernel
theorem dX6_readNumber_70 : decode cX6_readNumber 70 = .ok (.putfield 23, 3) := by decide +kernel
theorem dX6_readNumber_73 : decode cX6_readNumber 73 = .ok (.goto (-73), 3) := by decide +kernel
theorem dX6_readNumber_76 : decode cX6_readNumber 76 = .ok (.aload_n 0, 1) := by decide +kernel
theorem dX6_readNumber_77 : decode cX6_readNumber 77 = .ok (.aload_n 0, 1) := by decide +kernel
theorem dX6_readNumber_78 : decode cX6_readNumber 78 = .ok (.getfield 23, 3) := by decide +kernel
theorem dX6_readNumber_81 : decode cX6_readNumber 81 = .ok (.aload_n 0, 1) := by decide +kernel
theorem dX6_readNumber_82 : decode cX6_readNumber 82 = .ok (.getfield 29, 3) := by decide +kernel
theorem dX6_readNumber_85 : decode cX6_readNumber 85 = .ok (.isub, 1) := by decide +kernel
theorem dX6_readNumber_86 : decode cX6_readNumber 86 = .ok (.iconst 3, 1) := by decide +kernel
theorem dX6_readNumber_87 : decode cX6_readNumber 87 = .ok (.if_icmp .gt 7, 3) := by decide +kernel
theorem dX6_readNumber_90 : decode cX6_readNumber 90 = .ok (.iconst 2, 1) := by decide +kernel
theorem dX6_readNumber_91 : decode cX6_readNumber 91 = .ok (.goto 4, 3) := by decide +kernel
theorem dX6_readNumber_94 : decode cX6_readNumber 94 = .ok (.iconst 3, 1) := by decide +kernel
theorem dX6_readNumber_95 : decode cX6_readNumber 95 = .ok (.putfield 35, 3) := by decide +kernel
theorem dX6_readNumber_98 : decode cX6_readNumber 98 = .ok (.return_, 1) := by decide +kernel
theorem dX6_isLetter_0 : decode cX6_isLetter 0 = .ok (.iload_n 0, 1) := by decide +kernel
theorem dX6_isLetter_1 : decode cX6_isLetter 1 = .ok (.bipush 97, 2) := by decide +kernel
theorem dX6_isLetter_3 : decode cX6_isLetter 3 = .ok (.if_icmp .lt 13, 3) := by decide +kernel
theorem dX6_isLetter_6 : decode cX6_isLetter 6 = .ok (.iload_n 0, 1) := by decide +kernel
theorem dX6_isLetter_7 : decode cX6_isLetter 7 = .ok (.bipush 122, 2) := by decide +kernel
theorem dX6_isLetter_9 : decode cX6_isLetter 9 = .ok (.if_icmp .gt 7, 3) := by decide +kernel
theorem dX6_isLetter_12 : decode cX6_isLetter 12 = .ok (.iconst 1, 1) := by decide +kernel
theorem dX6_isLetter_13 : decode cX6_isLetter 13 = .ok (.goto 4, 3) := by decide +kernel
theorem dX6_isLetter_16 : decode cX6_isLetter 16 = .ok (.iconst 0, 1) := by decide +kernel
theorem dX6_isLetter_17 : decode cX6_isLetter 17 = .ok (.ireturn, 1) := by decide +kernel
theorem dX6_isDigit_0 : decode cX6_isDigit 0 = .ok (.iload_n 0, 1) := by decide +kernel
theorem dX6_isDigit_1 : decode cX6_isDigit 1 = .ok (.bipush 48, 2) := by decide +kernel
theorem dX6_isDigit_3 : decode cX6_isDigit 3 = .ok (.if_icmp .lt 13, 3) := by decide +kernel
theorem dX6_isDigit_6 : decode cX6_isDigit 6 = .ok (.iload_n 0, 1) := by decide +kernel
theorem dX6_isDigit_7 : decode cX6_isDigit 7 = .ok (.bipush 57, 2) := by decide +kernel
theorem dX6_isDigit_9 : decode cX6_isDigit 9 = .ok (.if_icmp .gt 7, 3) := by decide +kernel
theorem dX6_isDigit_12 : decode cX6_isDigit 12 = .ok (.iconst 1, 1) := by decide +kernel
theorem dX6_isDigit_13 : decode cX6_isDigit 13 = .ok (.goto 4, 3) := by decide +kernel
theorem dX6_isDigit_16 : decode cX6_isDigit 16 = .ok (.iconst 0, 1) := by decide +kernel
theorem dX6_isDigit_17 : decode cX6_isDigit 17 = .ok (.ireturn, 1) := by decide +kernel
theorem dX6_isWord_0 : decode cX6_isWord 0 = .ok (.aload_n 0, 1) := by decide +kernel
theorem dX6_isWord_1 : decode cX6_isWord 1 = .ok (.getfield 35, 3) := by decide +kernel
theorem dX6_isWord_4 : decode cX6_isWord 4 = .ok (.iconst 1, 1) := by decide +kernel
theorem dX6_isWord_5 : decode cX6_isWord 5 = .ok (.if_icmp .ne 19, 3) := by decide +kernel
theorem dX6_isWord_8 : decode cX6_isWord 8 = .ok (.aload_n 0, 1) := by decide +kernel
theorem dX6_isWord_9 : decode cX6_isWord 9 = .ok (.getfield 23, 3) := by decide +kernel
theorem dX6_isWord_12 : decode cX6_isWord 12 = .ok (.aload_n 0, 1) := by decide +kernel
theorem dX6_isWord_13 : decode cX6_isWord 13 = .ok (.getfield 29, 3) := by decide +kernel
theorem dX6_isWord_16 : decode cX6_isWord 16 = .ok (.isub, 1) := by decide +kernel
theorem dX6_isWord_17 : decode cX6_isWord 17 = .ok (.aload_n 1, 1) := by decide +kernel
theorem dX6_isWord_18 : decode cX6_isWord 18 = .ok (.invokevirtual 48, 3) := by decide +kernel
theorem dX6_isWord_21 : decode cX6_isWord 21 = .ok (.if_icmp .eq 5, 3) := by decide +kernel
theorem dX6_isWord_24 : decode cX6_isWord 24 = .ok (.iconst 0, 1) := by decide +kernel
theorem dX6_isWord_25 : decode cX6_isWord 25 = .ok (.ireturn, 1) := by decide +kernel
theorem dX6_isWord_26 : decode cX6_isWord 26 = .ok (.iconst 0, 1) := by decide +kernel
theorem dX6_isWord_27 : decode cX6_isWord 27 = .ok (.istore_n 2, 1) := by decide +kernel
theorem dX6_isWord_28 : decode cX6_isWord 28 = .ok (.iload_n 2, 1) := by decide +kernel
theorem dX6_isWord_29 : decode cX6_isWord 29 = .ok (.aload_n 1, 1) := by decide +kernel
theorem dX6_isWord_30 : decode cX6_isWord 30 = .ok (.invokevirtual 48, 3) := by decide +kernel
theorem dX6_isWord_33 : decode cX6_isWord 33 = .ok (.if_icmp .ge 30, 3) := by decide +kernel
theorem dX6_isWord_36 : decode cX6_isWord 36 = .ok (.aload_n 0, 1) := by decide +kernel
theorem dX6_isWord_37 : decode cX6_isWord 37 = .ok (.getfield 7, 3) := by decide +kernel
theorem dX6_isWord_40 : decode cX6_isWord 40 = .ok (.aload_n 0, 1) := by decide +kernel
theorem dX6_isWord_41 : decode cX6_isWord 41 = .ok (.getfield 29, 3) := by decide +kernel
theorem dX6_isWord_44 : decode cX6_isWord 44 = .ok (.iload_n 2, 1) := by decide +kernel
theorem dX6_isWord_45 : decode cX6_isWord 45 = .ok (.iadd, 1) := by decide +kernel
theorem dX6_isWord_46 : decode cX6_isWord 46 = .ok (.baload, 1) := by decide +kernel
theorem dX6_isWord_47 : decode cX6_isWord 47 = .ok (.aload_n 1, 1) := by decide +kernel
theorem dX6_isWord_48 : decode cX6_isWord 48 = .ok (.iload_n 2, 1) := by decide +kernel
theorem dX6_isWord_49 : decode cX6_isWord 49 = .ok (.invokevirtual 53, 3) := by decide +kernel
theorem dX6_isWord_52 : decode cX6_isWord 52 = .ok (.if_icmp .eq 5, 3) := by decide +kernel
theorem dX6_isWord_55 : decode cX6_isWord 55 = .ok (.iconst 0, 1) := by decide +kernel
theorem dX6_isWord_56 : decode cX6_isWord 56 = .ok (.ireturn, 1) := by decide +kernel
theorem dX6_isWord_57 : decode cX6_isWord 57 = .ok (.iinc 2 1, 3) := by decide +kernel
theorem dX6_isWord_60 : decode cX6_isWord 60 = .ok (.goto (-32), 3) := by decide +kernel
theorem dX6_isWord_63 : decode cX6_isWord 63 = .ok (.iconst 1, 1) := by decide +kernel
theorem dX6_isWord_64 : decode cX6_isWord 64 = .ok (.ireturn, 1) := by decide +kernel
theorem dX7_init_0 : decode cX7_init 0 = .ok (.aload_n 0, 1) := by decide +kernel
theorem dX7_init_1 : decode cX7_init 1 = .ok (.invokespecial 3, 3) := by decide +kernel
theorem dX7_init_4 : decode cX7_init 4 = .ok (.aload_n 0, 1) := by decide +kernel
theorem dX7_init_5 : decode cX7_init 5 = .ok (.bipush 10, 2) := by decide +kernel
theorem dX7_init_7 : decode cX7_init 7 = .ok (.newarray .int, 2) := by decide +kernel
theorem dX7_init_9 : decode cX7_init 9 = .ok (.putfield 9, 3) := by decide +kernel
theorem dX7_init_12 : decode cX7_init 12 = .ok (.aload_n 0, 1) := by decide +kernel
theorem dX7_init_13 : decode cX7_init 13 = .ok (.bipush 10, 2) := by decide +kernel
theorem dX7_init_15 : decode cX7_init 15 = .ok (.newarray .int, 2) := by decide +kernel
theorem dX7_init_17 : decode cX7_init 17 = .ok (.putfield 15, 3) := by decide +kernel
theorem dX7_init_20 : decode cX7_init 20 = .ok (.aload_n 0, 1) := by decide +kernel
theorem dX7_init_21 : decode cX7_init 21 = .ok (.bipush 7, 2) := by decide +kernel
theorem dX7_init_23 : decode cX7_init 23 = .ok (.newarray .int, 2) := by decide +kernel
theorem dX7_init_25 : decode cX7_init 25 = .ok (.putfield 18, 3) := by decide +kernel
theorem dX7_init_28 : decode cX7_init 28 = .ok (.aload_n 0, 1) := by decide +kernel
theorem dX7_init_29 : decode cX7_init 29 = .ok (.bipush 7, 2) := by decide +kernel
theorem dX7_init_31 : decode cX7_init 31 = .ok (.newarray .int, 2) := by decide +kernel
theorem dX7_init_33 : decode cX7_init 33 = .ok (.putfield 21, 3) := by decide +kernel
theorem dX7_init_36 : decode cX7_init 36 = .ok (.aload_n 0, 1) := by decide +kernel
theorem dX7_init_37 : decode cX7_init 37 = .ok (.bipush 7, 2) := by decide +kernel
theorem dX7_init_39 : decode cX7_init 39 = .ok (.newarray .int, 2) := by decide +kernel
theorem dX7_init_41 : decode cX7_init 41 = .ok (.putfield 24, 3) := by decide +kernel
theorem dX7_init_44 : decode cX7_init 44 = .ok (.aload_n 0, 1) := by decide +kernel
theorem dX7_init_45 : decode cX7_init 45 = .ok (.iconst 5, 1) := by decide +kernel
theorem dX7_init_46 : decode cX7_init 46 = .ok (.anewarray 27, 3) := by decide +kernel
theorem dX7_init_49 : decode cX7_init 49 = .ok (.putfield 29, 3) := by decide +kernel
theorem dX7_init_52 : decode cX7_init 52 = .ok (.aload_n 0, 1) := by decide +kernel
theorem dX7_init_53 : decode cX7_init 53 = .ok (.iconst 1, 1) := by decide +kernel
theorem dX7_init_54 : decode cX7_init 54 = .ok (.putfield 33, 3) := by decide +kernel
theorem dX7_init_57 : decode cX7_init 57 = .ok (.iconst 0, 1) := by decide +kernel
theorem dX7_init_58 : decode cX7_init 58 = .ok (.istore_n 1, 1) := by decide +kernel
theorem dX7_init_59 : decode cX7_init 59 = .ok (.iload_n 1, 1) := by decide +kernel
theorem dX7_init_60 : decode cX7_init 60 = .ok (.iconst 5, 1) := by decide +kernel
theorem dX7_init_61 : decode cX7_init 61 = .ok (.if_icmp .ge 22, 3) := by decide +kernel
theorem dX7_init_64 : decode cX7_init 64 = .ok (.aload_n 0, 1) := by decide +kernel
theorem dX7_init_65 : decode cX7_init 65 = .ok (.getfield 29, 3) := by decide +kernel
theorem dX7_init_68 : decode cX7_init 68 = .ok (.iload_n 1, 1) := by decide +kernel
theorem dX7_init_69 : decode cX7_init 69 = .ok (.new 27, 3) := by decide +kernel
theorem dX7_init_72 : decode cX7_init 72 = .ok (.dup, 1) := by decide +kernel
theorem dX7_init_73 : decode cX7_init 73 = .ok (.invokespecial 37, 3) := by decide +kernel
theorem dX7_init_76 : decode cX7_init 76 = .ok (.aastore, 1) := by decide +kernel
theorem dX7_init_77 : decode cX7_init 77 = .ok (.iinc 1 1, 3) := by decide +kernel
theorem dX7_init_80 : decode cX7_init 80 = .ok (.goto (-21), 3) := by decide +kernel
theorem dX7_init_83 : decode cX7_init 83 = .ok (.return_, 1) := by decide +kernel
theorem dX7_clear_0 : decode cX7_clear 0 = .ok (.aload_n 0, 1) := by decide +kernel
theorem dX7_clear_1 : decode cX7_clear 1 = .ok (.iconst 0, 1) := by decide +kernel
theorem dX7_clear_2 : decode cX7_clear 2 = .ok (.putfield 38, 3) := by decide +kernel
theorem dX7_clear_5 : decode cX7_clear 5 = .ok (.aload_n 0, 1) := by decide +kernel
theorem dX7_clear_6 : decode cX7_clear 6 = .ok (.iconst 0, 1) := by decide +kernel
theorem dX7_clear_7 : decode cX7_clear 7 = .ok (.putfield 41, 3) := by decide +kernel
theorem dX7_clear_10 : decode cX7_clear 10 = .ok (.aload_n 0, 1) := by decide +kernel
theorem dX7_clear_11 : decode cX7_clear 11 = .ok (.iconst 0, 1) := by decide +kernel
theorem dX7_clear_12 : decode cX7_clear 12 = .ok (.putfield 44, 3) := by decide +kernel
theorem dX7_clear_15 : decode cX7_clear 15 = .ok (.aload_n 0, 1) := by decide +kernel
theorem dX7_clear_16 : decode cX7_clear 16 = .ok (.lconst 0, 1) := by decide +kernel
theorem dX7_clear_17 : decode cX7_clear 17 = .ok (.putfield 47, 3) := by decide +kernel
theorem dX7_clear_20 : decode cX7_clear 20 = .ok (.aload_n 0, 1) := by decide +kernel
theorem dX7_clear_21 : decode cX7_clear 21 = .ok (.iconst 1, 1) := by decide +kernel
theorem dX7_clear_22 : decode cX7_clear 22 = .ok (.putfield 33, 3) := by decide +kernel
theorem dX7_clear_25 : decode cX7_clear 25 = .ok (.aload_n 0, 1) := by decide +kernel
theorem dX7_clear_26 : decode cX7_clear 26 = .ok (.iconst 0, 1) := by decide +kernel
theorem dX7_clear_27 : decode cX7_clear 27 = .ok (.putfield 51, 3) := by decide +kernel
theorem dX7_clear_30 : decode cX7_clear 30 = .ok (.return_, 1) := by decide +kernel
theorem dX7_floodOn_0 : decode cX7_floodOn 0 = .ok (.iload_n 1, 1) := by decide +kernel
theorem dX7_floodOn_1 : decode cX7_floodOn 1 = .ok (.bipush 63, 2) := by decide +kernel
theorem dX7_floodOn_3 : decode cX7_floodOn 3 = .ok (.if_icmp .gt 20, 3) := by decide +kernel
theorem dX7_floodOn_6 : decode cX7_floodOn 6 = .ok (.aload_n 0, 1) := by decide +kernel
theorem dX7_floodOn_7 : decode cX7_floodOn 7 = .ok (.getfield 47, 3) := by decide +kernel
theorem dX7_floodOn_10 : decode cX7_floodOn 10 = .ok (.iload_n 1, 1) := by decide +kernel
theorem dX7_floodOn_11 : decode cX7_floodOn 11 = .ok (.lushr, 1) := by decide +kernel
theorem dX7_floodOn_12 : decode cX7_floodOn 12 = .ok (.lconst 1, 1) := by decide +kernel
theorem dX7_floodOn_13 : decode cX7_floodOn 13 = .ok (.land, 1) := by decide +kernel
theorem dX7_floodOn_14 : decode cX7_floodOn 14 = .ok (.lconst 0, 1) := by decide +kernel
theorem dX7_floodOn_15 : decode cX7_floodOn 15 = .ok (.lcmp, 1) := by decide +kernel
theorem dX7_floodOn_16 : decode cX7_floodOn 16 = .ok (.ifCond .eq 7, 3) := by decide +kernel
theorem dX7_floodOn_19 : decode cX7_floodOn 19 = .ok (.iconst 1, 1) := by decide +kernel
theorem dX7_floodOn_20 : decode cX7_floodOn 20 = .ok (.goto 4, 3) := by decide +kernel
theorem dX7_floodOn_23 : decode cX7_floodOn 23 = .ok (.iconst 0, 1) := by decide +kernel
theorem dX7_floodOn_24 : decode cX7_floodOn 24 = .ok (.ireturn, 1) := by decide +kernel
theorem dX7_quotedIn_0 : decode cX7_quotedIn 0 = .ok (.iconst 0, 1) := by decide +kernel
theorem dX7_quotedIn_1 : decode cX7_quotedIn 1 = .ok (.istore_n 2, 1) := by decide +kernel
theorem dX7_quotedIn_2 : decode cX7_quotedIn 2 = .ok (.iconst 0, 1) := by decide +kernel
theorem dX7_quotedIn_3 : decode cX7_quotedIn 3 = .ok (.istore_n 3, 1) := by decide +kernel
theorem dX7_quotedIn_4 : decode cX7_quotedIn 4 = .ok (.iload_n 3, 1) := by decide +kernel
theorem dX7_quotedIn_5 : decode cX7_quotedIn 5 = .ok (.aload_n 0, 1) := by decide +kernel
theorem dX7_quotedIn_6 : decode cX7_quotedIn 6 = .ok (.getfield 41, 3) := by decide +kernel
theorem dX7_quotedIn_9 : decode cX7_quotedIn 9 = .ok (.if_icmp .ge 26, 3) := by decide +kernel
theorem dX7_quotedIn_12 : decode cX7_quotedIn 12 = .ok (.iload_n 1, 1) := by decide +kernel
theorem dX7_quotedIn_13 : decode cX7_quotedIn 13 = .ok (.iload_n 3, 1) := by decide +kernel
theorem dX7_quotedIn_14 : decode cX7_quotedIn 14 = .ok (.ishr, 1) := by decide +kernel
theorem dX7_quotedIn_15 : decode cX7_quotedIn 15 = .ok (.iconst 1, 1) := by decide +kernel
theorem dX7_quotedIn_16 : decode cX7_quotedIn 16 = .ok (.iand, 1) := by decide +kernel
theorem dX7_quotedIn_17 : decode cX7_quotedIn 17 = .ok (.ifCond .eq 12, 3) := by decide +kernel
theorem dX7_quotedIn_20 : decode cX7_quotedIn 20 = .ok (.iload_n 2, 1) := by decide +kernel
theorem dX7_quotedIn_21 : decode cX7_quotedIn 21 = .ok (.aload_n 0, 1) := by decide +kernel
theorem dX7_quotedIn_22 : decode cX7_quotedIn 22 = .ok (.getfield 24, 3) := by decide +kernel
theorem dX7_quotedIn_25 : decode cX7_quotedIn 25 = .ok (.iload_n 3, 1) := by decide +kernel
theorem dX7_quotedIn_26 : decode cX7_quotedIn 26 = .ok (.iaload, 1) := by decide +kernel
theorem dX7_quotedIn_27 : decode cX7_quotedIn 27 = .ok (.ior, 1) := by decide +kernel
theorem dX7_quotedIn_28 : decode cX7_quotedIn 28 = .ok (.istore_n 2, 1) := by decide +kernel
theorem dX7_quotedIn_29 : decode cX7_quotedIn 29 = .ok (.iinc 3 1, 3) := by decide +kernel
theorem dX7_quotedIn_32 : decode cX7_quotedIn 32 = .ok (.goto (-28), 3) := by decide +kernel
theorem dX7_quotedIn_35 : decode cX7_quotedIn 35 = .ok (.iload_n 2, 1) := by decide +kernel
theorem dX7_quotedIn_36 : decode cX7_quotedIn 36 = .ok (.ireturn, 1) := by decide +kernel
theorem dX7_casesOfCourt_0 : decode cX7_casesOfCourt 0 = .ok (.iconst 0, 1) := by decide +kernel
theorem dX7_casesOfCourt_1 : decode cX7_casesOfCourt 1 = .ok (.istore_n 2, 1) := by decide +kernel
theorem dX7_casesOfCourt_2 : decode cX7_casesOfCourt 2 = .ok (.iconst 0, 1) := by decide +kernel
theorem dX7_casesOfCourt_3 : decode cX7_casesOfCourt 3 = .ok (.istore_n 3, 1) := by decide +kernel
theorem dX7_casesOfCourt_4 : decode cX7_casesOfCourt 4 = .ok (.iload_n 3, 1) := by decide +kernel
theorem dX7_casesOfCourt_5 : decode cX7_casesOfCourt 5 = .ok (.aload_n 0, 1) := by decide +kernel
theorem dX7_casesOfCourt_6 : decode cX7_casesOfCourt 6 = .ok (.getfield 41, 3) := by decide +kernel
theorem dX7_casesOfCourt_9 : decode cX7_casesOfCourt 9 = .ok (.if_icmp .ge 25, 3) := by decide +kernel
theorem dX7_casesOfCourt_12 : decode cX7_casesOfCourt 12 = .ok (.aload_n 0, 1) := by decide +kernel
theorem dX7_casesOfCourt_13 : decode cX7_casesOfCourt 13 = .ok (.getfield 18, 3) := by decide +kernel
theorem dX7_casesOfCourt_16 : decode cX7_casesOfCourt 16 = .ok (.iload_n 3, 1) := by decide +kernel
theorem dX7_casesOfCourt_17 : decode cX7_casesOfCourt 17 = .ok (.iaload, 1) := by decide +kernel
theorem dX7_casesOfCourt_18 : decode cX7_casesOfCourt 18 = .ok (.iload_n 1, 1) := by decide +kernel
theorem dX7_casesOfCourt_19 : decode cX7_casesOfCourt 19 = .ok (.if_icmp .ne 9, 3) := by decide +kernel
theorem dX7_casesOfCourt_22 : decode cX7_casesOfCourt 22 = .ok (.iload_n 2, 1) := by decide +kernel
theorem dX7_casesOfCourt_23 : decode cX7_casesOfCourt 23 = .ok (.iconst 1, 1) := by decide +kernel
theorem dX7_casesOfCourt_24 : decode cX7_casesOfCourt 24 = .ok (.iload_n 3, 1) := by decide +kernel
theorem dX7_casesOfCourt_25 : decode cX7_casesOfCourt 25 = .ok (.ishl, 1) := by decide +kernel
theorem dX7_casesOfCourt_26 : decode cX7_casesOfCourt 26 = .ok (.ior, 1) := by decide +kernel
theorem dX7_casesOfCourt_27 : decode cX7_casesOfCourt 27 = .ok (.istore_n 2, 1) := by decide +kernel
theorem dX7_casesOfCourt_28 : decode cX7_casesOfCourt 28 = .ok (.iinc 3 1, 3) := by decide +kernel
theorem dX7_casesOfCourt_31 : decode cX7_casesOfCourt 31 = .ok (.goto (-27), 3) := by decide +kernel
theorem dX7_casesOfCourt_34 : decode cX7_casesOfCourt 34 = .ok (.iload_n 2, 1) := by decide +kernel
theorem dX7_casesOfCourt_35 : decode cX7_casesOfCourt 35 = .ok (.ireturn, 1) := by decide +kernel
theorem dX7_addBook_0 : decode cX7_addBook 0 = .ok (.aload_n 0, 1) := by decide +kernel
theorem dX7_addBook_1 : decode cX7_addBook 1 = .ok (.getfield 38, 3) := by decide +kernel
theorem dX7_addBook_4 : decode cX7_addBook 4 = .ok (.bipush 10, 2) := by decide +kernel
theorem dX7_addBook_6 : decode cX7_addBook 6 = .ok (.if_icmp .ge 33, 3) := by decide +kernel
theorem dX7_addBook_9 : decode cX7_addBook 9 = .ok (.aload_n 0, 1) := by decide +kernel
theorem dX7_addBook_10 : decode cX7_addBook 10 = .ok (.getfield 9, 3) := by decide +kernel
theorem dX7_addBook_13 : decode cX7_addBook 13 = .ok (.aload_n 0, 1) := by decide +kernel
theorem dX7_addBook_14 : decode cX7_addBook 14 = .ok (.getfield 38, 3) := by decide +kernel
theorem dX7_addBook_17 : decode cX7_addBook 17 = .ok (.iload_n 1, 1) := by decide +kernel
theorem dX7_addBook_18 : decode cX7_addBook 18 = .ok (.iastore, 1) := by decide +kernel
theorem dX7_addBook_19 : decode cX7_addBook 19 = .ok (.aload_n 0, 1) := by decide +kernel
theorem dX7_addBook_20 : decode cX7_addBook 20 = .ok (.getfield 15, 3) := by decide +kernel
theorem dX7_addBook_23 : decode cX7_addBook 23 = .ok (.aload_n 0, 1) := by decide +kernel
theorem dX7_addBook_24 : decode cX7_addBook 24 = .ok (.getfield 38, 3) := by decide +kernel
theorem dX7_addBook_27 : decode cX7_addBook 27 = .ok (.iconst 0, 1) := by decide +kernel
theorem dX7_addBook_28 : decode cX7_addBook 28 = .ok (.iastore, 1) := by decide +kernel
theorem dX7_addBook_29 : decode cX7_addBook 29 = .ok (.aload_n 0, 1) := by decide +kernel
theorem dX7_addBook_30 : decode cX7_addBook 30 = .ok (.dup, 1) := by decide +kernel
theorem dX7_addBook_31 : decode cX7_addBook 31 = .ok (.getfield 38, 3) := by decide +kernel
theorem dX7_addBook_34 : decode cX7_addBook 34 = .ok (.iconst 1, 1) := by decide +kernel
theorem dX7_addBook_35 : decode cX7_addBook 35 = .ok (.iadd, 1) := by decide +kernel
theorem dX7_addBook_36 : decode cX7_addBook 36 = .ok (.putfield 38, 3) := by decide +kernel
theorem dX7_addBook_39 : decode cX7_addBook 39 = .ok (.return_, 1) := by decide +kernel
theorem dX7_addCase_0 : decode cX7_addCase 0 = .ok (.aload_n 0, 1) := by decide +kernel
theorem dX7_addCase_1 : decode cX7_addCase 1 = .ok (.getfield 41, 3) := by decide +kernel
theorem dX7_addCase_4 : decode cX7_addCase 4 = .ok (.bipush 7, 2) := by decide +kernel
theorem dX7_addCase_6 : decode cX7_addCase 6 = .ok (.if_icmp .ge 82, 3) := by decide +kernel
theorem dX7_addCase_9 : decode cX7_addCase 9 = .ok (.aload_n 0, 1) := by decide +kernel
theorem dX7_addCase_10 : decode cX7_addCase 10 = .ok (.getfield 18, 3) := by decide +kernel
theorem dX7_addCase_13 : decode cX7_addCase 13 = .ok (.aload_n 0, 1) := by decide +kernel
theorem dX7_addCase_14 : decode cX7_addCase 14 = .ok (.getfield 41, 3) := by decide +kernel
theorem dX7_addCase_17 : decode cX7_addCase 17 = .ok (.iload_n 1, 1) := by decide +kernel
theorem dX7_addCase_18 : decode cX7_addCase 18 = .ok (.iastore, 1) := by decide +kernel
theorem dX7_addCase_19 : decode cX7_addCase 19 = .ok (.aload_n 0, 1) := by decide +kernel
theorem dX7_addCase_20 : decode cX7_addCase 20 = .ok (.getfield 21, 3) := by decide +kernel
theorem dX7_addCase_23 : decode cX7_addCase 23 = .ok (.aload_n 0, 1) := by decide +kernel
theorem dX7_addCase_24 : decode cX7_addCase 24 = .ok (.getfield 41, 3) := by decide +kernel
theorem dX7_addCase_27 : decode cX7_addCase 27 = .ok (.iload_n 2, 1) := by decide +kernel
theorem dX7_addCase_28 : decode cX7_addCase 28 = .ok (.iastore, 1) := by decide +kernel
theorem dX7_addCase_29 : decode cX7_addCase 29 = .ok (.aload_n 0, 1) := by decide +kernel
theorem dX7_addCase_30 : decode cX7_addCase 30 = .ok (.getfield 24, 3) := by decide +kernel
theorem dX7_addCase_33 : decode cX7_addCase 33 = .ok (.aload_n 0, 1) := by decide +kernel
theorem dX7_addCase_34 : decode cX7_addCase 34 = .ok (.getfield 41, 3) := by decide +kernel
theorem dX7_addCase_37 : decode cX7_addCase 37 = .ok (.iload_n 3, 1) := by decide +kernel
theorem dX7_addCase_38 : decode cX7_addCase 38 = .ok (.iastore, 1) := by decide +kernel
theorem dX7_addCase_39 : decode cX7_addCase 39 = .ok (.iconst 0, 1) := by decide +kernel
theorem dX7_addCase_40 : decode cX7_addCase 40 = .ok (.istore 4, 2) := by decide +kernel
theorem dX7_addCase_42 : decode cX7_addCase 42 = .ok (.iload 4, 2) := by decide +kernel
theorem dX7_addCase_44 : decode cX7_addCase 44 = .ok (.aload_n 0, 1) := by decide +kernel
theorem dX7_addCase_45 : decode cX7_addCase 45 = .ok (.getfield 38, 3) := by decide +kernel
theorem dX7_addCase_48 : decode cX7_addCase 48 = .ok (.if_icmp .ge 30, 3) := by decide +kernel
theorem dX7_addCase_51 : decode cX7_addCase 51 = .ok (.aload_n 0, 1) := by decide +kernel
theorem dX7_addCase_52 : decode cX7_addCase 52 = .ok (.getfield 15, 3) := by decide +kernel
theorem dX7_addCase_55 : decode cX7_addCase 55 = .ok (.iload 4, 2) := by decide +kernel
theorem dX7_addCase_57 : decode cX7_addCase 57 = .ok (.dup2, 1) := by decide +kernel
theorem dX7_addCase_58 : decode cX7_addCase 58 = .ok (.iaload, 1) := by decide +kernel
theorem dX7_addCase_59 : decode cX7_addCase 59 = .ok (.iload_n 3, 1) := by decide +kernel
theorem dX7_addCase_60 : decode cX7_addCase 60 = .ok (.iload 4, 2) := by decide +kernel
theorem dX7_addCase_62 : decode cX7_addCase 62 = .ok (.ishr, 1) := by decide +kernel
theorem dX7_addCase_63 : decode cX7_addCase 63 = .ok (.iconst 1, 1) := by decide +kernel
theorem dX7_addCase_64 : decode cX7_addCase 64 = .ok (.iand, 1) := by decide +kernel
theorem dX7_addCase_65 : decode cX7_addCase 65 = .ok (.aload_n 0, 1) := by decide +kernel
theorem dX7_addCase_66 : decode cX7_addCase 66 = .ok (.getfield 41, 3) := by decide +kernel
theorem dX7_addCase_69 : decode cX7_addCase 69 = .ok (.ishl, 1) := by decide +kernel
theorem dX7_addCase_70 : decode cX7_addCase 70 = .ok (.ior, 1) := by decide +kernel
theorem dX7_addCase_71 : decode cX7_addCase 71 = .ok (.iastore, 1) := by decide +kernel
theorem dX7_addCase_72 : decode cX7_addCase 72 = .ok (.iinc 4 1, 3) := by decide +kernel
theorem dX7_addCase_75 : decode cX7_addCase 75 = .ok (.goto (-33), 3) := by decide +kernel
theorem dX7_addCase_78 : decode cX7_addCase 78 = .ok (.aload_n 0, 1) := by decide +kernel
theorem dX7_addCase_79 : decode cX7_addCase 79 = .ok (.dup, 1) := by decide +kernel
theorem dX7_addCase_80 : decode cX7_addCase 80 = .ok (.getfield 41, 3) := by decide +kernel
theorem dX7_addCase_83 : decode cX7_addCase 83 = .ok (.iconst 1, 1) := by decide +kernel
theorem dX7_addCase_84 : decode cX7_addCase 84 = .ok (.iadd, 1) := by decide +kernel
theorem dX7_addCase_85 : decode cX7_addCase 85 = .ok (.putfield 41, 3) := by decide +kernel
theorem dX7_addCase_88 : decode cX7_addCase 88 = .ok (.return_, 1) := by decide +kernel
theorem dX8_init_0 : decode cX8_init 0 = .ok (.aload_n 0, 1) := by decide +kernel
theorem dX8_init_1 : decode cX8_init 1 = .ok (.invokespecial 3, 3) := by decide +kernel
theorem dX8_init_4 : decode cX8_init 4 = .ok (.aload_n 0, 1) := by decide +kernel
theorem dX8_init_5 : decode cX8_init 5 = .ok (.bipush 7, 2) := by decide +kernel
theorem dX8_init_7 : decode cX8_init 7 = .ok (.newarray .int, 2) := by decide +kernel
theorem dX8_init_9 : decode cX8_init 9 = .ok (.putfield 9, 3) := by decide +kernel
theorem dX8_init_12 : decode cX8_init 12 = .ok (.aload_n 0, 1) := by decide +kernel
theorem dX8_init_13 : decode cX8_init 13 = .ok (.bipush 10, 2) := by decide +kernel
theorem dX8_init_15 : decode cX8_init 15 = .ok (.newarray .int, 2) := by decide +kernel
theorem dX8_init_17 : decode cX8_init 17 = .ok (.putfield 15, 3) := by decide +kernel
theorem dX8_init_20 : decode cX8_init 20 = .ok (.aload_n 0, 1) := by decide +kernel
theorem dX8_init_21 : decode cX8_init 21 = .ok (.bipush 10, 2) := by decide +kernel
theorem dX8_init_23 : decode cX8_init 23 = .ok (.newarray .int, 2) := by decide +kernel
theorem dX8_init_25 : decode cX8_init 25 = .ok (.putfield 18, 3) := by decide +kernel
theorem dX8_init_28 : decode cX8_init 28 = .ok (.aload_n 0, 1) := by decide +kernel
theorem dX8_init_29 : decode cX8_init 29 = .ok (.bipush 10, 2) := by decide +kernel
theorem dX8_init_31 : decode cX8_init 31 = .ok (.newarray .int, 2) := by decide +kernel
theorem dX8_init_33 : decode cX8_init 33 = .ok (.putfield 21, 3) := by decide +kernel
theorem dX8_init_36 : decode cX8_init 36 = .ok (.aload_n 0, 1) := by decide +kernel
theorem dX8_init_37 : decode cX8_init 37 = .ok (.bipush 10, 2) := by decide +kernel
theorem dX8_init_39 : decode cX8_init 39 = .ok (.newarray .boolean, 2) := by decide +kernel
theorem dX8_init_41 : decode cX8_init 41 = .ok (.putfield 24, 3) := by decide +kernel
theorem dX8_init_44 : decode cX8_init 44 = .ok (.aload_n 0, 1) := by decide +kernel
theorem dX8_init_45 : decode cX8_init 45 = .ok (.iconst 3, 1) := by decide +kernel
theorem dX8_init_46 : decode cX8_init 46 = .ok (.newarray .int, 2) := by decide +kernel
theorem dX8_init_48 : decode cX8_init 48 = .ok (.putfield 28, 3) := by decide +kernel
theorem dX8_init_51 : decode cX8_init 51 = .ok (.return_, 1) := by decide +kernel
theorem dX8_begin_0 : decode cX8_begin 0 = .ok (.aload_n 0, 1) := by decide +kernel
theorem dX8_begin_1 : decode cX8_begin 1 = .ok (.getfield 9, 3) := by decide +kernel
theorem dX8_begin_4 : decode cX8_begin 4 = .ok (.invokestatic 31, 3) := by decide +kernel
theorem dX8_begin_7 : decode cX8_begin 7 = .ok (.aload_n 0, 1) := by decide +kernel
theorem dX8_begin_8 : decode cX8_begin 8 = .ok (.getfield 15, 3) := by decide +kernel
theorem dX8_begin_11 : decode cX8_begin 11 = .ok (.invokestatic 31, 3) := by decide +kernel
theorem dX8_begin_14 : decode cX8_begin 14 = .ok (.aload_n 0, 1) := by decide +kernel
theorem dX8_begin_15 : decode cX8_begin 15 = .ok (.iconst 0, 1) := by decide +kernel
theorem dX8_begin_16 : decode cX8_begin 16 = .ok (.putfield 35, 3) := by decide +kernel
theorem dX8_begin_19 : decode cX8_begin 19 = .ok (.return_, 1) := by decide +kernel
theorem dX8_refuse_0 : decode cX8_refuse 0 = .ok (.aload_n 0, 1) := by decide +kernel
theorem dX8_refuse_1 : decode cX8_refuse 1 = .ok (.getfield 28, 3) := by decide +kernel
theorem dX8_refuse_4 : decode cX8_refuse 4 = .ok (.iload_n 1, 1) := by decide +kernel
theorem dX8_refuse_5 : decode cX8_refuse 5 = .ok (.dup2, 1) := by decide +kernel
theorem dX8_refuse_6 : decode cX8_refuse 6 = .ok (.iaload, 1) := by decide +kernel
theorem dX8_refuse_7 : decode cX8_refuse 7 = .ok (.iconst 1, 1) := by decide +kernel
theorem dX8_refuse_8 : decode cX8_refuse 8 = .ok (.iadd, 1) := by decide +kernel
theorem dX8_refuse_9 : decode cX8_refuse 9 = .ok (.iastore, 1) := by decide +kernel
theorem dX8_refuse_10 : decode cX8_refuse 10 = .ok (.return_, 1) := by decide +kernel
theorem dX8_note_0 : decode cX8_note 0 = .ok (.aload_n 0, 1) := by decide +kernel
theorem dX8_note_1 : decode cX8_note 1 = .ok (.getfield 35, 3) := by decide +kernel
theorem dX8_note_4 : decode cX8_note 4 = .ok (.bipush 10, 2) := by decide +kernel
theorem dX8_note_6 : decode cX8_note 6 = .ok (.if_icmp .ge 43, 3) := by decide +kernel
theorem dX8_note_9 : decode cX8_note 9 = .ok (.aload_n 0, 1) := by decide +kernel
theorem dX8_note_10 : decode cX8_note 10 = .ok (.getfield 18, 3) := by decide +kernel
theorem dX8_note_13 : decode cX8_note 13 = .ok (.aload_n 0, 1) := by decide +kernel
theorem dX8_note_14 : decode cX8_note 14 = .ok (.getfield 35, 3) := by decide +kernel
theorem dX8_note_17 : decode cX8_note 17 = .ok (.iload_n 1, 1) := by decide +kernel
theorem dX8_note_18 : decode cX8_note 18 = .ok (.iastore, 1) := by decide +kernel
theorem dX8_note_19 : decode cX8_note 19 = .ok (.aload_n 0, 1) := by decide +kernel
theorem dX8_note_20 : decode cX8_note 20 = .ok (.getfield 21, 3) := by decide +kernel
theorem dX8_note_23 : decode cX8_note 23 = .ok (.aload_n 0, 1) := by decide +kernel
theorem dX8_note_24 : decode cX8_note 24 = .ok (.getfield 35, 3) := by decide +kernel
theorem dX8_note_27 : decode cX8_note 27 = .ok (.iload_n 2, 1) := by decide +kernel
theorem dX8_note_28 : decode cX8_note 28 = .ok (.iastore, 1) := by decide +kernel
theorem dX8_note_29 : decode cX8_note 29 = .ok (.aload_n 0, 1) := by decide +kernel
theorem dX8_note_30 : decode cX8_note 30 = .ok (.getfield 24, 3) := by decide +kernel
theorem dX8_note_33 : decode cX8_note 33 = .ok (.aload_n 0, 1) := by decide +kernel
theorem dX8_note_34 : decode cX8_note 34 = .ok (.getfield 35, 3) := by decide +kernel
theorem dX8_note_37 : decode cX8_note 37 = .ok (.iload_n 3, 1) := by decide +kernel
theorem dX8_note_38 : decode cX8_note 38 = .ok (.bastore, 1) := by decide +kernel
theorem dX8_note_39 : decode cX8_note 39 = .ok (.aload_n 0, 1) := by decide +kernel
theorem dX8_note_40 : decode cX8_note 40 = .ok (.dup, 1) := by decide +kernel
theorem dX8_note_41 : decode cX8_note 41 = .ok (.getfield 35, 3) := by decide +kernel
theorem dX8_note_44 : decode cX8_note 44 = .ok (.iconst 1, 1) := by decide +kernel
theorem dX8_note_45 : decode cX8_note 45 = .ok (.iadd, 1) := by decide +kernel
theorem dX8_note_46 : decode cX8_note 46 = .ok (.putfield 35, 3) := by decide +kernel
theorem dX8_note_49 : decode cX8_note 49 = .ok (.aload_n 0, 1) := by decide +kernel
theorem dX8_note_50 : decode cX8_note 50 = .ok (.getfield 35, 3) := by decide +kernel
theorem dX8_note_53 : decode cX8_note 53 = .ok (.ireturn, 1) := by decide +kernel
theorem dX8_copy_0 : decode cX8_copy 0 = .ok (.aload_n 1, 1) := by decide +kernel
theorem dX8_copy_1 : decode cX8_copy 1 = .ok (.getfield 9, 3) := by decide +kernel
theorem dX8_copy_4 : decode cX8_copy 4 = .ok (.iconst 0, 1) := by decide +kernel
theorem dX8_copy_5 : decode cX8_copy 5 = .ok (.aload_n 0, 1) := by decide +kernel
theorem dX8_copy_6 : decode cX8_copy 6 = .ok (.getfield 9, 3) := by decide +kernel
theorem dX8_copy_9 : decode cX8_copy 9 = .ok (.iconst 0, 1) := by decide +kernel
theorem dX8_copy_10 : decode cX8_copy 10 = .ok (.bipush 7, 2) := by decide +kernel
theorem dX8_copy_12 : decode cX8_copy 12 = .ok (.invokestatic 39, 3) := by decide +kernel
theorem dX8_copy_15 : decode cX8_copy 15 = .ok (.aload_n 1, 1) := by decide +kernel
theorem dX8_copy_16 : decode cX8_copy 16 = .ok (.getfield 15, 3) := by decide +kernel
theorem dX8_copy_19 : decode cX8_copy 19 = .ok (.iconst 0, 1) := by decide +kernel
theorem dX8_copy_20 : decode cX8_copy 20 = .ok (.aload_n 0, 1) := by decide +kernel
theorem dX8_copy_21 : decode cX8_copy 21 = .ok (.getfield 15, 3) := by decide +kernel
theorem dX8_copy_24 : decode cX8_copy 24 = .ok (.iconst 0, 1) := by decide +kernel
theorem dX8_copy_25 : decode cX8_copy 25 = .ok (.bipush 10, 2) := by decide +kernel
theorem dX8_copy_27 : decode cX8_copy 27 = .ok (.invokestatic 39, 3) := by decide +kernel
theorem dX8_copy_30 : decode cX8_copy 30 = .ok (.aload_n 1, 1) := by decide +kernel
theorem dX8_copy_31 : decode cX8_copy 31 = .ok (.getfield 18, 3) := by decide +kernel
theorem dX8_copy_34 : decode cX8_copy 34 = .ok (.iconst 0, 1) := by decide +kernel
theorem dX8_copy_35 : decode cX8_copy 35 = .ok (.aload_n 0, 1) := by decide +kernel
theorem dX8_copy_36 : decode cX8_copy 36 = .ok (.getfield 18, 3) := by decide +kernel
theorem dX8_copy_39 : decode cX8_copy 39 = .ok (.iconst 0, 1) := by decide +kernel
theorem dX8_copy_40 : decode cX8_copy 40 = .ok (.bipush 10, 2) := by decide +kernel
theorem dX8_copy_42 : decode cX8_copy 42 = .ok (.invokestatic 39, 3) := by decide +kernel
theorem dX8_copy_45 : decode cX8_copy 45 = .ok (.aload_n 1, 1) := by decide +kernel
theorem dX8_copy_46 : decode cX8_copy 46 = .ok (.getfield 21, 3) := by decide +kernel
theorem dX8_copy_49 : decode cX8_copy 49 = .ok (.iconst 0, 1) := by decide +kernel
theorem dX8_copy_50 : decode cX8_copy 50 = .ok (.aload_n 0, 1) := by decide +kernel
theorem dX8_copy_51 : decode cX8_copy 51 = .ok (.getfield 21, 3) := by decide +kernel
theorem dX8_copy_54 : decode cX8_copy 54 = .ok (.iconst 0, 1) := by decide +kernel
theorem dX8_copy_55 : decode cX8_copy 55 = .ok (.bipush 10, 2) := by decide +kernel
theorem dX8_copy_57 : decode cX8_copy 57 = .ok (.invokestatic 39, 3) := by decide +kernel
theorem dX8_copy_60 : decode cX8_copy 60 = .ok (.aload_n 1, 1) := by decide +kernel
theorem dX8_copy_61 : decode cX8_copy 61 = .ok (.getfield 28, 3) := by decide +kernel
theorem dX8_copy_64 : decode cX8_copy 64 = .ok (.iconst 0, 1) := by decide +kernel
theorem dX8_copy_65 : decode cX8_copy 65 = .ok (.aload_n 0, 1) := by decide +kernel
theorem dX8_copy_66 : decode cX8_copy 66 = .ok (.getfield 28, 3) := by decide +kernel
theorem dX8_copy_69 : decode cX8_copy 69 = .ok (.iconst 0, 1) := by decide +kernel
theorem dX8_copy_70 : decode cX8_copy 70 = .ok (.aload_n 0, 1) := by decide +kernel
theorem dX8_copy_71 : decode cX8_copy 71 = .ok (.getfield 28, 3) := by decide +kernel
theorem dX8_copy_74 : decode cX8_copy 74 = .ok (.arraylength, 1) := by decide +kernel
theorem dX8_copy_75 : decode cX8_copy 75 = .ok (.invokestatic 39, 3) := by decide +kernel
theorem dX8_copy_78 : decode cX8_copy 78 = .ok (.iconst 0, 1) := by decide +kernel
theorem dX8_copy_79 : decode cX8_copy 79 = .ok (.istore_n 2, 1) := by decide +kernel
theorem dX8_copy_80 : decode cX8_copy 80 = .ok (.iload_n 2, 1) := by decide +kernel
theorem dX8_copy_81 : decode cX8_copy 81 = .ok (.bipush 10, 2) := by decide +kernel
theorem dX8_copy_83 : decode cX8_copy 83 = .ok (.if_icmp .ge 21, 3) := by decide +kernel
theorem dX8_copy_86 : decode cX8_copy 86 = .ok (.aload_n 0, 1) := by decide +kernel
theorem dX8_copy_87 : decode cX8_copy 87 = .ok (.getfield 24, 3) := by decide +kernel
theorem dX8_copy_90 : decode cX8_copy 90 = .ok (.iload_n 2, 1) := by decide +kernel
theorem dX8_copy_91 : decode cX8_copy 91 = .ok (.aload_n 1, 1) := by decide +kernel
theorem dX8_copy_92 : decode cX8_copy 92 = .ok (.getfield 24, 3) := by decide +kernel
theorem dX8_copy_95 : decode cX8_copy 95 = .ok (.iload_n 2, 1) := by decide +kernel
theorem dX8_copy_96 : decode cX8_copy 96 = .ok (.baload, 1) := by decide +kernel
theorem dX8_copy_97 : decode cX8_copy 97 = .ok (.bastore, 1) := by decide +kernel
theorem dX8_copy_98 : decode cX8_copy 98 = .ok (.iinc 2 1, 3) := by decide +kernel
theorem dX8_copy_101 : decode cX8_copy 101 = .ok (.goto (-21), 3) := by decide +kernel
theorem dX8_copy_104 : decode cX8_copy 104 = .ok (.aload_n 0, 1) := by decide +kernel
theorem dX8_copy_105 : decode cX8_copy 105 = .ok (.aload_n 1, 1) := by decide +kernel
theorem dX8_copy_106 : decode cX8_copy 106 = .ok (.getfield 35, 3) := by decide +kernel
theorem dX8_copy_109 : decode cX8_copy 109 = .ok (.putfield 35, 3) := by decide +kernel
theorem dX8_copy_112 : decode cX8_copy 112 = .ok (.return_, 1) := by decide +kernel
theorem dX9_init_0 : decode cX9_init 0 = .ok (.aload_n 0, 1) := by decide +kernel
theorem dX9_init_1 : decode cX9_init 1 = .ok (.invokespecial 3, 3) := by decide +kernel
theorem dX9_init_4 : decode cX9_init 4 = .ok (.aload_n 0, 1) := by decide +kernel
theorem dX9_init_5 : decode cX9_init 5 = .ok (.bipush 7, 2) := by decide +kernel
theorem dX9_init_7 : decode cX9_init 7 = .ok (.newarray .int, 2) := by decide +kernel
theorem dX9_init_9 : decode cX9_init 9 = .ok (.putfield 9, 3) := by decide +kernel
theorem dX9_init_12 : decode cX9_init 12 = .ok (.aload_n 0, 1) := by decide +kernel
theorem dX9_init_13 : decode cX9_init 13 = .ok (.bipush 7, 2) := by decide +kernel
theorem dX9_init_15 : decode cX9_init 15 = .ok (.newarray .int, 2) := by decide +kernel
theorem dX9_init_17 : decode cX9_init 17 = .ok (.putfield 15, 3) := by decide +kernel
theorem dX9_init_20 : decode cX9_init 20 = .ok (.aload_n 0, 1) := by decide +kernel
theorem dX9_init_21 : decode cX9_init 21 = .ok (.iconst 2, 1) := by decide +kernel
theorem dX9_init_22 : decode cX9_init 22 = .ok (.newarray .int, 2) := by decide +kernel
theorem dX9_init_24 : decode cX9_init 24 = .ok (.putfield 18, 3) := by decide +kernel
theorem dX9_init_27 : decode cX9_init 27 = .ok (.aload_n 0, 1) := by decide +kernel
theorem dX9_init_28 : decode cX9_init 28 = .ok (.iconst 2, 1) := by decide +kernel
theorem dX9_init_29 : decode cX9_init 29 = .ok (.newarray .int, 2) := by decide +kernel
theorem dX9_init_31 : decode cX9_init 31 = .ok (.putfield 21, 3) := by decide +kernel
theorem dX9_init_34 : decode cX9_init 34 = .ok (.aload_n 0, 1) := by decide +kernel
theorem dX9_init_35 : decode cX9_init 35 = .ok (.aload_n 1, 1) := by decide +kernel
theorem dX9_init_36 : decode cX9_init 36 = .ok (.putfield 24, 3) := by decide +kernel
theorem dX9_init_39 : decode cX9_init 39 = .ok (.return_, 1) := by decide +kernel
theorem dX9_hold_0 : decode cX9_hold 0 = .ok (.aload_n 0, 1) := by decide +kernel
theorem dX9_hold_1 : decode cX9_hold 1 = .ok (.aload_n 1, 1) := by decide +kernel
theorem dX9_hold_2 : decode cX9_hold 2 = .ok (.putfield 24, 3) := by decide +kernel
theorem dX9_hold_5 : decode cX9_hold 5 = .ok (.aload_n 0, 1) := by decide +kernel
theorem dX9_hold_6 : decode cX9_hold 6 = .ok (.getfield 18, 3) := by decide +kernel
theorem dX9_hold_9 : decode cX9_hold 9 = .ok (.iconst 0, 1) := by decide +kernel
theorem dX9_hold_10 : decode cX9_hold 10 = .ok (.invokestatic 28, 3) := by decide +kernel
theorem dX9_hold_13 : decode cX9_hold 13 = .ok (.aload_n 0, 1) := by decide +kernel
theorem dX9_hold_14 : decode cX9_hold 14 = .ok (.getfield 21, 3) := by decide +kernel
theorem dX9_hold_17 : decode cX9_hold 17 = .ok (.iconst 0, 1) := by decide +kernel
theorem dX9_hold_18 : decode cX9_hold 18 = .ok (.invokestatic 28, 3) := by decide +kernel
theorem dX9_hold_21 : decode cX9_hold 21 = .ok (.aload_n 2, 1) := by decide +kernel
theorem dX9_hold_22 : decode cX9_hold 22 = .ok (.iconst 0, 1) := by decide +kernel
theorem dX9_hold_23 : decode cX9_hold 23 = .ok (.aload_n 0, 1) := by decide +kernel
theorem dX9_hold_24 : decode cX9_hold 24 = .ok (.getfield 15, 3) := by decide +kernel
theorem dX9_hold_27 : decode cX9_hold 27 = .ok (.iconst 0, 1) := by decide +kernel
theorem dX9_hold_28 : decode cX9_hold 28 = .ok (.aload_n 0, 1) := by decide +kernel
theorem dX9_hold_29 : decode cX9_hold 29 = .ok (.getfield 24, 3) := by decide +kernel
theorem dX9_hold_32 : decode cX9_hold 32 = .ok (.getfield 34, 3) := by decide +kernel
theorem dX9_hold_35 : decode cX9_hold 35 = .ok (.invokestatic 40, 3) := by decide +kernel
theorem dX9_hold_38 : decode cX9_hold 38 = .ok (.aload_n 0, 1) := by decide +kernel
theorem dX9_hold_39 : decode cX9_hold 39 = .ok (.getfield 24, 3) := by decide +kernel
theorem dX9_hold_42 : decode cX9_hold 42 = .ok (.getfield 34, 3) := by decide +kernel
theorem dX9_hold_45 : decode cX9_hold 45 = .ok (.istore_n 3, 1) := by decide +kernel
theorem dX9_hold_46 : decode cX9_hold 46 = .ok (.iconst 0, 1) := by decide +kernel
theorem dX9_hold_47 : decode cX9_hold 47 = .ok (.istore 4, 2) := by decide +kernel
theorem dX9_hold_49 : decode cX9_hold 49 = .ok (.iconst 0, 1) := by decide +kernel
theorem dX9_hold_50 : decode cX9_hold 50 = .ok (.istore 5, 2) := by decide +kernel
theorem dX9_hold_52 : decode cX9_hold 52 = .ok (.iload 5, 2) := by decide +kernel
theorem dX9_hold_54 : decode cX9_hold 54 = .ok (.bipush 63, 2) := by decide +kernel
theorem dX9_hold_56 : decode cX9_hold 56 = .ok (.if_icmp .gt 35, 3) := by decide +kernel
theorem dX9_hold_59 : decode cX9_hold 59 = .ok (.iload_n 3, 1) := by decide +kernel
theorem dX9_hold_60 : decode cX9_hold 60 = .ok (.ifCond .le 31, 3) := by decide +kernel
theorem dX9_hold_63 : decode cX9_hold 63 = .ok (.aload_n 0, 1) := by decide +kernel
theorem dX9_hold_64 : decode cX9_hold 64 = .ok (.iload 4, 2) := by decide +kernel
theorem dX9_hold_66 : decode cX9_hold 66 = .ok (.invokevirtual 46, 3) := by decide +kernel
theorem dX9_hold_69 : decode cX9_hold 69 = .ok (.aload_n 0, 1) := by decide +kernel
theorem dX9_hold_70 : decode cX9_hold 70 = .ok (.iload_n 3, 1) := by decide +kernel
theorem dX9_hold_71 : decode cX9_hold 71 = .ok (.iload 4, 2) := by decide +kernel
theorem dX9_hold_73 : decode cX9_hold 73 = .ok (.invokevirtual 50, 3) := by decide +kernel
theorem dX9_hold_76 : decode cX9_hold 76 = .ok (.istore_n 3, 1) := by decide +kernel
theorem dX9_hold_77 : decode cX9_hold 77 = .ok (.aload_n 0, 1) := by decide +kernel
theorem dX9_hold_78 : decode cX9_hold 78 = .ok (.iload 4, 2) := by decide +kernel
theorem dX9_hold_80 : decode cX9_hold 80 = .ok (.invokevirtual 54, 3) := by decide +kernel
theorem dX9_hold_83 : decode cX9_hold 83 = .ok (.istore 4, 2) := by decide +kernel
theorem dX9_hold_85 : decode cX9_hold 85 = .ok (.iinc 5 1, 3) := by decide +kernel
theorem dX9_hold_88 : decode cX9_hold 88 = .ok (.goto (-36), 3) := by decide +kernel
theorem dX9_hold_91 : decode cX9_hold 91 = .ok (.aload_n 0, 1) := by decide +kernel
theorem dX9_hold_92 : decode cX9_hold 92 = .ok (.aload_n 0, 1) := by decide +kernel
theorem dX9_hold_93 : decode cX9_hold 93 = .ok (.getfield 18, 3) := by decide +kernel
theorem dX9_hold_96 : decode cX9_hold 96 = .ok (.iconst 0, 1) := by decide +kernel
theorem dX9_hold_97 : decode cX9_hold 97 = .ok (.iaload, 1) := by decide +kernel
theorem dX9_hold_98 : decode cX9_hold 98 = .ok (.aload_n 0, 1) := by decide +kernel
theorem dX9_hold_99 : decode cX9_hold 99 = .ok (.getfield 18, 3) := by decide +kernel
theorem dX9_hold_102 : decode cX9_hold 102 = .ok (.iconst 1, 1) := by decide +kernel
theorem dX9_hold_103 : decode cX9_hold 103 = .ok (.iaload, 1) := by decide +kernel
theorem dX9_hold_104 : decode cX9_hold 104 = .ok (.invokestatic 58, 3) := by decide +kernel
theorem dX9_hold_107 : decode cX9_hold 107 = .ok (.putfield 63, 3) := by decide +kernel
theorem dX9_hold_110 : decode cX9_hold 110 = .ok (.return_, 1) := by decide +kernel
theorem dX9_putBack_0 : decode cX9_putBack 0 = .ok (.iconst 0, 1) := by decide +kernel
theorem dX9_putBack_1 : decode cX9_putBack 1 = .ok (.istore_n 2, 1) := by decide +kernel
theorem dX9_putBack_2 : decode cX9_putBack 2 = .ok (.iload_n 2, 1) := by decide +kernel
theorem dX9_putBack_3 : decode cX9_putBack 3 = .ok (.iconst 2, 1) := by decide +kernel
theorem dX9_putBack_4 : decode cX9_putBack 4 = .ok (.if_icmp .ge 26, 3) := by decide +kernel
theorem dX9_putBack_7 : decode cX9_putBack 7 = .ok (.aload_n 0, 1) := by decide +kernel
theorem dX9_putBack_8 : decode cX9_putBack 8 = .ok (.getfield 18, 3) := by decide +kernel
theorem dX9_putBack_11 : decode cX9_putBack 11 = .ok (.iload_n 2, 1) := by decide +kernel
theorem dX9_putBack_12 : decode cX9_putBack 12 = .ok (.iaload, 1) := by decide +kernel
theorem dX9_putBack_13 : decode cX9_putBack 13 = .ok (.iload_n 1, 1) := by decide +kernel
theorem dX9_putBack_14 : decode cX9_putBack 14 = .ok (.if_icmp .gt 10, 3) := by decide +kernel
theorem dX9_putBack_17 : decode cX9_putBack 17 = .ok (.aload_n 0, 1) := by decide +kernel
theorem dX9_putBack_18 : decode cX9_putBack 18 = .ok (.getfield 21, 3) := by decide +kernel
theorem dX9_putBack_21 : decode cX9_putBack 21 = .ok (.iload_n 2, 1) := by decide +kernel
theorem dX9_putBack_22 : decode cX9_putBack 22 = .ok (.iconst 0, 1) := by decide +kernel
theorem dX9_putBack_23 : decode cX9_putBack 23 = .ok (.iastore, 1) := by decide +kernel
theorem dX9_putBack_24 : decode cX9_putBack 24 = .ok (.iinc 2 1, 3) := by decide +kernel
theorem dX9_putBack_27 : decode cX9_putBack 27 = .ok (.goto (-25), 3) := by decide +kernel
theorem dX9_putBack_30 : decode cX9_putBack 30 = .ok (.return_, 1) := by decide +kernel
theorem dX9_beginSome_0 : decode cX9_beginSome 0 = .ok (.iconst 0, 1) := by decide +kernel
theorem dX9_beginSome_1 : decode cX9_beginSome 1 = .ok (.istore_n 3, 1) := by decide +kernel
theorem dX9_beginSome_2 : decode cX9_beginSome 2 = .ok (.iconst 0, 1) := by decide +kernel
theorem dX9_beginSome_3 : decode cX9_beginSome 3 = .ok (.istore 4, 2) := by decide +kernel
theorem dX9_beginSome_5 : decode cX9_beginSome 5 = .ok (.iload 4, 2) := by decide +kernel
theorem dX9_beginSome_7 : decode cX9_beginSome 7 = .ok (.iload_n 1, 1) := by decide +kernel
theorem dX9_beginSome_8 : decode cX9_beginSome 8 = .ok (.if_icmp .ge 122, 3) := by decide +kernel
theorem dX9_beginSome_11 : decode cX9_beginSome 11 = .ok (.aload_n 0, 1) := by decide +kernel
theorem dX9_beginSome_12 : decode cX9_beginSome 12 = .ok (.getfield 15, 3) := by decide +kernel
theorem dX9_beginSome_15 : decode cX9_beginSome 15 = .ok (.iload 4, 2) := by decide +kernel
theorem dX9_beginSome_17 : decode cX9_beginSome 17 = .ok (.iaload, 1) := by decide +kernel
theorem dX9_beginSome_18 : decode cX9_beginSome 18 = .ok (.istore 5, 2) := by decide +kernel
theorem dX9_beginSome_20 : decode cX9_beginSome 20 = .ok (.aload_n 0, 1) := by decide +kernel
theorem dX9_beginSome_21 : decode cX9_beginSome 21 = .ok (.getfield 24, 3) := by decide +kernel
theorem dX9_beginSome_24 : decode cX9_beginSome 24 = .ok (.getfield 66, 3) := by decide +kernel
theorem dX9_beginSome_27 : decode cX9_beginSome 27 = .ok (.iload 5, 2) := by decide +kernel
theorem dX9_beginSome_29 : decode cX9_beginSome 29 = .ok (.iaload, 1) := by decide +kernel
theorem dX9_beginSome_30 : decode cX9_beginSome 30 = .ok (.istore 6, 2) := by decide +kernel
theorem dX9_beginSome_32 : decode cX9_beginSome 32 = .ok (.aload_n 0, 1) := by decide +kernel
theorem dX9_beginSome_33 : decode cX9_beginSome 33 = .ok (.getfield 24, 3) := by decide +kernel
theorem dX9_beginSome_36 : decode cX9_beginSome 36 = .ok (.getfield 69, 3) := by decide +kernel
theorem dX9_beginSome_39 : decode cX9_beginSome 39 = .ok (.iload 5, 2) := by decide +kernel
theorem dX9_beginSome_41 : decode cX9_beginSome 41 = .ok (.iaload, 1) := by decide +kernel
theorem dX9_beginSome_42 : decode cX9_beginSome 42 = .ok (.istore 7, 2) := by decide +kernel
theorem dX9_beginSome_44 : decode cX9_beginSome 44 = .ok (.aload_n 0, 1) := by decide +kernel
theorem dX9_beginSome_45 : decode cX9_beginSome 45 = .ok (.getfield 18, 3) := by decide +kernel
theorem dX9_beginSome_48 : decode cX9_beginSome 48 = .ok (.iload 6, 2) := by decide +kernel
theorem dX9_beginSome_50 : decode cX9_beginSome 50 = .ok (.iaload, 1) := by decide +kernel
theorem dX9_beginSome_51 : decode cX9_beginSome 51 = .ok (.iload_n 2, 1) := by decide +kernel
theorem dX9_beginSome_52 : decode cX9_beginSome 52 = .ok (.if_icmp .gt 22, 3) := by decide +kernel
theorem dX9_beginSome_55 : decode cX9_beginSome 55 = .ok (.aload_n 0, 1) := by decide +kernel
theorem dX9_beginSome_56 : decode cX9_beginSome 56 = .ok (.getfield 21, 3) := by decide +kernel
theorem dX9_beginSome_59 : decode cX9_beginSome 59 = .ok (.iconst 0, 1) := by decide +kernel
theorem dX9_beginSome_60 : decode cX9_beginSome 60 = .ok (.iaload, 1) := by decide +kernel
theorem dX9_beginSome_61 : decode cX9_beginSome 61 = .ok (.aload_n 0, 1) := by decide +kernel
theorem dX9_beginSome_62 : decode cX9_beginSome 62 = .ok (.getfield 21, 3) := by decide +kernel
theorem dX9_beginSome_65 : decode cX9_beginSome 65 = .ok (.iconst 1, 1) := by decide +kernel
theorem dX9_beginSome_66 : decode cX9_beginSome 66 = .ok (.iaload, 1) := by decide +kernel
theorem dX9_beginSome_67 : decode cX9_beginSome 67 = .ok (.ior, 1) := by decide +kernel
theorem dX9_beginSome_68 : decode cX9_beginSome 68 = .ok (.iload 7, 2) := by decide +kernel
theorem dX9_beginSome_70 : decode cX9_beginSome 70 = .ok (.iand, 1) := by decide +kernel
theorem dX9_beginSome_71 : decode cX9_beginSome 71 = .ok (.ifCond .eq 17, 3) := by decide +kernel
theorem dX9_beginSome_74 : decode cX9_beginSome 74 = .ok (.aload_n 0, 1) := by decide +kernel
theorem dX9_beginSome_75 : decode cX9_beginSome 75 = .ok (.getfield 15, 3) := by decide +kernel
theorem dX9_beginSome_78 : decode cX9_beginSome 78 = .ok (.iload_n 3, 1) := by decide +kernel
theorem dX9_beginSome_79 : decode cX9_beginSome 79 = .ok (.iload 5, 2) := by decide +kernel
theorem dX9_beginSome_81 : decode cX9_beginSome 81 = .ok (.iastore, 1) := by decide +kernel
theorem dX9_beginSome_82 : decode cX9_beginSome 82 = .ok (.iinc 3 1, 3) := by decide +kernel
theorem dX9_beginSome_85 : decode cX9_beginSome 85 = .ok (.goto 39, 3) := by decide +kernel
theorem dX9_beginSome_88 : decode cX9_beginSome 88 = .ok (.aload_n 0, 1) := by decide +kernel
theorem dX9_beginSome_89 : decode cX9_beginSome 89 = .ok (.getfield 9, 3) := by decide +kernel
theorem dX9_beginSome_92 : decode cX9_beginSome 92 = .ok (.iload 5, 2) := by decide +kernel
theorem dX9_beginSome_94 : decode cX9_beginSome 94 = .ok (.iload_n 2, 1) := by decide +kernel
theorem dX9_beginSome_95 : decode cX9_beginSome 95 = .ok (.iastore, 1) := by decide +kernel
theorem dX9_beginSome_96 : decode cX9_beginSome 96 = .ok (.aload_n 0, 1) := by decide +kernel
theorem dX9_beginSome_97 : decode cX9_beginSome 97 = .ok (.getfield 18, 3) := by decide +kernel
theorem dX9_beginSome_100 : decode cX9_beginSome 100 = .ok (.iload 6, 2) := by decide +kernel
theorem dX9_beginSome_102 : decode cX9_beginSome 102 = .ok (.iload_n 2, 1) := by decide +kernel
theorem dX9_beginSome_103 : decode cX9_beginSome 103 = .ok (.aload_n 0, 1) := by decide +kernel
theorem dX9_beginSome_104 : decode cX9_beginSome 104 = .ok (.getfield 24, 3) := by decide +kernel
theorem dX9_beginSome_107 : decode cX9_beginSome 107 = .ok (.getfield 72, 3) := by decide +kernel
theorem dX9_beginSome_110 : decode cX9_beginSome 110 = .ok (.iload 5, 2) := by decide +kernel
theorem dX9_beginSome_112 : decode cX9_beginSome 112 = .ok (.iaload, 1) := by decide +kernel
theorem dX9_beginSome_113 : decode cX9_beginSome 113 = .ok (.iadd, 1) := by decide +kernel
theorem dX9_beginSome_114 : decode cX9_beginSome 114 = .ok (.iastore, 1) := by decide +kernel
theorem dX9_beginSome_115 : decode cX9_beginSome 115 = .ok (.aload_n 0, 1) := by decide +kernel
theorem dX9_beginSome_116 : decode cX9_beginSome 116 = .ok (.getfield 21, 3) := by decide +kernel
theorem dX9_beginSome_119 : decode cX9_beginSome 119 = .ok (.iload 6, 2) := by decide +kernel
theorem dX9_beginSome_121 : decode cX9_beginSome 121 = .ok (.iload 7, 2) := by decide +kernel
theorem dX9_beginSome_123 : decode cX9_beginSome 123 = .ok (.iastore, 1) := by decide +kernel
theorem dX9_beginSome_124 : decode cX9_beginSome 124 = .ok (.iinc 4 1, 3) := by decide +kernel
theorem dX9_beginSome_127 : decode cX9_beginSome 127 = .ok (.goto (-122), 3) := by decide +kernel
theorem dX9_beginSome_130 : decode cX9_beginSome 130 = .ok (.iload_n 3, 1) := by decide +kernel
theorem dX9_beginSome_131 : decode cX9_beginSome 131 = .ok (.ireturn, 1) := by decide +kernel
theorem dX9_nextMorning_0 : decode cX9_nextMorning 0 = .ok (.aload_n 0, 1) := by decide +kernel
theorem dX9_nextMorning_1 : decode cX9_nextMorning 1 = .ok (.getfield 18, 3) := by decide +kernel
theorem dX9_nextMorning_4 : decode cX9_nextMorning 4 = .ok (.iconst 0, 1) := by decide +kernel
theorem dX9_nextMorning_5 : decode cX9_nextMorning 5 = .ok (.iaload, 1) := by decide +kernel
theorem dX9_nextMorning_6 : decode cX9_nextMorning 6 = .ok (.aload_n 0, 1) := by decide +kernel
theorem dX9_nextMorning_7 : decode cX9_nextMorning 7 = .ok (.getfield 18, 3) := by decide +kernel
theorem dX9_nextMorning_10 : decode cX9_nextMorning 10 = .ok (.iconst 1, 1) := by decide +kernel
theorem dX9_nextMorning_11 : decode cX9_nextMorning 11 = .ok (.iaload, 1) := by decide +kernel
theorem dX9_nextMorning_12 : decode cX9_nextMorning 12 = .ok (.invokestatic 75, 3) := by decide +kernel
theorem dX9_nextMorning_15 : decode cX9_nextMorning 15 = .ok (.istore_n 2, 1) := by decide +kernel
theorem dX9_nextMorning_16 : decode cX9_nextMorning 16 = .ok (.aload_n 0, 1) := by decide +kernel
theorem dX9_nextMorning_17 : decode cX9_nextMorning 17 = .ok (.getfield 18, 3) := by decide +kernel
theorem dX9_nextMorning_20 : decode cX9_nextMorning 20 = .ok (.iconst 0, 1) := by decide +kernel
theorem dX9_nextMorning_21 : decode cX9_nextMorning 21 = .ok (.iaload, 1) := by decide +kernel
theorem dX9_nextMorning_22 : decode cX9_nextMorning 22 = .ok (.aload_n 0, 1) := by decide +kernel
theorem dX9_nextMorning_23 : decode cX9_nextMorning 23 = .ok (.getfield 18, 3) := by decide +kernel
theorem dX9_nextMorning_26 : decode cX9_nextMorning 26 = .ok (.iconst 1, 1) := by decide +kernel
theorem dX9_nextMorning_27 : decode cX9_nextMorning 27 = .ok (.iaload, 1) := by decide +kernel
theorem dX9_nextMorning_28 : decode cX9_nextMorning 28 = .ok (.invokestatic 58, 3) := by decide +kernel
theorem dX9_nextMorning_31 : decode cX9_nextMorning 31 = .ok (.istore_n 3, 1) := by decide +kernel
theorem dX9_nextMorning_32 : decode cX9_nextMorning 32 = .ok (.iload_n 2, 1) := by decide +kernel
theorem dX9_nextMorning_33 : decode cX9_nextMorning 33 = .ok (.iload_n 1, 1) := by decide +kernel
theorem dX9_nextMorning_34 : decode cX9_nextMorning 34 = .ok (.if_icmp .le 7, 3) := by decide +kernel
theorem dX9_nextMorning_37 : decode cX9_nextMorning 37 = .ok (.iload_n 2, 1) := by decide +kernel
theorem dX9_nextMorning_38 : decode cX9_nextMorning 38 = .ok (.goto 10, 3) := by decide +kernel
theorem dX9_nextMorning_41 : decode cX9_nextMorning 41 = .ok (.iload_n 3, 1) := by decide +kernel
theorem dX9_nextMorning_42 : decode cX9_nextMorning 42 = .ok (.iload_n 1, 1) := by decide +kernel
theorem dX9_nextMorning_43 : decode cX9_nextMorning 43 = .ok (.iconst 1, 1) := by decide +kernel
theorem dX9_nextMorning_44 : decode cX9_nextMorning 44 = .ok (.iadd, 1) := by decide +kernel
theorem dX9_nextMorning_45 : decode cX9_nextMorning 45 = .ok (.invokestatic 58, 3) := by decide +kernel
theorem dX9_nextMorning_48 : decode cX9_nextMorning 48 = .ok (.ireturn, 1) := by decide +kernel
theorem dX9_heardOn_0 : decode cX9_heardOn 0 = .ok (.iconst 0, 1) := by decide +kernel
theorem dX9_heardOn_1 : decode cX9_heardOn 1 = .ok (.istore_n 2, 1) := by decide +kernel
theorem dX9_heardOn_2 : decode cX9_heardOn 2 = .ok (.iconst 0, 1) := by decide +kernel
theorem dX9_heardOn_3 : decode cX9_heardOn 3 = .ok (.istore_n 3, 1) := by decide +kernel
theorem dX9_heardOn_4 : decode cX9_heardOn 4 = .ok (.iload_n 3, 1) := by decide +kernel
theorem dX9_heardOn_5 : decode cX9_heardOn 5 = .ok (.aload_n 0, 1) := by decide +kernel
theorem dX9_heardOn_6 : decode cX9_heardOn 6 = .ok (.getfield 24, 3) := by decide +kernel
theorem dX9_heardOn_9 : decode cX9_heardOn 9 = .ok (.getfield 34, 3) := by decide +kernel
theorem dX9_heardOn_12 : decode cX9_heardOn 12 = .ok (.if_icmp .ge 45, 3) := by decide +kernel
theorem dX9_heardOn_15 : decode cX9_heardOn 15 = .ok (.aload_n 0, 1) := by decide +kernel
theorem dX9_heardOn_16 : decode cX9_heardOn 16 = .ok (.getfield 9, 3) := by decide +kernel
theorem dX9_heardOn_19 : decode cX9_heardOn 19 = .ok (.iload_n 3, 1) := by decide +kernel
theorem dX9_heardOn_20 : decode cX9_heardOn 20 = .ok (.iaload, 1) := by decide +kernel
theorem dX9_heardOn_21 : decode cX9_heardOn 21 = .ok (.iload_n 1, 1) := by decide +kernel
theorem dX9_heardOn_22 : decode cX9_heardOn 22 = .ok (.if_icmp .gt 29, 3) := by decide +kernel
theorem dX9_heardOn_25 : decode cX9_heardOn 25 = .ok (.iload_n 1, 1) := by decide +kernel
theorem dX9_heardOn_26 : decode cX9_heardOn 26 = .ok (.aload_n 0, 1) := by decide +kernel
theorem dX9_heardOn_27 : decode cX9_heardOn 27 = .ok (.getfield 9, 3) := by decide +kernel
theorem dX9_heardOn_30 : decode cX9_heardOn 30 = .ok (.iload_n 3, 1) := by decide +kernel
theorem dX9_heardOn_31 : decode cX9_heardOn 31 = .ok (.iaload, 1) := by decide +kernel
theorem dX9_heardOn_32 : decode cX9_heardOn 32 = .ok (.aload_n 0, 1) := by decide +kernel
theorem dX9_heardOn_33 : decode cX9_heardOn 33 = .ok (.getfield 24, 3) := by decide +kernel
theorem dX9_heardOn_36 : decode cX9_heardOn 36 = .ok (.getfield 72, 3) := by decide +kernel
theorem dX9_heardOn_39 : decode cX9_heardOn 39 = .ok (.iload_n 3, 1) := by decide +kernel
theorem dX9_heardOn_40 : decode cX9_heardOn 40 = .ok (.iaload, 1) := by decide +kernel
theorem dX9_heardOn_41 : decode cX9_heardOn 41 = .ok (.iadd, 1) := by decide +kernel
theorem dX9_heardOn_42 : decode cX9_heardOn 42 = .ok (.if_icmp .ge 9, 3) := by decide +kernel
theorem dX9_heardOn_45 : decode cX9_heardOn 45 = .ok (.iload_n 2, 1) := by decide +kernel
theorem dX9_heardOn_46 : decode cX9_heardOn 46 = .ok (.iconst 1, 1) := by decide +kernel
theorem dX9_heardOn_47 : decode cX9_heardOn 47 = .ok (.iload_n 3, 1) := by decide +kernel
theorem dX9_heardOn_48 : decode cX9_heardOn 48 = .ok (.ishl, 1) := by decide +kernel
theorem dX9_heardOn_49 : decode cX9_heardOn 49 = .ok (.ior, 1) := by decide +kernel
theorem dX9_heardOn_50 : decode cX9_heardOn 50 = .ok (.istore_n 2, 1) := by decide +kernel
theorem dX9_heardOn_51 : decode cX9_heardOn 51 = .ok (.iinc 3 1, 3) := by decide +kernel
theorem dX9_heardOn_54 : decode cX9_heardOn 54 = .ok (.goto (-50), 3) := by decide +kernel
theorem dX9_heardOn_57 : decode cX9_heardOn 57 = .ok (.iload_n 2, 1) := by decide +kernel
theorem dX9_heardOn_58 : decode cX9_heardOn 58 = .ok (.ireturn, 1) := by decide +kernel
theorem dX9_begunBy_0 : decode cX9_begunBy 0 = .ok (.iconst 0, 1) := by decide +kernel
theorem dX9_begunBy_1 : decode cX9_begunBy 1 = .ok (.istore_n 2, 1) := by decide +kernel
theorem dX9_begunBy_2 : decode cX9_begunBy 2 = .ok (.iconst 0, 1) := by decide +kernel
theorem dX9_begunBy_3 : decode cX9_begunBy 3 = .ok (.istore_n 3, 1) := by decide +kernel
theorem dX9_begunBy_4 : decode cX9_begunBy 4 = .ok (.iload_n 3, 1) := by decide +kernel
theorem dX9_begunBy_5 : decode cX9_begunBy 5 = .ok (.aload_n 0, 1) := by decide +kernel
theorem dX9_begunBy_6 : decode cX9_begunBy 6 = .ok (.getfield 24, 3) := by decide +kernel
theorem dX9_begunBy_9 : decode cX9_begunBy 9 = .ok (.getfield 34, 3) := by decide +kernel
theorem dX9_begunBy_12 : decode cX9_begunBy 12 = .ok (.if_icmp .ge 25, 3) := by decide +kernel
theorem dX9_begunBy_15 : decode cX9_begunBy 15 = .ok (.aload_n 0, 1) := by decide +kernel
theorem dX9_begunBy_16 : decode cX9_begunBy 16 = .ok (.getfield 9, 3) := by decide +kernel
theorem dX9_begunBy_19 : decode cX9_begunBy 19 = .ok (.iload_n 3, 1) := by decide +kernel
theorem dX9_begunBy_20 : decode cX9_begunBy 20 = .ok (.iaload, 1) := by decide +kernel
theorem dX9_begunBy_21 : decode cX9_begunBy 21 = .ok (.iload_n 1, 1) := by decide +kernel
theorem dX9_begunBy_22 : decode cX9_begunBy 22 = .ok (.if_icmp .gt 9, 3) := by decide +kernel
theorem dX9_begunBy_25 : decode cX9_begunBy 25 = .ok (.iload_n 2, 1) := by decide +kernel
theorem dX9_begunBy_26 : decode cX9_begunBy 26 = .ok (.iconst 1, 1) := by decide +kernel
theorem dX9_begunBy_27 : decode cX9_begunBy 27 = .ok (.iload_n 3, 1) := by decide +kernel
theorem dX9_begunBy_28 : decode cX9_begunBy 28 = .ok (.ishl, 1) := by decide +kernel
theorem dX9_begunBy_29 : decode cX9_begunBy 29 = .ok (.ior, 1) := by decide +kernel
theorem dX9_begunBy_30 : decode cX9_begunBy 30 = .ok (.istore_n 2, 1) := by decide +kernel
theorem dX9_begunBy_31 : decode cX9_begunBy 31 = .ok (.iinc 3 1, 3) := by decide +kernel
theorem dX9_begunBy_34 : decode cX9_begunBy 34 = .ok (.goto (-30), 3) := by decide +kernel
theorem dX9_begunBy_37 : decode cX9_begunBy 37 = .ok (.iload_n 2, 1) := by decide +kernel
theorem dX9_begunBy_38 : decode cX9_begunBy 38 = .ok (.ireturn, 1) := by decide +kernel
theorem dX9_changes_0 : decode cX9_changes 0 = .ok (.lconst 1, 1) := by decide +kernel
theorem dX9_changes_1 : decode cX9_changes 1 = .ok (.lstore_n 1, 1) := by decide +kernel
theorem dX9_changes_2 : decode cX9_changes 2 = .ok (.iconst 0, 1) := by decide +kernel
theorem dX9_changes_3 : decode cX9_changes 3 = .ok (.istore_n 3, 1) := by decide +kernel
theorem dX9_changes_4 : decode cX9_changes 4 = .ok (.iload_n 3, 1) := by decide +kernel
theorem dX9_changes_5 : decode cX9_changes 5 = .ok (.aload_n 0, 1) := by decide +kernel
theorem dX9_changes_6 : decode cX9_changes 6 = .ok (.getfield 24, 3) := by decide +kernel
theorem dX9_changes_9 : decode cX9_changes 9 = .ok (.getfield 34, 3) := by decide +kernel
theorem dX9_changes_12 : decode cX9_changes 12 = .ok (.if_icmp .ge 39, 3) := by decide +kernel
theorem dX9_changes_15 : decode cX9_changes 15 = .ok (.lload_n 1, 1) := by decide +kernel
theorem dX9_changes_16 : decode cX9_changes 16 = .ok (.lconst 1, 1) := by decide +kernel
theorem dX9_changes_17 : decode cX9_changes 17 = .ok (.aload_n 0, 1) := by decide +kernel
theorem dX9_changes_18 : decode cX9_changes 18 = .ok (.getfield 9, 3) := by decide +kernel
theorem dX9_changes_21 : decode cX9_changes 21 = .ok (.iload_n 3, 1) := by decide +kernel
theorem dX9_changes_22 : decode cX9_changes 22 = .ok (.iaload, 1) := by decide +kernel
theorem dX9_changes_23 : decode cX9_changes 23 = .ok (.lshl, 1) := by decide +kernel
theorem dX9_changes_24 : decode cX9_changes 24 = .ok (.lconst 1, 1) := by decide +kernel
theorem dX9_changes_25 : decode cX9_changes 25 = .ok (.aload_n 0, 1) := by decide +kernel
theorem dX9_changes_26 : decode cX9_changes 26 = .ok (.getfield 9, 3) := by decide +kernel
theorem dX9_changes_29 : decode cX9_changes 29 = .ok (.iload_n 3, 1) := by decide +kernel
theorem dX9_changes_30 : decode cX9_changes 30 = .ok (.iaload, 1) := by decide +kernel
theorem dX9_changes_31 : decode cX9_changes 31 = .ok (.aload_n 0, 1) := by decide +kernel
theorem dX9_changes_32 : decode cX9_changes 32 = .ok (.getfield 24, 3) := by decide +kernel
theorem dX9_changes_35 : decode cX9_changes 35 = .ok (.getfield 72, 3) := by decide +kernel
theorem dX9_changes_38 : decode cX9_changes 38 = .ok (.iload_n 3, 1) := by decide +kernel
theorem dX9_changes_39 : decode cX9_changes 39 = .ok (.iaload, 1) := by decide +kernel
theorem dX9_changes_40 : decode cX9_changes 40 = .ok (.iadd, 1) := by decide +kernel
theorem dX9_changes_41 : decode cX9_changes 41 = .ok (.lshl, 1) := by decide +kernel
theorem dX9_changes_42 : decode cX9_changes 42 = .ok (.lor, 1) := by decide +kernel
theorem dX9_changes_43 : decode cX9_changes 43 = .ok (.lor, 1) := by decide +kernel
theorem dX9_changes_44 : decode cX9_changes 44 = .ok (.lstore_n 1, 1) := by decide +kernel
theorem dX9_changes_45 : decode cX9_changes 45 = .ok (.iinc 3 1, 3) := by decide +kernel
theorem dX9_changes_48 : decode cX9_changes 48 = .ok (.goto (-44), 3) := by decide +kernel
theorem dX9_changes_51 : decode cX9_changes 51 = .ok (.lload_n 1, 1) := by decide +kernel
theorem dX9_changes_52 : decode cX9_changes 52 = .ok (.lreturn, 1) := by decide +kernel
theorem dX9_pack_0 : decode cX9_pack 0 = .ok (.aload_n 0, 1) := by decide +kernel
theorem dX9_pack_1 : decode cX9_pack 1 = .ok (.getfield 63, 3) := by decide +kernel
theorem dX9_pack_4 : decode cX9_pack 4 = .ok (.i2l, 1) := by decide +kernel
theorem dX9_pack_5 : decode cX9_pack 5 = .ok (.lstore_n 1, 1) := by decide +kernel
theorem dX9_pack_6 : decode cX9_pack 6 = .ok (.aload_n 0, 1) := by decide +kernel
theorem dX9_pack_7 : decode cX9_pack 7 = .ok (.getfield 24, 3) := by decide +kernel
theorem dX9_pack_10 : decode cX9_pack 10 = .ok (.getfield 34, 3) := by decide +kernel
theorem dX9_pack_13 : decode cX9_pack 13 = .ok (.iconst 1, 1) := by decide +kernel
theorem dX9_pack_14 : decode cX9_pack 14 = .ok (.isub, 1) := by decide +kernel
theorem dX9_pack_15 : decode cX9_pack 15 = .ok (.istore_n 3, 1) := by decide +kernel
theorem dX9_pack_16 : decode cX9_pack 16 = .ok (.iload_n 3, 1) := by decide +kernel
theorem dX9_pack_17 : decode cX9_pack 17 = .ok (.ifCond .lt 22, 3) := by decide +kernel
theorem dX9_pack_20 : decode cX9_pack 20 = .ok (.lload_n 1, 1) := by decide +kernel
theorem dX9_pack_21 : decode cX9_pack 21 = .ok (.bipush 6, 2) := by decide +kernel
theorem dX9_pack_23 : decode cX9_pack 23 = .ok (.lshl, 1) := by decide +kernel
theorem dX9_pack_24 : decode cX9_pack 24 = .ok (.aload_n 0, 1) := by decide +kernel
theorem dX9_pack_25 : decode cX9_pack 25 = .ok (.getfield 9, 3) := by decide +kernel
theorem dX9_pack_28 : decode cX9_pack 28 = .ok (.iload_n 3, 1) := by decide +kernel
theorem dX9_pack_29 : decode cX9_pack 29 = .ok (.iaload, 1) := by decide +kernel
theorem dX9_pack_30 : decode cX9_pack 30 = .ok (.i2l, 1) := by decide +kernel
theorem dX9_pack_31 : decode cX9_pack 31 = .ok (.lor, 1) := by decide +kernel
theorem dX9_pack_32 : decode cX9_pack 32 = .ok (.lstore_n 1, 1) := by decide +kernel
theorem dX9_pack_33 : decode cX9_pack 33 = .ok (.iinc 3 (-1), 3) := by decide +kernel
theorem dX9_pack_36 : decode cX9_pack 36 = .ok (.goto (-20), 3) := by decide +kernel
theorem dX9_pack_39 : decode cX9_pack 39 = .ok (.lload_n 1, 1) := by decide +kernel
theorem dX9_pack_40 : decode cX9_pack 40 = .ok (.lreturn, 1) := by decide +kernel
theorem dX9_unpack_0 : decode cX9_unpack 0 = .ok (.aload_n 0, 1) := by decide +kernel
theorem dX9_unpack_1 : decode cX9_unpack 1 = .ok (.aload_n 1, 1) := by decide +kernel
theorem dX9_unpack_2 : decode cX9_unpack 2 = .ok (.putfield 24, 3) := by decide +kernel
theorem dX9_unpack_5 : decode cX9_unpack 5 = .ok (.lload_n 2, 1) := by decide +kernel
theorem dX9_unpack_6 : decode cX9_unpack 6 = .ok (.lstore 4, 2) := by decide +kernel
theorem dX9_unpack_8 : decode cX9_unpack 8 = .ok (.iconst 0, 1) := by decide +kernel
theorem dX9_unpack_9 : decode cX9_unpack 9 = .ok (.istore 6, 2) := by decide +kernel
theorem dX9_unpack_11 : decode cX9_unpack 11 = .ok (.iload 6, 2) := by decide +kernel
theorem dX9_unpack_13 : decode cX9_unpack 13 = .ok (.aload_n 0, 1) := by decide +kernel
theorem dX9_unpack_14 : decode cX9_unpack 14 = .ok (.getfield 24, 3) := by decide +kernel
theorem dX9_unpack_17 : decode cX9_unpack 17 = .ok (.getfield 34, 3) := by decide +kernel
theorem dX9_unpack_20 : decode cX9_unpack 20 = .ok (.if_icmp .ge 30, 3) := by decide +kernel
theorem dX9_unpack_23 : decode cX9_unpack 23 = .ok (.aload_n 0, 1) := by decide +kernel
theorem dX9_unpack_24 : decode cX9_unpack 24 = .ok (.getfield 9, 3) := by decide +kernel
theorem dX9_unpack_27 : decode cX9_unpack 27 = .ok (.iload 6, 2) := by decide +kernel
theorem dX9_unpack_29 : decode cX9_unpack 29 = .ok (.lload 4, 2) := by decide +kernel
theorem dX9_unpack_31 : decode cX9_unpack 31 = .ok (.ldc2_w 78, 3) := by decide +kernel
theorem dX9_unpack_34 : decode cX9_unpack 34 = .ok (.land, 1) := by decide +kernel
theorem dX9_unpack_35 : decode cX9_unpack 35 = .ok (.l2i, 1) := by decide +kernel
theorem dX9_unpack_36 : decode cX9_unpack 36 = .ok (.iastore, 1) := by decide +kernel
theorem dX9_unpack_37 : decode cX9_unpack 37 = .ok (.lload 4, 2) := by decide +kernel
theorem dX9_unpack_39 : decode cX9_unpack 39 = .ok (.bipush 6, 2) := by decide +kernel
theorem dX9_unpack_41 : decode cX9_unpack 41 = .ok (.lushr, 1) := by decide +kernel
theorem dX9_unpack_42 : decode cX9_unpack 42 = .ok (.lstore 4, 2) := by decide +kernel
theorem dX9_unpack_44 : decode cX9_unpack 44 = .ok (.iinc 6 1, 3) := by decide +kernel
theorem dX9_unpack_47 : decode cX9_unpack 47 = .ok (.goto (-36), 3) := by decide +kernel
theorem dX9_unpack_50 : decode cX9_unpack 50 = .ok (.aload_n 0, 1) := by decide +kernel
theorem dX9_unpack_51 : decode cX9_unpack 51 = .ok (.lload 4, 2) := by decide +kernel
theorem dX9_unpack_53 : decode cX9_unpack 53 = .ok (.l2i, 1) := by decide +kernel
theorem dX9_unpack_54 : decode cX9_unpack 54 = .ok (.putfield 63, 3) := by decide +kernel
theorem dX9_unpack_57 : decode cX9_unpack 57 = .ok (.return_, 1) := by decide +kernel
theorem dX10_init_0 : decode cX10_init 0 = .ok (.aload_n 0, 1) := by decide +kernel
theorem dX10_init_1 : decode cX10_init 1 = .ok (.invokespecial 3, 3) := by decide +kernel
theorem dX10_init_4 : decode cX10_init 4 = .ok (.return_, 1) := by decide +kernel
theorem dX10_days_0 : decode cX10_days 0 = .ok (.ldc2_w 9, 3) := by decide +kernel
theorem dX10_days_3 : decode cX10_days 3 = .ok (.bipush 63, 2) := by decide +kernel
theorem dX10_days_5 : decode cX10_days 5 = .ok (.aload_n 0, 1) := by decide +kernel
theorem dX10_days_6 : decode cX10_days 6 = .ok (.getfield 11, 3) := by decide +kernel
theorem dX10_days_9 : decode cX10_days 9 = .ok (.isub, 1) := by decide +kernel
theorem dX10_days_10 : decode cX10_days 10 = .ok (.lushr, 1) := by decide +kernel
theorem dX10_days_11 : decode cX10_days 11 = .ok (.ldc2_w 9, 3) := by decide +kernel
theorem dX10_days_14 : decode cX10_days 14 = .ok (.aload_n 0, 1) := by decide +kernel
theorem dX10_days_15 : decode cX10_days 15 = .ok (.getfield 17, 3) := by decide +kernel
theorem dX10_days_18 : decode cX10_days 18 = .ok (.lshl, 1) := by decide +kernel
theorem dX10_days_19 : decode cX10_days 19 = .ok (.land, 1) := by decide +kernel
theorem dX10_days_20 : decode cX10_days 20 = .ok (.lreturn, 1) := by decide +kernel
theorem dX10_needs_0 : decode cX10_needs 0 = .ok (.aload_n 0, 1) := by decide +kernel
theorem dX10_needs_1 : decode cX10_needs 1 = .ok (.getfield 20, 3) := by decide +kernel
theorem dX10_needs_4 : decode cX10_needs 4 = .ok (.iconst 2, 1) := by decide +kernel
theorem dX10_needs_5 : decode cX10_needs 5 = .ok (.if_icmp .ne 12, 3) := by decide +kernel
theorem dX10_needs_8 : decode cX10_needs 8 = .ok (.iconst 2, 1) := by decide +kernel
theorem dX10_needs_9 : decode cX10_needs 9 = .ok (.aload_n 0, 1) := by decide +kernel
theorem dX10_needs_10 : decode cX10_needs 10 = .ok (.getfield 23, 3) := by decide +kernel
theorem dX10_needs_13 : decode cX10_needs 13 = .ok (.imul, 1) := by decide +kernel
theorem dX10_needs_14 : decode cX10_needs 14 = .ok (.goto 7, 3) := by decide +kernel
theorem dX10_needs_17 : decode cX10_needs 17 = .ok (.aload_n 0, 1) := by decide +kernel
theorem dX10_needs_18 : decode cX10_needs 18 = .ok (.getfield 23, 3) := by decide +kernel
theorem dX10_needs_21 : decode cX10_needs 21 = .ok (.ireturn, 1) := by decide +kernel
theorem dX10_steps_0 : decode cX10_steps 0 = .ok (.iload_n 1, 1) := by decide +kernel
theorem dX10_steps_1 : decode cX10_steps 1 = .ok (.ifCond .eq 19, 3) := by decide +kernel
theorem dX10_steps_4 : decode cX10_steps 4 = .ok (.aload_n 0, 1) := by decide +kernel
theorem dX10_steps_5 : decode cX10_steps 5 = .ok (.getfield 26, 3) := by decide +kernel
theorem dX10_steps_8 : decode cX10_steps 8 = .ok (.ifCond .le 12, 3) := by decide +kernel
theorem dX10_steps_11 : decode cX10_steps 11 = .ok (.aload_n 0, 1) := by decide +kernel
theorem dX10_steps_12 : decode cX10_steps 12 = .ok (.getfield 26, 3) := by decide +kernel
theorem dX10_steps_15 : decode cX10_steps 15 = .ok (.iconst 1, 1) := by decide +kernel
theorem dX10_steps_16 : decode cX10_steps 16 = .ok (.isub, 1) := by decide +kernel
theorem dX10_steps_17 : decode cX10_steps 17 = .ok (.goto 7, 3) := by decide +kernel
theorem dX10_steps_20 : decode cX10_steps 20 = .ok (.aload_n 0, 1) := by decide +kernel
theorem dX10_steps_21 : decode cX10_steps 21 = .ok (.getfield 26, 3) := by decide +kernel
theorem dX10_steps_24 : decode cX10_steps 24 = .ok (.ireturn, 1) := by decide +kernel
theorem dX10_reach_0 : decode cX10_reach 0 = .ok (.aload_n 0, 1) := by decide +kernel
theorem dX10_reach_1 : decode cX10_reach 1 = .ok (.getfield 20, 3) := by decide +kernel
theorem dX10_reach_4 : decode cX10_reach 4 = .ok (.iconst 1, 1) := by decide +kernel
theorem dX10_reach_5 : decode cX10_reach 5 = .ok (.if_icmp .ne 16, 3) := by decide +kernel
theorem dX10_reach_8 : decode cX10_reach 8 = .ok (.iload_n 1, 1) := by decide +kernel
theorem dX10_reach_9 : decode cX10_reach 9 = .ok (.ifCond .ne 12, 3) := by decide +kernel
theorem dX10_reach_12 : decode cX10_reach 12 = .ok (.aload_n 0, 1) := by decide +kernel
theorem dX10_reach_13 : decode cX10_reach 13 = .ok (.getfield 26, 3) := by decide +kernel
theorem dX10_reach_16 : decode cX10_reach 16 = .ok (.iconst 3, 1) := by decide +kernel
theorem dX10_reach_17 : decode cX10_reach 17 = .ok (.iadd, 1) := by decide +kernel
theorem dX10_reach_18 : decode cX10_reach 18 = .ok (.goto 8, 3) := by decide +kernel
theorem dX10_reach_21 : decode cX10_reach 21 = .ok (.aload_n 0, 1) := by decide +kernel
theorem dX10_reach_22 : decode cX10_reach 22 = .ok (.iload_n 1, 1) := by decide +kernel
theorem dX10_reach_23 : decode cX10_reach 23 = .ok (.invokevirtual 29, 3) := by decide +kernel
theorem dX10_reach_26 : decode cX10_reach 26 = .ok (.ireturn, 1) := by decide +kernel
theorem dX11_init_0 : decode cX11_init 0 = .ok (.aload_n 0, 1) := by decide +kernel
theorem dX11_init_1 : decode cX11_init 1 = .ok (.invokespecial 1, 3) := by decide +kernel
theorem dX11_init_4 : decode cX11_init 4 = .ok (.aload_n 0, 1) := by decide +kernel
theorem dX11_init_5 : decode cX11_init 5 = .ok (.sipush 500, 3) := by decide +kernel
theorem dX11_init_8 : decode cX11_init 8 = .ok (.newarray .byte, 2) := by decide +kernel
theorem dX11_init_10 : decode cX11_init 10 = .ok (.putfield 9, 3) := by decide +kernel
theorem dX11_init_13 : decode cX11_init 13 = .ok (.aload_n 0, 1) := by decide +kernel
theorem dX11_init_14 : decode cX11_init 14 = .ok (.iconst (-1), 1) := by decide +kernel
theorem dX11_init_15 : decode cX11_init 15 = .ok (.putfield 13, 3) := by decide +kernel
theorem dX11_init_18 : decode cX11_init 18 = .ok (.aload_n 0, 1) := by decide +kernel
theorem dX11_init_19 : decode cX11_init 19 = .ok (.new 17, 3) := by decide +kernel
theorem dX11_init_22 : decode cX11_init 22 = .ok (.dup, 1) := by decide +kernel
theorem dX11_init_23 : decode cX11_init 23 = .ok (.invokespecial 19, 3) := by decide +kernel
theorem dX11_init_26 : decode cX11_init 26 = .ok (.putfield 20, 3) := by decide +kernel
theorem dX11_init_29 : decode cX11_init 29 = .ok (.aload_n 0, 1) := by decide +kernel
theorem dX11_init_30 : decode cX11_init 30 = .ok (.new 17, 3) := by decide +kernel
theorem dX11_init_33 : decode cX11_init 33 = .ok (.dup, 1) := by decide +kernel
theorem dX11_init_34 : decode cX11_init 34 = .ok (.invokespecial 19, 3) := by decide +kernel
theorem dX11_init_37 : decode cX11_init 37 = .ok (.putfield 24, 3) := by decide +kernel
theorem dX11_init_40 : decode cX11_init 40 = .ok (.aload_n 0, 1) := by decide +kernel
theorem dX11_init_41 : decode cX11_init 41 = .ok (.new 27, 3) := by decide +kernel
theorem dX11_init_44 : decode cX11_init 44 = .ok (.dup, 1) := by decide +kernel
theorem dX11_init_45 : decode cX11_init 45 = .ok (.aload_n 0, 1) := by decide +kernel
theorem dX11_init_46 : decode cX11_init 46 = .ok (.getfield 24, 3) := by decide +kernel
theorem dX11_init_49 : decode cX11_init 49 = .ok (.invokespecial 29, 3) := by decide +kernel
theorem dX11_init_52 : decode cX11_init 52 = .ok (.putfield 32, 3) := by decide +kernel
theorem dX11_init_55 : decode cX11_init 55 = .ok (.aload_n 0, 1) := by decide +kernel
theorem dX11_init_56 : decode cX11_init 56 = .ok (.new 36, 3) := by decide +kernel
theorem dX11_init_59 : decode cX11_init 59 = .ok (.dup, 1) := by decide +kernel
theorem dX11_init_60 : decode cX11_init 60 = .ok (.invokespecial 38, 3) := by decide +kernel
theorem dX11_init_63 : decode cX11_init 63 = .ok (.putfield 39, 3) := by decide +kernel
theorem dX11_init_66 : decode cX11_init 66 = .ok (.aload_n 0, 1) := by decide +kernel
theorem dX11_init_67 : decode cX11_init 67 = .ok (.new 36, 3) := by decide +kernel
theorem dX11_init_70 : decode cX11_init 70 = .ok (.dup, 1) := by decide +kernel
theorem dX11_init_71 : decode cX11_init 71 = .ok (.invokespecial 38, 3) := by decide +kernel
theorem dX11_init_74 : decode cX11_init 74 = .ok (.putfield 43, 3) := by decide +kernel
theorem dX11_init_77 : decode cX11_init 77 = .ok (.aload_n 0, 1) := by decide +kernel
theorem dX11_init_78 : decode cX11_init 78 = .ok (.new 46, 3) := by decide +kernel
theorem dX11_init_81 : decode cX11_init 81 = .ok (.dup, 1) := by decide +kernel
theorem dX11_init_82 : decode cX11_init 82 = .ok (.aload_n 0, 1) := by decide +kernel
theorem dX11_init_83 : decode cX11_init 83 = .ok (.getfield 20, 3) := by decide +kernel
theorem dX11_init_86 : decode cX11_init 86 = .ok (.invokespecial 48, 3) := by decide +kernel
theorem dX11_init_89 : decode cX11_init 89 = .ok (.putfield 49, 3) := by decide +kernel
theorem dX11_init_92 : decode cX11_init 92 = .ok (.aload_n 0, 1) := by decide +kernel
theorem dX11_init_93 : decode cX11_init 93 = .ok (.new 46, 3) := by decide +kernel
theorem dX11_init_96 : decode cX11_init 96 = .ok (.dup, 1) := by decide +kernel
theorem dX11_init_97 : decode cX11_init 97 = .ok (.aload_n 0, 1) := by decide +kernel
theorem dX11_init_98 : decode cX11_init 98 = .ok (.getfield 20, 3) := by decide +kernel
theorem dX11_init_101 : decode cX11_init 101 = .ok (.invokespecial 48, 3) := by decide +kernel
theorem dX11_init_104 : decode cX11_init 104 = .ok (.putfield 53, 3) := by decide +kernel
theorem dX11_init_107 : decode cX11_init 107 = .ok (.aload_n 0, 1) := by decide +kernel
theorem dX11_init_108 : decode cX11_init 108 = .ok (.new 56, 3) := by decide +kernel
theorem dX11_init_111 : decode cX11_init 111 = .ok (.dup, 1) := by decide +kernel
theorem dX11_init_112 : decode cX11_init 112 = .ok (.aload_n 0, 1) := by decide +kernel
theorem dX11_init_113 : decode cX11_init 113 = .ok (.getfield 20, 3) := by decide +kernel
theorem dX11_init_116 : decode cX11_init 116 = .ok (.invokespecial 58, 3) := by decide +kernel
theorem dX11_init_119 : decode cX11_init 119 = .ok (.putfield 59, 3) := by decide +kernel
theorem dX11_init_122 : decode cX11_init 122 = .ok (.aload_n 0, 1) := by decide +kernel
theorem dX11_init_123 : decode cX11_init 123 = .ok (.new 63, 3) := by decide +kernel
theorem dX11_init_126 : decode cX11_init 126 = .ok (.dup, 1) := by decide +kernel
theorem dX11_init_127 : decode cX11_init 127 = .ok (.invokespecial 65, 3) := by decide +kernel
theorem dX11_init_130 : decode cX11_init 130 = .ok (.putfield 66, 3) := by decide +kernel
theorem dX11_init_133 : decode cX11_init 133 = .ok (.aload_n 0, 1) := by decide +kernel
theorem dX11_init_134 : decode cX11_init 134 = .ok (.new 70, 3) := by decide +kernel
theorem dX11_init_137 : decode cX11_init 137 = .ok (.dup, 1) := by decide +kernel
theorem dX11_init_138 : decode cX11_init 138 = .ok (.invokespecial 72, 3) := by decide +kernel
theorem dX11_init_141 : decode cX11_init 141 = .ok (.putfield 73, 3) := by decide +kernel
theorem dX11_init_144 : decode cX11_init 144 = .ok (.aload_n 0, 1) := by decide +kernel
theorem dX11_init_145 : decode cX11_init 145 = .ok (.new 77, 3) := by decide +kernel
theorem dX11_init_148 : decode cX11_init 148 = .ok (.dup, 1) := by decide +kernel
theorem dX11_init_149 : decode cX11_init 149 = .ok (.aload_n 0, 1) := by decide +kernel
theorem dX11_init_150 : decode cX11_init 150 = .ok (.getfield 59, 3) := by decide +kernel
theorem dX11_init_153 : decode cX11_init 153 = .ok (.invokespecial 79, 3) := by decide +kernel
theorem dX11_init_156 : decode cX11_init 156 = .ok (.putfield 82, 3) := by decide +kernel
theorem dX11_init_159 : decode cX11_init 159 = .ok (.aload_n 0, 1) := by decide +kernel
theorem dX11_init_160 : decode cX11_init 160 = .ok (.new 86, 3) := by decide +kernel
theorem dX11_init_163 : decode cX11_init 163 = .ok (.dup, 1) := by decide +kernel
theorem dX11_init_164 : decode cX11_init 164 = .ok (.invokespecial 88, 3) := by decide +kernel
theorem dX11_init_167 : decode cX11_init 167 = .ok (.putfield 89, 3) := by decide +kernel
theorem dX11_init_170 : decode cX11_init 170 = .ok (.aload_n 0, 1) := by decide +kernel
theorem dX11_init_171 : decode cX11_init 171 = .ok (.bipush 10, 2) := by decide +kernel
theorem dX11_init_173 : decode cX11_init 173 = .ok (.newarray .int, 2) := by decide +kernel
theorem dX11_init_175 : decode cX11_init 175 = .ok (.putfield 93, 3) := by decide +kernel
theorem dX11_init_178 : decode cX11_init 178 = .ok (.aload_n 0, 1) := by decide +kernel
theorem dX11_init_179 : decode cX11_init 179 = .ok (.getfield 39, 3) := by decide +kernel
theorem dX11_init_182 : decode cX11_init 182 = .ok (.invokevirtual 97, 3) := by decide +kernel
theorem dX11_init_185 : decode cX11_init 185 = .ok (.aload_n 0, 1) := by decide +kernel
theorem dX11_init_186 : decode cX11_init 186 = .ok (.getfield 49, 3) := by decide +kernel
theorem dX11_init_189 : decode cX11_init 189 = .ok (.aload_n 0, 1) := by decide +kernel
theorem dX11_init_190 : decode cX11_init 190 = .ok (.getfield 20, 3) := by decide +kernel
theorem dX11_init_193 : decode cX11_init 193 = .ok (.aload_n 0, 1) := by decide +kernel
theorem dX11_init_194 : decode cX11_init 194 = .ok (.getfield 39, 3) := by decide +kernel
theorem dX11_init_197 : decode cX11_init 197 = .ok (.getfield 100, 3) := by decide +kernel
theorem dX11_init_200 : decode cX11_init 200 = .ok (.invokevirtual 103, 3) := by decide +kernel
theorem dX11_init_203 : decode cX11_init 203 = .ok (.aload_n 0, 1) := by decide +kernel
theorem dX11_init_204 : decode cX11_init 204 = .ok (.getfield 59, 3) := by decide +kernel
theorem dX11_init_207 : decode cX11_init 207 = .ok (.aload_n 0, 1) := by decide +kernel
theorem dX11_init_208 : decode cX11_init 208 = .ok (.getfield 20, 3) := by decide +kernel
theorem dX11_init_211 : decode cX11_init 211 = .ok (.aload_n 0, 1) := by decide +kernel
theorem dX11_init_212 : decode cX11_init 212 = .ok (.getfield 39, 3) := by decide +kernel
theorem dX11_init_215 : decode cX11_init 215 = .ok (.getfield 107, 3) := by decide +kernel
theorem dX11_init_218 : decode cX11_init 218 = .ok (.invokevirtual 110, 3) := by decide +kernel
theorem dX11_init_221 : decode cX11_init 221 = .ok (.return_, 1) := by decide +kernel
theorem dX11_feed_0 : decode cX11_feed 0 = .ok (.aload_n 0, 1) := by decide +kernel
theorem dX11_feed_1 : decode cX11_feed 1 = .ok (.getfield 113, 3) := by decide +kernel
theorem dX11_feed_4 : decode cX11_feed 4 = .ok (.bipush 20, 2) := by decide +kernel
theorem dX11_feed_6 : decode cX11_feed 6 = .ok (.iadd, 1) := by decide +kernel
theorem dX11_feed_7 : decode cX11_feed 7 = .ok (.sipush 500, 3) := by decide +kernel
theorem dX11_feed_10 : decode cX11_feed 10 = .ok (.if_icmp .le 5, 3) := by decide +kernel
theorem dX11_feed_13 : decode cX11_feed 13 = .ok (.iconst (-1), 1) := by decide +kernel
theorem dX11_feed_14 : decode cX11_feed 14 = .ok (.ireturn, 1) := by decide +kernel
theorem dX11_feed_15 : decode cX11_feed 15 = .ok (.aload_n 0, 1) := by decide +kernel
theorem dX11_feed_16 : decode cX11_feed 16 = .ok (.iload_n 1, 1) := by decide +kernel
theorem dX11_feed_17 : decode cX11_feed 17 = .ok (.invokevirtual 116, 3) := by decide +kernel
theorem dX11_feed_20 : decode cX11_feed 20 = .ok (.aload_n 0, 1) := by decide +kernel
theorem dX11_feed_21 : decode cX11_feed 21 = .ok (.iload_n 2, 1) := by decide +kernel
theorem dX11_feed_22 : decode cX11_feed 22 = .ok (.invokevirtual 116, 3) := by decide +kernel
theorem dX11_feed_25 : decode cX11_feed 25 = .ok (.aload_n 0, 1) := by decide +kernel
theorem dX11_feed_26 : decode cX11_feed 26 = .ok (.iload_n 3, 1) := by decide +kernel
theorem dX11_feed_27 : decode cX11_feed 27 = .ok (.invokevirtual 116, 3) := by decide +kernel
theorem dX11_feed_30 : decode cX11_feed 30 = .ok (.aload_n 0, 1) := by decide +kernel
theorem dX11_feed_31 : decode cX11_feed 31 = .ok (.iload 4, 2) := by decide +kernel
theorem dX11_feed_33 : decode cX11_feed 33 = .ok (.invokevirtual 116, 3) := by decide +kernel
theorem dX11_feed_36 : decode cX11_feed 36 = .ok (.aload_n 0, 1) := by decide +kernel
theorem dX11_feed_37 : decode cX11_feed 37 = .ok (.iload 5, 2) := by decide +kernel
theorem dX11_feed_39 : decode cX11_feed 39 = .ok (.invokevirtual 116, 3) := by decide +kernel
theorem dX11_feed_42 : decode cX11_feed 42 = .ok (.aload_n 0, 1) := by decide +kernel
theorem dX11_feed_43 : decode cX11_feed 43 = .ok (.getfield 113, 3) := by decide +kernel
theorem dX11_feed_46 : decode cX11_feed 46 = .ok (.ireturn, 1) := by decide +kernel
theorem dX11_tapeNumber_0 : decode cX11_tapeNumber 0 = .ok (.bipush 24, 2) := by decide +kernel
theorem dX11_tapeNumber_2 : decode cX11_tapeNumber 2 = .ok (.istore_n 2, 1) := by decide +kernel
theorem dX11_tapeNumber_3 : decode cX11_tapeNumber 3 = .ok (.iload_n 2, 1) := by decide +kernel
theorem dX11_tapeNumber_4 : decode cX11_tapeNumber 4 = .ok (.ifCond .lt 42, 3) := by decide +kernel
theorem dX11_tapeNumber_7 : decode cX11_tapeNumber 7 = .ok (.aload_n 0, 1) := by decide +kernel
theorem dX11_tapeNumber_8 : decode cX11_tapeNumber 8 = .ok (.getfield 113, 3) := by decide +kernel
theorem dX11_tapeNumber_11 : decode cX11_tapeNumber 11 = .ok (.sipush 500, 3) := by decide +kernel
theorem dX11_tapeNumber_14 : decode cX11_tapeNumber 14 = .ok (.if_icmp .ge 32, 3) := by decide +kernel
theorem dX11_tapeNumber_17 : decode cX11_tapeNumber 17 = .ok (.aload_n 0, 1) := by decide +kernel
theorem dX11_tapeNumber_18 : decode cX11_tapeNumber 18 = .ok (.getfield 9, 3) := by decide +kernel
theorem dX11_tapeNumber_21 : decode cX11_tapeNumber 21 = .ok (.aload_n 0, 1) := by decide +kernel
theorem dX11_tapeNumber_22 : decode cX11_tapeNumber 22 = .ok (.getfield 113, 3) := by decide +kernel
theorem dX11_tapeNumber_25 : decode cX11_tapeNumber 25 = .ok (.iload_n 1, 1) := by decide +kernel
theorem dX11_tapeNumber_26 : decode cX11_tapeNumber 26 = .ok (.iload_n 2, 1) := by decide +kernel
theorem dX11_tapeNumber_27 : decode cX11_tapeNumber 27 = .ok (.iushr, 1) := by decide +kernel
theorem dX11_tapeNumber_28 : decode cX11_tapeNumber 28 = .ok (.i2b, 1) := by decide +kernel
theorem dX11_tapeNumber_29 : decode cX11_tapeNumber 29 = .ok (.bastore, 1) := by decide +kernel
theorem dX11_tapeNumber_30 : decode cX11_tapeNumber 30 = .ok (.aload_n 0, 1) := by decide +kernel
theorem dX11_tapeNumber_31 : decode cX11_tapeNumber 31 = .ok (.dup, 1) := by decide +kernel
theorem dX11_tapeNumber_32 : decode cX11_tapeNumber 32 = .ok (.getfield 113, 3) := by decide +kernel
theorem dX11_tapeNumber_35 : decode cX11_tapeNumber 35 = .ok (.iconst 1, 1) := by decide +kernel
theorem dX11_tapeNumber_36 : decode cX11_tapeNumber 36 = .ok (.iadd, 1) := by decide +kernel
theorem dX11_tapeNumber_37 : decode cX11_tapeNumber 37 = .ok (.putfield 113, 3) := by decide +kernel
theorem dX11_tapeNumber_40 : decode cX11_tapeNumber 40 = .ok (.iinc 2 (-8), 3) := by decide +kernel
theorem dX11_tapeNumber_43 : decode cX11_tapeNumber 43 = .ok (.goto (-40), 3) := by decide +kernel
theorem dX11_tapeNumber_46 : decode cX11_tapeNumber 46 = .ok (.return_, 1) := by decide +kernel
theorem dX11_river_0 : decode cX11_river 0 = .ok (.iload_n 1, 1) := by decide +kernel
theorem dX11_river_1 : decode cX11_river 1 = .ok (.ifCond .lt 11, 3) := by decide +kernel
theorem dX11_river_4 : decode cX11_river 4 = .ok (.iload_n 1, 1) := by decide +kernel
theorem dX11_river_5 : decode cX11_river 5 = .ok (.aload_n 0, 1) := by decide +kernel
theorem dX11_river_6 : decode cX11_river 6 = .ok (.getfield 113, 3) := by decide +kernel
theorem dX11_river_9 : decode cX11_river 9 = .ok (.if_icmp .le 13, 3) := by decide +kernel
theorem dX11_river_12 : decode cX11_river 12 = .ok (.new 120, 3) := by decide +kernel
theorem dX11_river_15 : decode cX11_river 15 = .ok (.dup, 1) := by decide +kernel
theorem dX11_river_16 : decode cX11_river 16 = .ok (.ldc 122, 2) := by decide +kernel
theorem dX11_river_18 : decode cX11_river 18 = .ok (.invokespecial 124, 3) := by decide +kernel
theorem dX11_river_21 : decode cX11_river 21 = .ok (.athrow, 1) := by decide +kernel
theorem dX11_river_22 : decode cX11_river 22 = .ok (.aload_n 0, 1) := by decide +kernel
theorem dX11_river_23 : decode cX11_river 23 = .ok (.iconst 0, 1) := by decide +kernel
theorem dX11_river_24 : decode cX11_river 24 = .ok (.putfield 113, 3) := by decide +kernel
theorem dX11_river_27 : decode cX11_river 27 = .ok (.aload_n 0, 1) := by decide +kernel
theorem dX11_river_28 : decode cX11_river 28 = .ok (.getfield 32, 3) := by decide +kernel
theorem dX11_river_31 : decode cX11_river 31 = .ok (.aload_n 0, 1) := by decide +kernel
theorem dX11_river_32 : decode cX11_river 32 = .ok (.getfield 9, 3) := by decide +kernel
theorem dX11_river_35 : decode cX11_river 35 = .ok (.iload_n 1, 1) := by decide +kernel
theorem dX11_river_36 : decode cX11_river 36 = .ok (.aload_n 0, 1) := by decide +kernel
theorem dX11_river_37 : decode cX11_river 37 = .ok (.getfield 24, 3) := by decide +kernel
theorem dX11_river_40 : decode cX11_river 40 = .ok (.invokevirtual 127, 3) := by decide +kernel
theorem dX11_river_43 : decode cX11_river 43 = .ok (.istore_n 2, 1) := by decide +kernel
theorem dX11_river_44 : decode cX11_river 44 = .ok (.iload_n 2, 1) := by decide +kernel
theorem dX11_river_45 : decode cX11_river 45 = .ok (.ifCond .eq 24, 3) := by decide +kernel
theorem dX11_river_48 : decode cX11_river 48 = .ok (.aload_n 0, 1) := by decide +kernel
