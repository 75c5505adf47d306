theorem dX11_river_49 : decode cX11_river 49 = .ok (.aload_n 0, 1) := by decide +kernel
theorem dX11_river_50 : decode cX11_river 50 = .ok (.getfield 32, 3) := by decide +kernel
theorem dX11_river_53 : decode cX11_river 53 = .ok (.invokevirtual 131, 3) := by decide +kernel
theorem dX11_river_56 : decode cX11_river 56 = .ok (.putfield 13, 3) := by decide +kernel
theorem dX11_river_59 : decode cX11_river 59 = .ok (.aload_n 0, 1) := by decide +kernel
theorem dX11_river_60 : decode cX11_river 60 = .ok (.getfield 39, 3) := by decide +kernel
theorem dX11_river_63 : decode cX11_river 63 = .ok (.iconst 0, 1) := by decide +kernel
theorem dX11_river_64 : decode cX11_river 64 = .ok (.invokevirtual 135, 3) := by decide +kernel
theorem dX11_river_67 : decode cX11_river 67 = .ok (.iload_n 2, 1) := by decide +kernel
theorem dX11_river_68 : decode cX11_river 68 = .ok (.ireturn, 1) := by decide +kernel
theorem dX11_river_69 : decode cX11_river 69 = .ok (.aload_n 0, 1) := by decide +kernel
theorem dX11_river_70 : decode cX11_river 70 = .ok (.iconst (-1), 1) := by decide +kernel
theorem dX11_river_71 : decode cX11_river 71 = .ok (.putfield 13, 3) := by decide +kernel
theorem dX11_river_74 : decode cX11_river 74 = .ok (.aload_n 0, 1) := by decide +kernel
theorem dX11_river_75 : decode cX11_river 75 = .ok (.getfield 20, 3) := by decide +kernel
theorem dX11_river_78 : decode cX11_river 78 = .ok (.astore_n 3, 1) := by decide +kernel
theorem dX11_river_79 : decode cX11_river 79 = .ok (.aload_n 0, 1) := by decide +kernel
theorem dX11_river_80 : decode cX11_river 80 = .ok (.aload_n 0, 1) := by decide +kernel
theorem dX11_river_81 : decode cX11_river 81 = .ok (.getfield 24, 3) := by decide +kernel
theorem dX11_river_84 : decode cX11_river 84 = .ok (.putfield 20, 3) := by decide +kernel
theorem dX11_river_87 : decode cX11_river 87 = .ok (.aload_n 0, 1) := by decide +kernel
theorem dX11_river_88 : decode cX11_river 88 = .ok (.aload_n 3, 1) := by decide +kernel
theorem dX11_river_89 : decode cX11_river 89 = .ok (.putfield 24, 3) := by decide +kernel
theorem dX11_river_92 : decode cX11_river 92 = .ok (.aload_n 0, 1) := by decide +kernel
theorem dX11_river_93 : decode cX11_river 93 = .ok (.getfield 39, 3) := by decide +kernel
theorem dX11_river_96 : decode cX11_river 96 = .ok (.invokevirtual 97, 3) := by decide +kernel
theorem dX11_river_99 : decode cX11_river 99 = .ok (.aload_n 0, 1) := by decide +kernel
theorem dX11_river_100 : decode cX11_river 100 = .ok (.iconst 0, 1) := by decide +kernel
theorem dX11_river_101 : decode cX11_river 101 = .ok (.putfield 138, 3) := by decide +kernel
theorem dX11_river_104 : decode cX11_river 104 = .ok (.aload_n 0, 1) := by decide +kernel
theorem dX11_river_105 : decode cX11_river 105 = .ok (.iconst 0, 1) := by decide +kernel
theorem dX11_river_106 : decode cX11_river 106 = .ok (.putfield 142, 3) := by decide +kernel
theorem dX11_river_109 : decode cX11_river 109 = .ok (.aload_n 0, 1) := by decide +kernel
theorem dX11_river_110 : decode cX11_river 110 = .ok (.getfield 66, 3) := by decide +kernel
theorem dX11_river_113 : decode cX11_river 113 = .ok (.invokevirtual 145, 3) := by decide +kernel
theorem dX11_river_116 : decode cX11_river 116 = .ok (.aload_n 0, 1) := by decide +kernel
theorem dX11_river_117 : decode cX11_river 117 = .ok (.invokevirtual 148, 3) := by decide +kernel
theorem dX11_river_120 : decode cX11_river 120 = .ok (.aload_n 0, 1) := by decide +kernel
theorem dX11_river_121 : decode cX11_river 121 = .ok (.invokevirtual 151, 3) := by decide +kernel
theorem dX11_river_124 : decode cX11_river 124 = .ok (.iconst 0, 1) := by decide +kernel
theorem dX11_river_125 : decode cX11_river 125 = .ok (.ireturn, 1) := by decide +kernel
theorem dX11_fault_0 : decode cX11_fault 0 = .ok (.aload_n 0, 1) := by decide +kernel
theorem dX11_fault_1 : decode cX11_fault 1 = .ok (.getfield 13, 3) := by decide +kernel
theorem dX11_fault_4 : decode cX11_fault 4 = .ok (.ireturn, 1) := by decide +kernel
theorem dX11_count_0 : decode cX11_count 0 = .ok (.iload_n 1, 1) := by decide +kernel
theorem dX11_count_1 : decode cX11_count 1 = .ok (.tableswitch 165 0 11 #[63, 71, 79, 87, 98, 106, 114, 122, 130, 135, 145, 155], 63) := by decide +kernel
theorem dX11_count_64 : decode cX11_count 64 = .ok (.aload_n 0, 1) := by decide +kernel
theorem dX11_count_65 : decode cX11_count 65 = .ok (.getfield 20, 3) := by decide +kernel
theorem dX11_count_68 : decode cX11_count 68 = .ok (.getfield 154, 3) := by decide +kernel
theorem dX11_count_71 : decode cX11_count 71 = .ok (.ireturn, 1) := by decide +kernel
theorem dX11_count_72 : decode cX11_count 72 = .ok (.aload_n 0, 1) := by decide +kernel
theorem dX11_count_73 : decode cX11_count 73 = .ok (.getfield 20, 3) := by decide +kernel
theorem dX11_count_76 : decode cX11_count 76 = .ok (.getfield 157, 3) := by decide +kernel
theorem dX11_count_79 : decode cX11_count 79 = .ok (.ireturn, 1) := by decide +kernel
theorem dX11_count_80 : decode cX11_count 80 = .ok (.aload_n 0, 1) := by decide +kernel
theorem dX11_count_81 : decode cX11_count 81 = .ok (.getfield 20, 3) := by decide +kernel
theorem dX11_count_84 : decode cX11_count 84 = .ok (.getfield 160, 3) := by decide +kernel
theorem dX11_count_87 : decode cX11_count 87 = .ok (.ireturn, 1) := by decide +kernel
theorem dX11_count_88 : decode cX11_count 88 = .ok (.aload_n 0, 1) := by decide +kernel
theorem dX11_count_89 : decode cX11_count 89 = .ok (.getfield 20, 3) := by decide +kernel
theorem dX11_count_92 : decode cX11_count 92 = .ok (.getfield 163, 3) := by decide +kernel
theorem dX11_count_95 : decode cX11_count 95 = .ok (.invokestatic 167, 3) := by decide +kernel
theorem dX11_count_98 : decode cX11_count 98 = .ok (.ireturn, 1) := by decide +kernel
theorem dX11_count_99 : decode cX11_count 99 = .ok (.aload_n 0, 1) := by decide +kernel
theorem dX11_count_100 : decode cX11_count 100 = .ok (.getfield 20, 3) := by decide +kernel
theorem dX11_count_103 : decode cX11_count 103 = .ok (.getfield 173, 3) := by decide +kernel
theorem dX11_count_106 : decode cX11_count 106 = .ok (.ireturn, 1) := by decide +kernel
theorem dX11_count_107 : decode cX11_count 107 = .ok (.aload_n 0, 1) := by decide +kernel
theorem dX11_count_108 : decode cX11_count 108 = .ok (.getfield 20, 3) := by decide +kernel
theorem dX11_count_111 : decode cX11_count 111 = .ok (.getfield 176, 3) := by decide +kernel
theorem dX11_count_114 : decode cX11_count 114 = .ok (.ireturn, 1) := by decide +kernel
theorem dX11_count_115 : decode cX11_count 115 = .ok (.aload_n 0, 1) := by decide +kernel
theorem dX11_count_116 : decode cX11_count 116 = .ok (.getfield 49, 3) := by decide +kernel
theorem dX11_count_119 : decode cX11_count 119 = .ok (.getfield 179, 3) := by decide +kernel
theorem dX11_count_122 : decode cX11_count 122 = .ok (.ireturn, 1) := by decide +kernel
theorem dX11_count_123 : decode cX11_count 123 = .ok (.aload_n 0, 1) := by decide +kernel
theorem dX11_count_124 : decode cX11_count 124 = .ok (.getfield 39, 3) := by decide +kernel
theorem dX11_count_127 : decode cX11_count 127 = .ok (.getfield 182, 3) := by decide +kernel
theorem dX11_count_130 : decode cX11_count 130 = .ok (.ireturn, 1) := by decide +kernel
theorem dX11_count_131 : decode cX11_count 131 = .ok (.aload_n 0, 1) := by decide +kernel
theorem dX11_count_132 : decode cX11_count 132 = .ok (.getfield 113, 3) := by decide +kernel
theorem dX11_count_135 : decode cX11_count 135 = .ok (.ireturn, 1) := by decide +kernel
theorem dX11_count_136 : decode cX11_count 136 = .ok (.aload_n 0, 1) := by decide +kernel
theorem dX11_count_137 : decode cX11_count 137 = .ok (.getfield 39, 3) := by decide +kernel
theorem dX11_count_140 : decode cX11_count 140 = .ok (.getfield 185, 3) := by decide +kernel
theorem dX11_count_143 : decode cX11_count 143 = .ok (.iconst 0, 1) := by decide +kernel
theorem dX11_count_144 : decode cX11_count 144 = .ok (.iaload, 1) := by decide +kernel
theorem dX11_count_145 : decode cX11_count 145 = .ok (.ireturn, 1) := by decide +kernel
theorem dX11_count_146 : decode cX11_count 146 = .ok (.aload_n 0, 1) := by decide +kernel
theorem dX11_count_147 : decode cX11_count 147 = .ok (.getfield 39, 3) := by decide +kernel
theorem dX11_count_150 : decode cX11_count 150 = .ok (.getfield 185, 3) := by decide +kernel
theorem dX11_count_153 : decode cX11_count 153 = .ok (.iconst 1, 1) := by decide +kernel
theorem dX11_count_154 : decode cX11_count 154 = .ok (.iaload, 1) := by decide +kernel
theorem dX11_count_155 : decode cX11_count 155 = .ok (.ireturn, 1) := by decide +kernel
theorem dX11_count_156 : decode cX11_count 156 = .ok (.aload_n 0, 1) := by decide +kernel
theorem dX11_count_157 : decode cX11_count 157 = .ok (.getfield 39, 3) := by decide +kernel
theorem dX11_count_160 : decode cX11_count 160 = .ok (.getfield 185, 3) := by decide +kernel
theorem dX11_count_163 : decode cX11_count 163 = .ok (.iconst 2, 1) := by decide +kernel
theorem dX11_count_164 : decode cX11_count 164 = .ok (.iaload, 1) := by decide +kernel
theorem dX11_count_165 : decode cX11_count 165 = .ok (.ireturn, 1) := by decide +kernel
theorem dX11_count_166 : decode cX11_count 166 = .ok (.new 188, 3) := by decide +kernel
theorem dX11_count_169 : decode cX11_count 169 = .ok (.dup, 1) := by decide +kernel
theorem dX11_count_170 : decode cX11_count 170 = .ok (.ldc 190, 2) := by decide +kernel
theorem dX11_count_172 : decode cX11_count 172 = .ok (.invokespecial 192, 3) := by decide +kernel
theorem dX11_count_175 : decode cX11_count 175 = .ok (.athrow, 1) := by decide +kernel
theorem dX11_book_0 : decode cX11_book 0 = .ok (.iload_n 1, 1) := by decide +kernel
theorem dX11_book_1 : decode cX11_book 1 = .ok (.ifCond .lt 14, 3) := by decide +kernel
theorem dX11_book_4 : decode cX11_book 4 = .ok (.iload_n 1, 1) := by decide +kernel
theorem dX11_book_5 : decode cX11_book 5 = .ok (.aload_n 0, 1) := by decide +kernel
theorem dX11_book_6 : decode cX11_book 6 = .ok (.getfield 20, 3) := by decide +kernel
theorem dX11_book_9 : decode cX11_book 9 = .ok (.getfield 154, 3) := by decide +kernel
theorem dX11_book_12 : decode cX11_book 12 = .ok (.if_icmp .lt 13, 3) := by decide +kernel
theorem dX11_book_15 : decode cX11_book 15 = .ok (.new 188, 3) := by decide +kernel
theorem dX11_book_18 : decode cX11_book 18 = .ok (.dup, 1) := by decide +kernel
theorem dX11_book_19 : decode cX11_book 19 = .ok (.ldc 193, 2) := by decide +kernel
theorem dX11_book_21 : decode cX11_book 21 = .ok (.invokespecial 192, 3) := by decide +kernel
theorem dX11_book_24 : decode cX11_book 24 = .ok (.athrow, 1) := by decide +kernel
theorem dX11_book_25 : decode cX11_book 25 = .ok (.iload_n 2, 1) := by decide +kernel
theorem dX11_book_26 : decode cX11_book 26 = .ok (.tableswitch 65 0 2 #[26, 36, 55], 26) := by decide +kernel
theorem dX11_book_52 : decode cX11_book 52 = .ok (.aload_n 0, 1) := by decide +kernel
theorem dX11_book_53 : decode cX11_book 53 = .ok (.getfield 20, 3) := by decide +kernel
theorem dX11_book_56 : decode cX11_book 56 = .ok (.getfield 195, 3) := by decide +kernel
theorem dX11_book_59 : decode cX11_book 59 = .ok (.iload_n 1, 1) := by decide +kernel
theorem dX11_book_60 : decode cX11_book 60 = .ok (.iaload, 1) := by decide +kernel
theorem dX11_book_61 : decode cX11_book 61 = .ok (.ireturn, 1) := by decide +kernel
theorem dX11_book_62 : decode cX11_book 62 = .ok (.aload_n 0, 1) := by decide +kernel
theorem dX11_book_63 : decode cX11_book 63 = .ok (.getfield 39, 3) := by decide +kernel
theorem dX11_book_66 : decode cX11_book 66 = .ok (.getfield 107, 3) := by decide +kernel
theorem dX11_book_69 : decode cX11_book 69 = .ok (.aload_n 0, 1) := by decide +kernel
theorem dX11_book_70 : decode cX11_book 70 = .ok (.getfield 20, 3) := by decide +kernel
theorem dX11_book_73 : decode cX11_book 73 = .ok (.getfield 154, 3) := by decide +kernel
theorem dX11_book_76 : decode cX11_book 76 = .ok (.iload_n 1, 1) := by decide +kernel
theorem dX11_book_77 : decode cX11_book 77 = .ok (.invokestatic 198, 3) := by decide +kernel
theorem dX11_book_80 : decode cX11_book 80 = .ok (.ireturn, 1) := by decide +kernel
theorem dX11_book_81 : decode cX11_book 81 = .ok (.aload_n 0, 1) := by decide +kernel
theorem dX11_book_82 : decode cX11_book 82 = .ok (.getfield 20, 3) := by decide +kernel
theorem dX11_book_85 : decode cX11_book 85 = .ok (.getfield 202, 3) := by decide +kernel
theorem dX11_book_88 : decode cX11_book 88 = .ok (.iload_n 1, 1) := by decide +kernel
theorem dX11_book_89 : decode cX11_book 89 = .ok (.iaload, 1) := by decide +kernel
theorem dX11_book_90 : decode cX11_book 90 = .ok (.ireturn, 1) := by decide +kernel
theorem dX11_book_91 : decode cX11_book 91 = .ok (.new 188, 3) := by decide +kernel
theorem dX11_book_94 : decode cX11_book 94 = .ok (.dup, 1) := by decide +kernel
theorem dX11_book_95 : decode cX11_book 95 = .ok (.ldc 190, 2) := by decide +kernel
theorem dX11_book_97 : decode cX11_book 97 = .ok (.invokespecial 192, 3) := by decide +kernel
theorem dX11_book_100 : decode cX11_book 100 = .ok (.athrow, 1) := by decide +kernel
theorem dX11_hearing_0 : decode cX11_hearing 0 = .ok (.iload_n 1, 1) := by decide +kernel
theorem dX11_hearing_1 : decode cX11_hearing 1 = .ok (.ifCond .lt 14, 3) := by decide +kernel
theorem dX11_hearing_4 : decode cX11_hearing 4 = .ok (.iload_n 1, 1) := by decide +kernel
theorem dX11_hearing_5 : decode cX11_hearing 5 = .ok (.aload_n 0, 1) := by decide +kernel
theorem dX11_hearing_6 : decode cX11_hearing 6 = .ok (.getfield 20, 3) := by decide +kernel
theorem dX11_hearing_9 : decode cX11_hearing 9 = .ok (.getfield 157, 3) := by decide +kernel
theorem dX11_hearing_12 : decode cX11_hearing 12 = .ok (.if_icmp .lt 13, 3) := by decide +kernel
theorem dX11_hearing_15 : decode cX11_hearing 15 = .ok (.new 188, 3) := by decide +kernel
theorem dX11_hearing_18 : decode cX11_hearing 18 = .ok (.dup, 1) := by decide +kernel
theorem dX11_hearing_19 : decode cX11_hearing 19 = .ok (.ldc 205, 2) := by decide +kernel
theorem dX11_hearing_21 : decode cX11_hearing 21 = .ok (.invokespecial 192, 3) := by decide +kernel
theorem dX11_hearing_24 : decode cX11_hearing 24 = .ok (.athrow, 1) := by decide +kernel
theorem dX11_hearing_25 : decode cX11_hearing 25 = .ok (.iload_n 2, 1) := by decide +kernel
theorem dX11_hearing_26 : decode cX11_hearing 26 = .ok (.tableswitch 93 0 4 #[34, 44, 54, 64, 74], 34) := by decide +kernel
theorem dX11_hearing_60 : decode cX11_hearing 60 = .ok (.aload_n 0, 1) := by decide +kernel
theorem dX11_hearing_61 : decode cX11_hearing 61 = .ok (.getfield 20, 3) := by decide +kernel
theorem dX11_hearing_64 : decode cX11_hearing 64 = .ok (.getfield 207, 3) := by decide +kernel
theorem dX11_hearing_67 : decode cX11_hearing 67 = .ok (.iload_n 1, 1) := by decide +kernel
theorem dX11_hearing_68 : decode cX11_hearing 68 = .ok (.iaload, 1) := by decide +kernel
theorem dX11_hearing_69 : decode cX11_hearing 69 = .ok (.ireturn, 1) := by decide +kernel
theorem dX11_hearing_70 : decode cX11_hearing 70 = .ok (.aload_n 0, 1) := by decide +kernel
theorem dX11_hearing_71 : decode cX11_hearing 71 = .ok (.getfield 20, 3) := by decide +kernel
theorem dX11_hearing_74 : decode cX11_hearing 74 = .ok (.getfield 210, 3) := by decide +kernel
theorem dX11_hearing_77 : decode cX11_hearing 77 = .ok (.iload_n 1, 1) := by decide +kernel
theorem dX11_hearing_78 : decode cX11_hearing 78 = .ok (.iaload, 1) := by decide +kernel
theorem dX11_hearing_79 : decode cX11_hearing 79 = .ok (.ireturn, 1) := by decide +kernel
theorem dX11_hearing_80 : decode cX11_hearing 80 = .ok (.aload_n 0, 1) := by decide +kernel
theorem dX11_hearing_81 : decode cX11_hearing 81 = .ok (.getfield 20, 3) := by decide +kernel
theorem dX11_hearing_84 : decode cX11_hearing 84 = .ok (.getfield 213, 3) := by decide +kernel
theorem dX11_hearing_87 : decode cX11_hearing 87 = .ok (.iload_n 1, 1) := by decide +kernel
theorem dX11_hearing_88 : decode cX11_hearing 88 = .ok (.iaload, 1) := by decide +kernel
theorem dX11_hearing_89 : decode cX11_hearing 89 = .ok (.ireturn, 1) := by decide +kernel
theorem dX11_hearing_90 : decode cX11_hearing 90 = .ok (.aload_n 0, 1) := by decide +kernel
theorem dX11_hearing_91 : decode cX11_hearing 91 = .ok (.getfield 49, 3) := by decide +kernel
theorem dX11_hearing_94 : decode cX11_hearing 94 = .ok (.getfield 216, 3) := by decide +kernel
theorem dX11_hearing_97 : decode cX11_hearing 97 = .ok (.iload_n 1, 1) := by decide +kernel
theorem dX11_hearing_98 : decode cX11_hearing 98 = .ok (.iaload, 1) := by decide +kernel
theorem dX11_hearing_99 : decode cX11_hearing 99 = .ok (.ireturn, 1) := by decide +kernel
theorem dX11_hearing_100 : decode cX11_hearing 100 = .ok (.aload_n 0, 1) := by decide +kernel
theorem dX11_hearing_101 : decode cX11_hearing 101 = .ok (.getfield 39, 3) := by decide +kernel
theorem dX11_hearing_104 : decode cX11_hearing 104 = .ok (.getfield 100, 3) := by decide +kernel
theorem dX11_hearing_107 : decode cX11_hearing 107 = .ok (.aload_n 0, 1) := by decide +kernel
theorem dX11_hearing_108 : decode cX11_hearing 108 = .ok (.getfield 20, 3) := by decide +kernel
theorem dX11_hearing_111 : decode cX11_hearing 111 = .ok (.getfield 157, 3) := by decide +kernel
theorem dX11_hearing_114 : decode cX11_hearing 114 = .ok (.iload_n 1, 1) := by decide +kernel
theorem dX11_hearing_115 : decode cX11_hearing 115 = .ok (.invokestatic 198, 3) := by decide +kernel
theorem dX11_hearing_118 : decode cX11_hearing 118 = .ok (.ireturn, 1) := by decide +kernel
theorem dX11_hearing_119 : decode cX11_hearing 119 = .ok (.new 188, 3) := by decide +kernel
theorem dX11_hearing_122 : decode cX11_hearing 122 = .ok (.dup, 1) := by decide +kernel
theorem dX11_hearing_123 : decode cX11_hearing 123 = .ok (.ldc 190, 2) := by decide +kernel
theorem dX11_hearing_125 : decode cX11_hearing 125 = .ok (.invokespecial 192, 3) := by decide +kernel
theorem dX11_hearing_128 : decode cX11_hearing 128 = .ok (.athrow, 1) := by decide +kernel
theorem dX11_placeOf_0 : decode cX11_placeOf 0 = .ok (.iconst 0, 1) := by decide +kernel
theorem dX11_placeOf_1 : decode cX11_placeOf 1 = .ok (.istore_n 3, 1) := by decide +kernel
theorem dX11_placeOf_2 : decode cX11_placeOf 2 = .ok (.iload_n 3, 1) := by decide +kernel
theorem dX11_placeOf_3 : decode cX11_placeOf 3 = .ok (.iload_n 1, 1) := by decide +kernel
theorem dX11_placeOf_4 : decode cX11_placeOf 4 = .ok (.if_icmp .ge 18, 3) := by decide +kernel
theorem dX11_placeOf_7 : decode cX11_placeOf 7 = .ok (.aload_n 0, 1) := by decide +kernel
theorem dX11_placeOf_8 : decode cX11_placeOf 8 = .ok (.iload_n 3, 1) := by decide +kernel
theorem dX11_placeOf_9 : decode cX11_placeOf 9 = .ok (.iaload, 1) := by decide +kernel
theorem dX11_placeOf_10 : decode cX11_placeOf 10 = .ok (.iload_n 2, 1) := by decide +kernel
theorem dX11_placeOf_11 : decode cX11_placeOf 11 = .ok (.if_icmp .ne 5, 3) := by decide +kernel
theorem dX11_placeOf_14 : decode cX11_placeOf 14 = .ok (.iload_n 3, 1) := by decide +kernel
theorem dX11_placeOf_15 : decode cX11_placeOf 15 = .ok (.ireturn, 1) := by decide +kernel
theorem dX11_placeOf_16 : decode cX11_placeOf 16 = .ok (.iinc 3 1, 3) := by decide +kernel
theorem dX11_placeOf_19 : decode cX11_placeOf 19 = .ok (.goto (-17), 3) := by decide +kernel
theorem dX11_placeOf_22 : decode cX11_placeOf 22 = .ok (.iconst (-1), 1) := by decide +kernel
theorem dX11_placeOf_23 : decode cX11_placeOf 23 = .ok (.ireturn, 1) := by decide +kernel
theorem dX11_walker_0 : decode cX11_walker 0 = .ok (.aload_n 0, 1) := by decide +kernel
theorem dX11_walker_1 : decode cX11_walker 1 = .ok (.iload_n 1, 1) := by decide +kernel
theorem dX11_walker_2 : decode cX11_walker 2 = .ok (.invokevirtual 219, 3) := by decide +kernel
theorem dX11_walker_5 : decode cX11_walker 5 = .ok (.aload_n 0, 1) := by decide +kernel
theorem dX11_walker_6 : decode cX11_walker 6 = .ok (.getfield 20, 3) := by decide +kernel
theorem dX11_walker_9 : decode cX11_walker 9 = .ok (.getfield 222, 3) := by decide +kernel
theorem dX11_walker_12 : decode cX11_walker 12 = .ok (.iload_n 1, 1) := by decide +kernel
theorem dX11_walker_13 : decode cX11_walker 13 = .ok (.aaload, 1) := by decide +kernel
theorem dX11_walker_14 : decode cX11_walker 14 = .ok (.astore_n 3, 1) := by decide +kernel
theorem dX11_walker_15 : decode cX11_walker 15 = .ok (.iload_n 2, 1) := by decide +kernel
theorem dX11_walker_16 : decode cX11_walker 16 = .ok (.tableswitch 70 0 5 #[40, 45, 50, 55, 60, 65], 40) := by decide +kernel
theorem dX11_walker_56 : decode cX11_walker 56 = .ok (.aload_n 3, 1) := by decide +kernel
theorem dX11_walker_57 : decode cX11_walker 57 = .ok (.getfield 226, 3) := by decide +kernel
theorem dX11_walker_60 : decode cX11_walker 60 = .ok (.ireturn, 1) := by decide +kernel
theorem dX11_walker_61 : decode cX11_walker 61 = .ok (.aload_n 3, 1) := by decide +kernel
theorem dX11_walker_62 : decode cX11_walker 62 = .ok (.getfield 231, 3) := by decide +kernel
theorem dX11_walker_65 : decode cX11_walker 65 = .ok (.ireturn, 1) := by decide +kernel
theorem dX11_walker_66 : decode cX11_walker 66 = .ok (.aload_n 3, 1) := by decide +kernel
theorem dX11_walker_67 : decode cX11_walker 67 = .ok (.getfield 234, 3) := by decide +kernel
theorem dX11_walker_70 : decode cX11_walker 70 = .ok (.ireturn, 1) := by decide +kernel
theorem dX11_walker_71 : decode cX11_walker 71 = .ok (.aload_n 3, 1) := by decide +kernel
theorem dX11_walker_72 : decode cX11_walker 72 = .ok (.getfield 237, 3) := by decide +kernel
theorem dX11_walker_75 : decode cX11_walker 75 = .ok (.ireturn, 1) := by decide +kernel
theorem dX11_walker_76 : decode cX11_walker 76 = .ok (.aload_n 3, 1) := by decide +kernel
theorem dX11_walker_77 : decode cX11_walker 77 = .ok (.getfield 240, 3) := by decide +kernel
theorem dX11_walker_80 : decode cX11_walker 80 = .ok (.ireturn, 1) := by decide +kernel
theorem dX11_walker_81 : decode cX11_walker 81 = .ok (.aload_n 3, 1) := by decide +kernel
theorem dX11_walker_82 : decode cX11_walker 82 = .ok (.getfield 243, 3) := by decide +kernel
theorem dX11_walker_85 : decode cX11_walker 85 = .ok (.ireturn, 1) := by decide +kernel
theorem dX11_walker_86 : decode cX11_walker 86 = .ok (.new 188, 3) := by decide +kernel
theorem dX11_walker_89 : decode cX11_walker 89 = .ok (.dup, 1) := by decide +kernel
theorem dX11_walker_90 : decode cX11_walker 90 = .ok (.ldc 190, 2) := by decide +kernel
theorem dX11_walker_92 : decode cX11_walker 92 = .ok (.invokespecial 192, 3) := by decide +kernel
theorem dX11_walker_95 : decode cX11_walker 95 = .ok (.athrow, 1) := by decide +kernel
theorem dX11_docket_0 : decode cX11_docket 0 = .ok (.iload_n 1, 1) := by decide +kernel
theorem dX11_docket_1 : decode cX11_docket 1 = .ok (.i2l, 1) := by decide +kernel
theorem dX11_docket_2 : decode cX11_docket 2 = .ok (.iconst 3, 1) := by decide +kernel
theorem dX11_docket_3 : decode cX11_docket 3 = .ok (.aload_n 0, 1) := by decide +kernel
theorem dX11_docket_4 : decode cX11_docket 4 = .ok (.getfield 20, 3) := by decide +kernel
theorem dX11_docket_7 : decode cX11_docket 7 = .ok (.getfield 157, 3) := by decide +kernel
theorem dX11_docket_10 : decode cX11_docket 10 = .ok (.aload_n 0, 1) := by decide +kernel
theorem dX11_docket_11 : decode cX11_docket 11 = .ok (.getfield 93, 3) := by decide +kernel
theorem dX11_docket_14 : decode cX11_docket 14 = .ok (.invokestatic 246, 3) := by decide +kernel
theorem dX11_docket_17 : decode cX11_docket 17 = .ok (.ifCond .ne 13, 3) := by decide +kernel
theorem dX11_docket_20 : decode cX11_docket 20 = .ok (.aload_n 0, 1) := by decide +kernel
theorem dX11_docket_21 : decode cX11_docket 21 = .ok (.getfield 39, 3) := by decide +kernel
theorem dX11_docket_24 : decode cX11_docket 24 = .ok (.iconst 1, 1) := by decide +kernel
theorem dX11_docket_25 : decode cX11_docket 25 = .ok (.invokevirtual 135, 3) := by decide +kernel
theorem dX11_docket_28 : decode cX11_docket 28 = .ok (.iconst 0, 1) := by decide +kernel
theorem dX11_docket_29 : decode cX11_docket 29 = .ok (.ireturn, 1) := by decide +kernel
theorem dX11_docket_30 : decode cX11_docket 30 = .ok (.aload_n 0, 1) := by decide +kernel
theorem dX11_docket_31 : decode cX11_docket 31 = .ok (.getfield 93, 3) := by decide +kernel
theorem dX11_docket_34 : decode cX11_docket 34 = .ok (.iconst 0, 1) := by decide +kernel
theorem dX11_docket_35 : decode cX11_docket 35 = .ok (.aload_n 0, 1) := by decide +kernel
theorem dX11_docket_36 : decode cX11_docket 36 = .ok (.getfield 39, 3) := by decide +kernel
theorem dX11_docket_39 : decode cX11_docket 39 = .ok (.getfield 100, 3) := by decide +kernel
theorem dX11_docket_42 : decode cX11_docket 42 = .ok (.iconst 0, 1) := by decide +kernel
theorem dX11_docket_43 : decode cX11_docket 43 = .ok (.aload_n 0, 1) := by decide +kernel
theorem dX11_docket_44 : decode cX11_docket 44 = .ok (.getfield 20, 3) := by decide +kernel
theorem dX11_docket_47 : decode cX11_docket 47 = .ok (.getfield 157, 3) := by decide +kernel
theorem dX11_docket_50 : decode cX11_docket 50 = .ok (.invokestatic 250, 3) := by decide +kernel
theorem dX11_docket_53 : decode cX11_docket 53 = .ok (.aload_n 0, 1) := by decide +kernel
theorem dX11_docket_54 : decode cX11_docket 54 = .ok (.invokevirtual 148, 3) := by decide +kernel
theorem dX11_docket_57 : decode cX11_docket 57 = .ok (.iconst 1, 1) := by decide +kernel
theorem dX11_docket_58 : decode cX11_docket 58 = .ok (.ireturn, 1) := by decide +kernel
theorem dX11_lay_0 : decode cX11_lay 0 = .ok (.lload_n 1, 1) := by decide +kernel
theorem dX11_lay_1 : decode cX11_lay 1 = .ok (.iconst 4, 1) := by decide +kernel
theorem dX11_lay_2 : decode cX11_lay 2 = .ok (.aload_n 0, 1) := by decide +kernel
theorem dX11_lay_3 : decode cX11_lay 3 = .ok (.getfield 20, 3) := by decide +kernel
theorem dX11_lay_6 : decode cX11_lay 6 = .ok (.getfield 154, 3) := by decide +kernel
theorem dX11_lay_9 : decode cX11_lay 9 = .ok (.aload_n 0, 1) := by decide +kernel
theorem dX11_lay_10 : decode cX11_lay 10 = .ok (.getfield 93, 3) := by decide +kernel
theorem dX11_lay_13 : decode cX11_lay 13 = .ok (.invokestatic 246, 3) := by decide +kernel
theorem dX11_lay_16 : decode cX11_lay 16 = .ok (.ifCond .ne 13, 3) := by decide +kernel
theorem dX11_lay_19 : decode cX11_lay 19 = .ok (.aload_n 0, 1) := by decide +kernel
theorem dX11_lay_20 : decode cX11_lay 20 = .ok (.getfield 39, 3) := by decide +kernel
theorem dX11_lay_23 : decode cX11_lay 23 = .ok (.iconst 1, 1) := by decide +kernel
theorem dX11_lay_24 : decode cX11_lay 24 = .ok (.invokevirtual 135, 3) := by decide +kernel
theorem dX11_lay_27 : decode cX11_lay 27 = .ok (.iconst 0, 1) := by decide +kernel
theorem dX11_lay_28 : decode cX11_lay 28 = .ok (.ireturn, 1) := by decide +kernel
theorem dX11_lay_29 : decode cX11_lay 29 = .ok (.aload_n 0, 1) := by decide +kernel
theorem dX11_lay_30 : decode cX11_lay 30 = .ok (.getfield 93, 3) := by decide +kernel
theorem dX11_lay_33 : decode cX11_lay 33 = .ok (.iconst 0, 1) := by decide +kernel
theorem dX11_lay_34 : decode cX11_lay 34 = .ok (.aload_n 0, 1) := by decide +kernel
theorem dX11_lay_35 : decode cX11_lay 35 = .ok (.getfield 39, 3) := by decide +kernel
theorem dX11_lay_38 : decode cX11_lay 38 = .ok (.getfield 107, 3) := by decide +kernel
theorem dX11_lay_41 : decode cX11_lay 41 = .ok (.iconst 0, 1) := by decide +kernel
theorem dX11_lay_42 : decode cX11_lay 42 = .ok (.aload_n 0, 1) := by decide +kernel
theorem dX11_lay_43 : decode cX11_lay 43 = .ok (.getfield 20, 3) := by decide +kernel
theorem dX11_lay_46 : decode cX11_lay 46 = .ok (.getfield 154, 3) := by decide +kernel
theorem dX11_lay_49 : decode cX11_lay 49 = .ok (.invokestatic 250, 3) := by decide +kernel
theorem dX11_lay_52 : decode cX11_lay 52 = .ok (.aload_n 0, 1) := by decide +kernel
theorem dX11_lay_53 : decode cX11_lay 53 = .ok (.invokevirtual 151, 3) := by decide +kernel
theorem dX11_lay_56 : decode cX11_lay 56 = .ok (.iconst 1, 1) := by decide +kernel
theorem dX11_lay_57 : decode cX11_lay 57 = .ok (.ireturn, 1) := by decide +kernel
theorem dX11_takeDocket_0 : decode cX11_takeDocket 0 = .ok (.aload_n 0, 1) := by decide +kernel
theorem dX11_takeDocket_1 : decode cX11_takeDocket 1 = .ok (.getfield 49, 3) := by decide +kernel
theorem dX11_takeDocket_4 : decode cX11_takeDocket 4 = .ok (.aload_n 0, 1) := by decide +kernel
theorem dX11_takeDocket_5 : decode cX11_takeDocket 5 = .ok (.getfield 20, 3) := by decide +kernel
theorem dX11_takeDocket_8 : decode cX11_takeDocket 8 = .ok (.aload_n 0, 1) := by decide +kernel
theorem dX11_takeDocket_9 : decode cX11_takeDocket 9 = .ok (.getfield 39, 3) := by decide +kernel
theorem dX11_takeDocket_12 : decode cX11_takeDocket 12 = .ok (.getfield 100, 3) := by decide +kernel
theorem dX11_takeDocket_15 : decode cX11_takeDocket 15 = .ok (.invokevirtual 103, 3) := by decide +kernel
theorem dX11_takeDocket_18 : decode cX11_takeDocket 18 = .ok (.aload_n 0, 1) := by decide +kernel
theorem dX11_takeDocket_19 : decode cX11_takeDocket 19 = .ok (.getfield 73, 3) := by decide +kernel
theorem dX11_takeDocket_22 : decode cX11_takeDocket 22 = .ok (.invokevirtual 256, 3) := by decide +kernel
theorem dX11_takeDocket_25 : decode cX11_takeDocket 25 = .ok (.return_, 1) := by decide +kernel
theorem dX11_takeLaying_0 : decode cX11_takeLaying 0 = .ok (.aload_n 0, 1) := by decide +kernel
theorem dX11_takeLaying_1 : decode cX11_takeLaying 1 = .ok (.getfield 59, 3) := by decide +kernel
theorem dX11_takeLaying_4 : decode cX11_takeLaying 4 = .ok (.aload_n 0, 1) := by decide +kernel
theorem dX11_takeLaying_5 : decode cX11_takeLaying 5 = .ok (.getfield 20, 3) := by decide +kernel
theorem dX11_takeLaying_8 : decode cX11_takeLaying 8 = .ok (.aload_n 0, 1) := by decide +kernel
theorem dX11_takeLaying_9 : decode cX11_takeLaying 9 = .ok (.getfield 39, 3) := by decide +kernel
theorem dX11_takeLaying_12 : decode cX11_takeLaying 12 = .ok (.getfield 107, 3) := by decide +kernel
theorem dX11_takeLaying_15 : decode cX11_takeLaying 15 = .ok (.invokevirtual 110, 3) := by decide +kernel
theorem dX11_takeLaying_18 : decode cX11_takeLaying 18 = .ok (.aload_n 0, 1) := by decide +kernel
theorem dX11_takeLaying_19 : decode cX11_takeLaying 19 = .ok (.getfield 66, 3) := by decide +kernel
theorem dX11_takeLaying_22 : decode cX11_takeLaying 22 = .ok (.invokevirtual 257, 3) := by decide +kernel
theorem dX11_takeLaying_25 : decode cX11_takeLaying 25 = .ok (.return_, 1) := by decide +kernel
theorem dX11_readFigures_0 : decode cX11_readFigures 0 = .ok (.lload_n 0, 1) := by decide +kernel
theorem dX11_readFigures_1 : decode cX11_readFigures 1 = .ok (.lstore 5, 2) := by decide +kernel
theorem dX11_readFigures_3 : decode cX11_readFigures 3 = .ok (.iconst 0, 1) := by decide +kernel
theorem dX11_readFigures_4 : decode cX11_readFigures 4 = .ok (.istore 7, 2) := by decide +kernel
theorem dX11_readFigures_6 : decode cX11_readFigures 6 = .ok (.iconst 0, 1) := by decide +kernel
theorem dX11_readFigures_7 : decode cX11_readFigures 7 = .ok (.istore 8, 2) := by decide +kernel
theorem dX11_readFigures_9 : decode cX11_readFigures 9 = .ok (.iload 8, 2) := by decide +kernel
theorem dX11_readFigures_11 : decode cX11_readFigures 11 = .ok (.iload_n 3, 1) := by decide +kernel
theorem dX11_readFigures_12 : decode cX11_readFigures 12 = .ok (.if_icmp .ge 61, 3) := by decide +kernel
theorem dX11_readFigures_15 : decode cX11_readFigures 15 = .ok (.lload 5, 2) := by decide +kernel
theorem dX11_readFigures_17 : decode cX11_readFigures 17 = .ok (.iconst 1, 1) := by decide +kernel
theorem dX11_readFigures_18 : decode cX11_readFigures 18 = .ok (.iload_n 2, 1) := by decide +kernel
theorem dX11_readFigures_19 : decode cX11_readFigures 19 = .ok (.ishl, 1) := by decide +kernel
theorem dX11_readFigures_20 : decode cX11_readFigures 20 = .ok (.iconst 1, 1) := by decide +kernel
theorem dX11_readFigures_21 : decode cX11_readFigures 21 = .ok (.isub, 1) := by decide +kernel
theorem dX11_readFigures_22 : decode cX11_readFigures 22 = .ok (.i2l, 1) := by decide +kernel
theorem dX11_readFigures_23 : decode cX11_readFigures 23 = .ok (.land, 1) := by decide +kernel
theorem dX11_readFigures_24 : decode cX11_readFigures 24 = .ok (.l2i, 1) := by decide +kernel
theorem dX11_readFigures_25 : decode cX11_readFigures 25 = .ok (.istore 9, 2) := by decide +kernel
theorem dX11_readFigures_27 : decode cX11_readFigures 27 = .ok (.lload 5, 2) := by decide +kernel
theorem dX11_readFigures_29 : decode cX11_readFigures 29 = .ok (.iload_n 2, 1) := by decide +kernel
theorem dX11_readFigures_30 : decode cX11_readFigures 30 = .ok (.lushr, 1) := by decide +kernel
theorem dX11_readFigures_31 : decode cX11_readFigures 31 = .ok (.lstore 5, 2) := by decide +kernel
theorem dX11_readFigures_33 : decode cX11_readFigures 33 = .ok (.iload 9, 2) := by decide +kernel
theorem dX11_readFigures_35 : decode cX11_readFigures 35 = .ok (.iload_n 3, 1) := by decide +kernel
theorem dX11_readFigures_36 : decode cX11_readFigures 36 = .ok (.if_icmp .ge 13, 3) := by decide +kernel
theorem dX11_readFigures_39 : decode cX11_readFigures 39 = .ok (.iload 7, 2) := by decide +kernel
theorem dX11_readFigures_41 : decode cX11_readFigures 41 = .ok (.iload 9, 2) := by decide +kernel
theorem dX11_readFigures_43 : decode cX11_readFigures 43 = .ok (.ishr, 1) := by decide +kernel
theorem dX11_readFigures_44 : decode cX11_readFigures 44 = .ok (.iconst 1, 1) := by decide +kernel
theorem dX11_readFigures_45 : decode cX11_readFigures 45 = .ok (.iand, 1) := by decide +kernel
theorem dX11_readFigures_46 : decode cX11_readFigures 46 = .ok (.ifCond .eq 5, 3) := by decide +kernel
theorem dX11_readFigures_49 : decode cX11_readFigures 49 = .ok (.iconst 0, 1) := by decide +kernel
theorem dX11_readFigures_50 : decode cX11_readFigures 50 = .ok (.ireturn, 1) := by decide +kernel
theorem dX11_readFigures_51 : decode cX11_readFigures 51 = .ok (.iload 7, 2) := by decide +kernel
theorem dX11_readFigures_53 : decode cX11_readFigures 53 = .ok (.iconst 1, 1) := by decide +kernel
theorem dX11_readFigures_54 : decode cX11_readFigures 54 = .ok (.iload 9, 2) := by decide +kernel
theorem dX11_readFigures_56 : decode cX11_readFigures 56 = .ok (.ishl, 1) := by decide +kernel
theorem dX11_readFigures_57 : decode cX11_readFigures 57 = .ok (.ior, 1) := by decide +kernel
theorem dX11_readFigures_58 : decode cX11_readFigures 58 = .ok (.istore 7, 2) := by decide +kernel
theorem dX11_readFigures_60 : decode cX11_readFigures 60 = .ok (.aload 4, 2) := by decide +kernel
theorem dX11_readFigures_62 : decode cX11_readFigures 62 = .ok (.iload 8, 2) := by decide +kernel
theorem dX11_readFigures_64 : decode cX11_readFigures 64 = .ok (.iload 9, 2) := by decide +kernel
theorem dX11_readFigures_66 : decode cX11_readFigures 66 = .ok (.iastore, 1) := by decide +kernel
theorem dX11_readFigures_67 : decode cX11_readFigures 67 = .ok (.iinc 8 1, 3) := by decide +kernel
theorem dX11_readFigures_70 : decode cX11_readFigures 70 = .ok (.goto (-61), 3) := by decide +kernel
theorem dX11_readFigures_73 : decode cX11_readFigures 73 = .ok (.lload 5, 2) := by decide +kernel
theorem dX11_readFigures_75 : decode cX11_readFigures 75 = .ok (.lconst 0, 1) := by decide +kernel
theorem dX11_readFigures_76 : decode cX11_readFigures 76 = .ok (.lcmp, 1) := by decide +kernel
theorem dX11_readFigures_77 : decode cX11_readFigures 77 = .ok (.ifCond .ne 7, 3) := by decide +kernel
theorem dX11_readFigures_80 : decode cX11_readFigures 80 = .ok (.iconst 1, 1) := by decide +kernel
theorem dX11_readFigures_81 : decode cX11_readFigures 81 = .ok (.goto 4, 3) := by decide +kernel
theorem dX11_readFigures_84 : decode cX11_readFigures 84 = .ok (.iconst 0, 1) := by decide +kernel
theorem dX11_readFigures_85 : decode cX11_readFigures 85 = .ok (.ireturn, 1) := by decide +kernel
theorem dX11_writeFigures_0 : decode cX11_writeFigures 0 = .ok (.lconst 0, 1) := by decide +kernel
theorem dX11_writeFigures_1 : decode cX11_writeFigures 1 = .ok (.lstore_n 3, 1) := by decide +kernel
theorem dX11_writeFigures_2 : decode cX11_writeFigures 2 = .ok (.iload_n 1, 1) := by decide +kernel
theorem dX11_writeFigures_3 : decode cX11_writeFigures 3 = .ok (.iconst 1, 1) := by decide +kernel
theorem dX11_writeFigures_4 : decode cX11_writeFigures 4 = .ok (.isub, 1) := by decide +kernel
theorem dX11_writeFigures_5 : decode cX11_writeFigures 5 = .ok (.istore 5, 2) := by decide +kernel
theorem dX11_writeFigures_7 : decode cX11_writeFigures 7 = .ok (.iload 5, 2) := by decide +kernel
theorem dX11_writeFigures_9 : decode cX11_writeFigures 9 = .ok (.ifCond .lt 19, 3) := by decide +kernel
theorem dX11_writeFigures_12 : decode cX11_writeFigures 12 = .ok (.lload_n 3, 1) := by decide +kernel
theorem dX11_writeFigures_13 : decode cX11_writeFigures 13 = .ok (.iload_n 2, 1) := by decide +kernel
theorem dX11_writeFigures_14 : decode cX11_writeFigures 14 = .ok (.lshl, 1) := by decide +kernel
theorem dX11_writeFigures_15 : decode cX11_writeFigures 15 = .ok (.aload_n 0, 1) := by decide +kernel
theorem dX11_writeFigures_16 : decode cX11_writeFigures 16 = .ok (.iload 5, 2) := by decide +kernel
theorem dX11_writeFigures_18 : decode cX11_writeFigures 18 = .ok (.iaload, 1) := by decide +kernel
theorem dX11_writeFigures_19 : decode cX11_writeFigures 19 = .ok (.i2l, 1) := by decide +kernel
theorem dX11_writeFigures_20 : decode cX11_writeFigures 20 = .ok (.lor, 1) := by decide +kernel
theorem dX11_writeFigures_21 : decode cX11_writeFigures 21 = .ok (.lstore_n 3, 1) := by decide +kernel
theorem dX11_writeFigures_22 : decode cX11_writeFigures 22 = .ok (.iinc 5 (-1), 3) := by decide +kernel
theorem dX11_writeFigures_25 : decode cX11_writeFigures 25 = .ok (.goto (-18), 3) := by decide +kernel
theorem dX11_writeFigures_28 : decode cX11_writeFigures 28 = .ok (.lload_n 3, 1) := by decide +kernel
theorem dX11_writeFigures_29 : decode cX11_writeFigures 29 = .ok (.lreturn, 1) := by decide +kernel
theorem dX11_up_0 : decode cX11_up 0 = .ok (.iload_n 1, 1) := by decide +kernel
theorem dX11_up_1 : decode cX11_up 1 = .ok (.invokestatic 260, 3) := by decide +kernel
theorem dX11_up_4 : decode cX11_up 4 = .ok (.iload_n 2, 1) := by decide +kernel
theorem dX11_up_5 : decode cX11_up 5 = .ok (.lookupswitch 52 #[(0, 27), (1, 43)], 27) := by decide +kernel
theorem dX11_up_32 : decode cX11_up 32 = .ok (.aload_n 0, 1) := by decide +kernel
theorem dX11_up_33 : decode cX11_up 33 = .ok (.getfield 20, 3) := by decide +kernel
theorem dX11_up_36 : decode cX11_up 36 = .ok (.aload_n 0, 1) := by decide +kernel
theorem dX11_up_37 : decode cX11_up 37 = .ok (.getfield 49, 3) := by decide +kernel
theorem dX11_up_40 : decode cX11_up 40 = .ok (.iload_n 1, 1) := by decide +kernel
theorem dX11_up_41 : decode cX11_up 41 = .ok (.invokevirtual 263, 3) := by decide +kernel
theorem dX11_up_44 : decode cX11_up 44 = .ok (.invokevirtual 267, 3) := by decide +kernel
theorem dX11_up_47 : decode cX11_up 47 = .ok (.ireturn, 1) := by decide +kernel
theorem dX11_up_48 : decode cX11_up 48 = .ok (.aload_n 0, 1) := by decide +kernel
theorem dX11_up_49 : decode cX11_up 49 = .ok (.getfield 49, 3) := by decide +kernel
theorem dX11_up_52 : decode cX11_up 52 = .ok (.iload_n 1, 1) := by decide +kernel
theorem dX11_up_53 : decode cX11_up 53 = .ok (.invokevirtual 263, 3) := by decide +kernel
theorem dX11_up_56 : decode cX11_up 56 = .ok (.ireturn, 1) := by decide +kernel
theorem dX11_up_57 : decode cX11_up 57 = .ok (.new 188, 3) := by decide +kernel
theorem dX11_up_60 : decode cX11_up 60 = .ok (.dup, 1) := by decide +kernel
theorem dX11_up_61 : decode cX11_up 61 = .ok (.ldc 190, 2) := by decide +kernel
theorem dX11_up_63 : decode cX11_up 63 = .ok (.invokespecial 192, 3) := by decide +kernel
theorem dX11_up_66 : decode cX11_up 66 = .ok (.athrow, 1) := by decide +kernel
theorem dX11_planks_0 : decode cX11_planks 0 = .ok (.aload_n 0, 1) := by decide +kernel
theorem dX11_planks_1 : decode cX11_planks 1 = .ok (.iload_n 1, 1) := by decide +kernel
theorem dX11_planks_2 : decode cX11_planks 2 = .ok (.invokevirtual 219, 3) := by decide +kernel
theorem dX11_planks_5 : decode cX11_planks 5 = .ok (.iload_n 2, 1) := by decide +kernel
theorem dX11_planks_6 : decode cX11_planks 6 = .ok (.invokestatic 260, 3) := by decide +kernel
theorem dX11_planks_9 : decode cX11_planks 9 = .ok (.aload_n 0, 1) := by decide +kernel
theorem dX11_planks_10 : decode cX11_planks 10 = .ok (.getfield 59, 3) := by decide +kernel
theorem dX11_planks_13 : decode cX11_planks 13 = .ok (.invokevirtual 270, 3) := by decide +kernel
theorem dX11_planks_16 : decode cX11_planks 16 = .ok (.aload_n 0, 1) := by decide +kernel
theorem dX11_planks_17 : decode cX11_planks 17 = .ok (.iload_n 1, 1) := by decide +kernel
theorem dX11_planks_18 : decode cX11_planks 18 = .ok (.iload_n 2, 1) := by decide +kernel
theorem dX11_planks_19 : decode cX11_planks 19 = .ok (.invokevirtual 273, 3) := by decide +kernel
theorem dX11_planks_22 : decode cX11_planks 22 = .ok (.iconst (-1), 1) := by decide +kernel
theorem dX11_planks_23 : decode cX11_planks 23 = .ok (.ixor, 1) := by decide +kernel
theorem dX11_planks_24 : decode cX11_planks 24 = .ok (.iand, 1) := by decide +kernel
theorem dX11_planks_25 : decode cX11_planks 25 = .ok (.ireturn, 1) := by decide +kernel
theorem dX11_crosses_0 : decode cX11_crosses 0 = .ok (.aload_n 0, 1) := by decide +kernel
theorem dX11_crosses_1 : decode cX11_crosses 1 = .ok (.iload_n 1, 1) := by decide +kernel
theorem dX11_crosses_2 : decode cX11_crosses 2 = .ok (.invokevirtual 219, 3) := by decide +kernel
theorem dX11_crosses_5 : decode cX11_crosses 5 = .ok (.iload_n 2, 1) := by decide +kernel
theorem dX11_crosses_6 : decode cX11_crosses 6 = .ok (.invokestatic 260, 3) := by decide +kernel
theorem dX11_crosses_9 : decode cX11_crosses 9 = .ok (.aload_n 0, 1) := by decide +kernel
theorem dX11_crosses_10 : decode cX11_crosses 10 = .ok (.iload_n 1, 1) := by decide +kernel
theorem dX11_crosses_11 : decode cX11_crosses 11 = .ok (.iload_n 2, 1) := by decide +kernel
theorem dX11_crosses_12 : decode cX11_crosses 12 = .ok (.invokevirtual 273, 3) := by decide +kernel
theorem dX11_crosses_15 : decode cX11_crosses 15 = .ok (.istore_n 3, 1) := by decide +kernel
theorem dX11_crosses_16 : decode cX11_crosses 16 = .ok (.aload_n 0, 1) := by decide +kernel
theorem dX11_crosses_17 : decode cX11_crosses 17 = .ok (.getfield 59, 3) := by decide +kernel
theorem dX11_crosses_20 : decode cX11_crosses 20 = .ok (.iload_n 1, 1) := by decide +kernel
theorem dX11_crosses_21 : decode cX11_crosses 21 = .ok (.iload_n 3, 1) := by decide +kernel
theorem dX11_crosses_22 : decode cX11_crosses 22 = .ok (.aload_n 0, 1) := by decide +kernel
theorem dX11_crosses_23 : decode cX11_crosses 23 = .ok (.getfield 20, 3) := by decide +kernel
theorem dX11_crosses_26 : decode cX11_crosses 26 = .ok (.iload_n 2, 1) := by decide +kernel
theorem dX11_crosses_27 : decode cX11_crosses 27 = .ok (.invokevirtual 277, 3) := by decide +kernel
theorem dX11_crosses_30 : decode cX11_crosses 30 = .ok (.invokevirtual 281, 3) := by decide +kernel
theorem dX11_crosses_33 : decode cX11_crosses 33 = .ok (.ifCond .ne 5, 3) := by decide +kernel
theorem dX11_crosses_36 : decode cX11_crosses 36 = .ok (.iconst (-1), 1) := by decide +kernel
theorem dX11_crosses_37 : decode cX11_crosses 37 = .ok (.ireturn, 1) := by decide +kernel
theorem dX11_crosses_38 : decode cX11_crosses 38 = .ok (.aload_n 0, 1) := by decide +kernel
theorem dX11_crosses_39 : decode cX11_crosses 39 = .ok (.getfield 59, 3) := by decide +kernel
theorem dX11_crosses_42 : decode cX11_crosses 42 = .ok (.iload_n 1, 1) := by decide +kernel
theorem dX11_crosses_43 : decode cX11_crosses 43 = .ok (.iload_n 3, 1) := by decide +kernel
theorem dX11_crosses_44 : decode cX11_crosses 44 = .ok (.aload_n 0, 1) := by decide +kernel
theorem dX11_crosses_45 : decode cX11_crosses 45 = .ok (.getfield 20, 3) := by decide +kernel
theorem dX11_crosses_48 : decode cX11_crosses 48 = .ok (.iload_n 2, 1) := by decide +kernel
theorem dX11_crosses_49 : decode cX11_crosses 49 = .ok (.invokevirtual 277, 3) := by decide +kernel
theorem dX11_crosses_52 : decode cX11_crosses 52 = .ok (.invokevirtual 285, 3) := by decide +kernel
theorem dX11_crosses_55 : decode cX11_crosses 55 = .ok (.ireturn, 1) := by decide +kernel
theorem dX11_bar_0 : decode cX11_bar 0 = .ok (.aload_n 0, 1) := by decide +kernel
theorem dX11_bar_1 : decode cX11_bar 1 = .ok (.iload_n 1, 1) := by decide +kernel
theorem dX11_bar_2 : decode cX11_bar 2 = .ok (.invokevirtual 219, 3) := by decide +kernel
theorem dX11_bar_5 : decode cX11_bar 5 = .ok (.iload_n 2, 1) := by decide +kernel
theorem dX11_bar_6 : decode cX11_bar 6 = .ok (.invokestatic 260, 3) := by decide +kernel
theorem dX11_bar_9 : decode cX11_bar 9 = .ok (.aload_n 0, 1) := by decide +kernel
theorem dX11_bar_10 : decode cX11_bar 10 = .ok (.getfield 59, 3) := by decide +kernel
theorem dX11_bar_13 : decode cX11_bar 13 = .ok (.iload_n 1, 1) := by decide +kernel
theorem dX11_bar_14 : decode cX11_bar 14 = .ok (.aload_n 0, 1) := by decide +kernel
theorem dX11_bar_15 : decode cX11_bar 15 = .ok (.iload_n 1, 1) := by decide +kernel
theorem dX11_bar_16 : decode cX11_bar 16 = .ok (.iload_n 2, 1) := by decide +kernel
theorem dX11_bar_17 : decode cX11_bar 17 = .ok (.invokevirtual 273, 3) := by decide +kernel
theorem dX11_bar_20 : decode cX11_bar 20 = .ok (.aload_n 0, 1) := by decide +kernel
theorem dX11_bar_21 : decode cX11_bar 21 = .ok (.getfield 20, 3) := by decide +kernel
theorem dX11_bar_24 : decode cX11_bar 24 = .ok (.iload_n 2, 1) := by decide +kernel
theorem dX11_bar_25 : decode cX11_bar 25 = .ok (.invokevirtual 277, 3) := by decide +kernel
theorem dX11_bar_28 : decode cX11_bar 28 = .ok (.invokevirtual 289, 3) := by decide +kernel
theorem dX11_bar_31 : decode cX11_bar 31 = .ok (.ireturn, 1) := by decide +kernel
theorem dX11_gapsOn_0 : decode cX11_gapsOn 0 = .ok (.aload_n 0, 1) := by decide +kernel
theorem dX11_gapsOn_1 : decode cX11_gapsOn 1 = .ok (.getfield 59, 3) := by decide +kernel
theorem dX11_gapsOn_4 : decode cX11_gapsOn 4 = .ok (.iload_n 1, 1) := by decide +kernel
theorem dX11_gapsOn_5 : decode cX11_gapsOn 5 = .ok (.aload_n 0, 1) := by decide +kernel
theorem dX11_gapsOn_6 : decode cX11_gapsOn 6 = .ok (.getfield 59, 3) := by decide +kernel
theorem dX11_gapsOn_9 : decode cX11_gapsOn 9 = .ok (.aload_n 0, 1) := by decide +kernel
theorem dX11_gapsOn_10 : decode cX11_gapsOn 10 = .ok (.getfield 20, 3) := by decide +kernel
theorem dX11_gapsOn_13 : decode cX11_gapsOn 13 = .ok (.aload_n 0, 1) := by decide +kernel
theorem dX11_gapsOn_14 : decode cX11_gapsOn 14 = .ok (.getfield 49, 3) := by decide +kernel
theorem dX11_gapsOn_17 : decode cX11_gapsOn 17 = .ok (.iload_n 2, 1) := by decide +kernel
theorem dX11_gapsOn_18 : decode cX11_gapsOn 18 = .ok (.invokevirtual 263, 3) := by decide +kernel
theorem dX11_gapsOn_21 : decode cX11_gapsOn 21 = .ok (.invokevirtual 267, 3) := by decide +kernel
theorem dX11_gapsOn_24 : decode cX11_gapsOn 24 = .ok (.invokevirtual 292, 3) := by decide +kernel
theorem dX11_gapsOn_27 : decode cX11_gapsOn 27 = .ok (.aload_n 0, 1) := by decide +kernel
theorem dX11_gapsOn_28 : decode cX11_gapsOn 28 = .ok (.getfield 49, 3) := by decide +kernel
theorem dX11_gapsOn_31 : decode cX11_gapsOn 31 = .ok (.iload_n 2, 1) := by decide +kernel
theorem dX11_gapsOn_32 : decode cX11_gapsOn 32 = .ok (.invokevirtual 295, 3) := by decide +kernel
theorem dX11_gapsOn_35 : decode cX11_gapsOn 35 = .ok (.invokevirtual 298, 3) := by decide +kernel
theorem dX11_gapsOn_38 : decode cX11_gapsOn 38 = .ok (.ireturn, 1) := by decide +kernel
theorem dX11_over_0 : decode cX11_over 0 = .ok (.aload_n 0, 1) := by decide +kernel
theorem dX11_over_1 : decode cX11_over 1 = .ok (.iload_n 1, 1) := by decide +kernel
theorem dX11_over_2 : decode cX11_over 2 = .ok (.invokevirtual 219, 3) := by decide +kernel
theorem dX11_over_5 : decode cX11_over 5 = .ok (.aload_n 0, 1) := by decide +kernel
theorem dX11_over_6 : decode cX11_over 6 = .ok (.getfield 20, 3) := by decide +kernel
theorem dX11_over_9 : decode cX11_over 9 = .ok (.getfield 222, 3) := by decide +kernel
theorem dX11_over_12 : decode cX11_over 12 = .ok (.iload_n 1, 1) := by decide +kernel
theorem dX11_over_13 : decode cX11_over 13 = .ok (.aaload, 1) := by decide +kernel
theorem dX11_over_14 : decode cX11_over 14 = .ok (.astore_n 2, 1) := by decide +kernel
theorem dX11_over_15 : decode cX11_over 15 = .ok (.aload_n 2, 1) := by decide +kernel
theorem dX11_over_16 : decode cX11_over 16 = .ok (.getfield 240, 3) := by decide +kernel
theorem dX11_over_19 : decode cX11_over 19 = .ok (.istore_n 3, 1) := by decide +kernel
theorem dX11_over_20 : decode cX11_over 20 = .ok (.iload_n 3, 1) := by decide +kernel
theorem dX11_over_21 : decode cX11_over 21 = .ok (.aload_n 2, 1) := by decide +kernel
theorem dX11_over_22 : decode cX11_over 22 = .ok (.getfield 243, 3) := by decide +kernel
theorem dX11_over_25 : decode cX11_over 25 = .ok (.if_icmp .gt 36, 3) := by decide +kernel
theorem dX11_over_28 : decode cX11_over 28 = .ok (.aload_n 0, 1) := by decide +kernel
theorem dX11_over_29 : decode cX11_over 29 = .ok (.getfield 59, 3) := by decide +kernel
theorem dX11_over_32 : decode cX11_over 32 = .ok (.iload_n 1, 1) := by decide +kernel
theorem dX11_over_33 : decode cX11_over 33 = .ok (.aload_n 0, 1) := by decide +kernel
theorem dX11_over_34 : decode cX11_over 34 = .ok (.iload_n 1, 1) := by decide +kernel
theorem dX11_over_35 : decode cX11_over 35 = .ok (.iload_n 3, 1) := by decide +kernel
theorem dX11_over_36 : decode cX11_over 36 = .ok (.invokevirtual 273, 3) := by decide +kernel
theorem dX11_over_39 : decode cX11_over 39 = .ok (.aload_n 0, 1) := by decide +kernel
theorem dX11_over_40 : decode cX11_over 40 = .ok (.getfield 20, 3) := by decide +kernel
theorem dX11_over_43 : decode cX11_over 43 = .ok (.iload_n 3, 1) := by decide +kernel
theorem dX11_over_44 : decode cX11_over 44 = .ok (.invokevirtual 277, 3) := by decide +kernel
theorem dX11_over_47 : decode cX11_over 47 = .ok (.invokevirtual 281, 3) := by decide +kernel
theorem dX11_over_50 : decode cX11_over 50 = .ok (.ifCond .eq 5, 3) := by decide +kernel
theorem dX11_over_53 : decode cX11_over 53 = .ok (.iload_n 3, 1) := by decide +kernel
theorem dX11_over_54 : decode cX11_over 54 = .ok (.ireturn, 1) := by decide +kernel
theorem dX11_over_55 : decode cX11_over 55 = .ok (.iinc 3 1, 3) := by decide +kernel
theorem dX11_over_58 : decode cX11_over 58 = .ok (.goto (-38), 3) := by decide +kernel
theorem dX11_over_61 : decode cX11_over 61 = .ok (.iconst (-1), 1) := by decide +kernel
theorem dX11_over_62 : decode cX11_over 62 = .ok (.ireturn, 1) := by decide +kernel
theorem dX11_best_0 : decode cX11_best 0 = .ok (.iload_n 1, 1) := by decide +kernel
theorem dX11_best_1 : decode cX11_best 1 = .ok (.ifCond .lt 8, 3) := by decide +kernel
theorem dX11_best_4 : decode cX11_best 4 = .ok (.iload_n 1, 1) := by decide +kernel
theorem dX11_best_5 : decode cX11_best 5 = .ok (.iconst 2, 1) := by decide +kernel
theorem dX11_best_6 : decode cX11_best 6 = .ok (.if_icmp .le 13, 3) := by decide +kernel
theorem dX11_best_9 : decode cX11_best 9 = .ok (.new 188, 3) := by decide +kernel
theorem dX11_best_12 : decode cX11_best 12 = .ok (.dup, 1) := by decide +kernel
theorem dX11_best_13 : decode cX11_best 13 = .ok (.ldc 190, 2) := by decide +kernel
theorem dX11_best_15 : decode cX11_best 15 = .ok (.invokespecial 192, 3) := by decide +kernel
theorem dX11_best_18 : decode cX11_best 18 = .ok (.athrow, 1) := by decide +kernel
theorem dX11_best_19 : decode cX11_best 19 = .ok (.aload_n 0, 1) := by decide +kernel
theorem dX11_best_20 : decode cX11_best 20 = .ok (.getfield 66, 3) := by decide +kernel
theorem dX11_best_23 : decode cX11_best 23 = .ok (.aload_n 0, 1) := by decide +kernel
theorem dX11_best_24 : decode cX11_best 24 = .ok (.getfield 20, 3) := by decide +kernel
theorem dX11_best_27 : decode cX11_best 27 = .ok (.aload_n 0, 1) := by decide +kernel
theorem dX11_best_28 : decode cX11_best 28 = .ok (.getfield 53, 3) := by decide +kernel
theorem dX11_best_31 : decode cX11_best 31 = .ok (.invokevirtual 302, 3) := by decide +kernel
theorem dX11_best_34 : decode cX11_best 34 = .ok (.aload_n 0, 1) := by decide +kernel
theorem dX11_best_35 : decode cX11_best 35 = .ok (.getfield 66, 3) := by decide +kernel
theorem dX11_best_38 : decode cX11_best 38 = .ok (.aload_n 0, 1) := by decide +kernel
theorem dX11_best_39 : decode cX11_best 39 = .ok (.getfield 20, 3) := by decide +kernel
theorem dX11_best_42 : decode cX11_best 42 = .ok (.aload_n 0, 1) := by decide +kernel
theorem dX11_best_43 : decode cX11_best 43 = .ok (.getfield 59, 3) := by decide +kernel
theorem dX11_best_46 : decode cX11_best 46 = .ok (.aload_n 0, 1) := by decide +kernel
theorem dX11_best_47 : decode cX11_best 47 = .ok (.getfield 53, 3) := by decide +kernel
theorem dX11_best_50 : decode cX11_best 50 = .ok (.invokevirtual 306, 3) := by decide +kernel
theorem dX11_best_53 : decode cX11_best 53 = .ok (.iload_n 1, 1) := by decide +kernel
theorem dX11_best_54 : decode cX11_best 54 = .ok (.lookupswitch 42 #[(0, 26), (1, 34)], 26) := by decide +kernel
theorem dX11_best_80 : decode cX11_best 80 = .ok (.aload_n 0, 1) := by decide +kernel
theorem dX11_best_81 : decode cX11_best 81 = .ok (.getfield 66, 3) := by decide +kernel
theorem dX11_best_84 : decode cX11_best 84 = .ok (.getfield 310, 3) := by decide +kernel
theorem dX11_best_87 : decode cX11_best 87 = .ok (.ireturn, 1) := by decide +kernel
theorem dX11_best_88 : decode cX11_best 88 = .ok (.aload_n 0, 1) := by decide +kernel
theorem dX11_best_89 : decode cX11_best 89 = .ok (.getfield 66, 3) := by decide +kernel
theorem dX11_best_92 : decode cX11_best 92 = .ok (.getfield 313, 3) := by decide +kernel
theorem dX11_best_95 : decode cX11_best 95 = .ok (.ireturn, 1) := by decide +kernel
theorem dX11_best_96 : decode cX11_best 96 = .ok (.aload_n 0, 1) := by decide +kernel
theorem dX11_best_97 : decode cX11_best 97 = .ok (.getfield 66, 3) := by decide +kernel
theorem dX11_best_100 : decode cX11_best 100 = .ok (.getfield 316, 3) := by decide +kernel
theorem dX11_best_103 : decode cX11_best 103 = .ok (.ireturn, 1) := by decide +kernel
theorem dX11_lays_0 : decode cX11_lays 0 = .ok (.iload_n 1, 1) := by decide +kernel
theorem dX11_lays_1 : decode cX11_lays 1 = .ok (.ifCond .lt 8, 3) := by decide +kernel
theorem dX11_lays_4 : decode cX11_lays 4 = .ok (.iload_n 1, 1) := by decide +kernel
theorem dX11_lays_5 : decode cX11_lays 5 = .ok (.iconst 2, 1) := by decide +kernel
theorem dX11_lays_6 : decode cX11_lays 6 = .ok (.if_icmp .le 13, 3) := by decide +kernel
theorem dX11_lays_9 : decode cX11_lays 9 = .ok (.new 188, 3) := by decide +kernel
theorem dX11_lays_12 : decode cX11_lays 12 = .ok (.dup, 1) := by decide +kernel
theorem dX11_lays_13 : decode cX11_lays 13 = .ok (.ldc 190, 2) := by decide +kernel
theorem dX11_lays_15 : decode cX11_lays 15 = .ok (.invokespecial 192, 3) := by decide +kernel
theorem dX11_lays_18 : decode cX11_lays 18 = .ok (.athrow, 1) := by decide +kernel
theorem dX11_lays_19 : decode cX11_lays 19 = .ok (.aload_n 0, 1) := by decide +kernel
theorem dX11_lays_20 : decode cX11_lays 20 = .ok (.getfield 20, 3) := by decide +kernel
theorem dX11_lays_23 : decode cX11_lays 23 = .ok (.getfield 154, 3) := by decide +kernel
theorem dX11_lays_26 : decode cX11_lays 26 = .ok (.bipush 7, 2) := by decide +kernel
theorem dX11_lays_28 : decode cX11_lays 28 = .ok (.if_icmp .le 7, 3) := by decide +kernel
theorem dX11_lays_31 : decode cX11_lays 31 = .ok (.ldc2_w 319, 3) := by decide +kernel
theorem dX11_lays_34 : decode cX11_lays 34 = .ok (.lreturn, 1) := by decide +kernel
theorem dX11_lays_35 : decode cX11_lays 35 = .ok (.aload_n 0, 1) := by decide +kernel
theorem dX11_lays_36 : decode cX11_lays 36 = .ok (.getfield 73, 3) := by decide +kernel
theorem dX11_lays_39 : decode cX11_lays 39 = .ok (.aload_n 0, 1) := by decide +kernel
theorem dX11_lays_40 : decode cX11_lays 40 = .ok (.getfield 20, 3) := by decide +kernel
theorem dX11_lays_43 : decode cX11_lays 43 = .ok (.aload_n 0, 1) := by decide +kernel
theorem dX11_lays_44 : decode cX11_lays 44 = .ok (.getfield 49, 3) := by decide +kernel
theorem dX11_lays_47 : decode cX11_lays 47 = .ok (.invokevirtual 321, 3) := by decide +kernel
theorem dX11_lays_50 : decode cX11_lays 50 = .ok (.iload_n 1, 1) := by decide +kernel
theorem dX11_lays_51 : decode cX11_lays 51 = .ok (.lookupswitch 42 #[(0, 25), (1, 33)], 25) := by decide +kernel
theorem dX11_lays_76 : decode cX11_lays 76 = .ok (.aload_n 0, 1) := by decide +kernel
theorem dX11_lays_77 : decode cX11_lays 77 = .ok (.getfield 73, 3) := by decide +kernel
theorem dX11_lays_80 : decode cX11_lays 80 = .ok (.getfield 324, 3) := by decide +kernel
theorem dX11_lays_83 : decode cX11_lays 83 = .ok (.lreturn, 1) := by decide +kernel
theorem dX11_lays_84 : decode cX11_lays 84 = .ok (.aload_n 0, 1) := by decide +kernel
theorem dX11_lays_85 : decode cX11_lays 85 = .ok (.getfield 73, 3) := by decide +kernel
theorem dX11_lays_88 : decode cX11_lays 88 = .ok (.getfield 326, 3) := by decide +kernel
theorem dX11_lays_91 : decode cX11_lays 91 = .ok (.i2l, 1) := by decide +kernel
theorem dX11_lays_92 : decode cX11_lays 92 = .ok (.lreturn, 1) := by decide +kernel
theorem dX11_lays_93 : decode cX11_lays 93 = .ok (.aload_n 0, 1) := by decide +kernel
theorem dX11_lays_94 : decode cX11_lays 94 = .ok (.getfield 73, 3) := by decide +kernel
theorem dX11_lays_97 : decode cX11_lays 97 = .ok (.getfield 329, 3) := by decide +kernel
theorem dX11_lays_100 : decode cX11_lays 100 = .ok (.i2l, 1) := by decide +kernel
theorem dX11_lays_101 : decode cX11_lays 101 = .ok (.lreturn, 1) := by decide +kernel
theorem dX11_suit_0 : decode cX11_suit 0 = .ok (.aload_n 0, 1) := by decide +kernel
theorem dX11_suit_1 : decode cX11_suit 1 = .ok (.iload_n 1, 1) := by decide +kernel
theorem dX11_suit_2 : decode cX11_suit 2 = .ok (.invokevirtual 219, 3) := by decide +kernel
theorem dX11_suit_5 : decode cX11_suit 5 = .ok (.iload_n 2, 1) := by decide +kernel
theorem dX11_suit_6 : decode cX11_suit 6 = .ok (.invokestatic 260, 3) := by decide +kernel
theorem dX11_suit_9 : decode cX11_suit 9 = .ok (.aload_n 0, 1) := by decide +kernel
theorem dX11_suit_10 : decode cX11_suit 10 = .ok (.getfield 20, 3) := by decide +kernel
theorem dX11_suit_13 : decode cX11_suit 13 = .ok (.aload_n 0, 1) := by decide +kernel
theorem dX11_suit_14 : decode cX11_suit 14 = .ok (.getfield 49, 3) := by decide +kernel
theorem dX11_suit_17 : decode cX11_suit 17 = .ok (.iload_n 2, 1) := by decide +kernel
theorem dX11_suit_18 : decode cX11_suit 18 = .ok (.invokevirtual 263, 3) := by decide +kernel
theorem dX11_suit_21 : decode cX11_suit 21 = .ok (.invokevirtual 267, 3) := by decide +kernel
theorem dX11_suit_24 : decode cX11_suit 24 = .ok (.istore_n 3, 1) := by decide +kernel
theorem dX11_suit_25 : decode cX11_suit 25 = .ok (.aload_n 0, 1) := by decide +kernel
theorem dX11_suit_26 : decode cX11_suit 26 = .ok (.getfield 49, 3) := by decide +kernel
theorem dX11_suit_29 : decode cX11_suit 29 = .ok (.iload_n 2, 1) := by decide +kernel
theorem dX11_suit_30 : decode cX11_suit 30 = .ok (.invokevirtual 295, 3) := by decide +kernel
theorem dX11_suit_33 : decode cX11_suit 33 = .ok (.istore 4, 2) := by decide +kernel
theorem dX11_suit_35 : decode cX11_suit 35 = .ok (.bipush 11, 2) := by decide +kernel
theorem dX11_suit_37 : decode cX11_suit 37 = .ok (.istore 5, 2) := by decide +kernel
theorem dX11_suit_39 : decode cX11_suit 39 = .ok (.iconst (-1), 1) := by decide +kernel
theorem dX11_suit_40 : decode cX11_suit 40 = .ok (.istore 6, 2) := by decide +kernel
theorem dX11_suit_42 : decode cX11_suit 42 = .ok (.iconst 0, 1) := by decide +kernel
theorem dX11_suit_43 : decode cX11_suit 43 = .ok (.istore 7, 2) := by decide +kernel
theorem dX11_suit_45 : decode cX11_suit 45 = .ok (.iload 7, 2) := by decide +kernel
theorem dX11_suit_47 : decode cX11_suit 47 = .ok (.iconst 1, 1) := by decide +kernel
theorem dX11_suit_48 : decode cX11_suit 48 = .ok (.aload_n 0, 1) := by decide +kernel
theorem dX11_suit_49 : decode cX11_suit 49 = .ok (.getfield 20, 3) := by decide +kernel
theorem dX11_suit_52 : decode cX11_suit 52 = .ok (.getfield 154, 3) := by decide +kernel
theorem dX11_suit_55 : decode cX11_suit 55 = .ok (.ishl, 1) := by decide +kernel
theorem dX11_suit_56 : decode cX11_suit 56 = .ok (.if_icmp .ge 81, 3) := by decide +kernel
theorem dX11_suit_59 : decode cX11_suit 59 = .ok (.iload 7, 2) := by decide +kernel
theorem dX11_suit_61 : decode cX11_suit 61 = .ok (.iload_n 3, 1) := by decide +kernel
theorem dX11_suit_62 : decode cX11_suit 62 = .ok (.iand, 1) := by decide +kernel
theorem dX11_suit_63 : decode cX11_suit 63 = .ok (.ifCond .ne 68, 3) := by decide +kernel
theorem dX11_suit_66 : decode cX11_suit 66 = .ok (.iload 7, 2) := by decide +kernel
theorem dX11_suit_68 : decode cX11_suit 68 = .ok (.invokestatic 332, 3) := by decide +kernel
theorem dX11_suit_71 : decode cX11_suit 71 = .ok (.iload 5, 2) := by decide +kernel
theorem dX11_suit_73 : decode cX11_suit 73 = .ok (.if_icmp .ge 58, 3) := by decide +kernel
theorem dX11_suit_76 : decode cX11_suit 76 = .ok (.aload_n 0, 1) := by decide +kernel
theorem dX11_suit_77 : decode cX11_suit 77 = .ok (.getfield 59, 3) := by decide +kernel
theorem dX11_suit_80 : decode cX11_suit 80 = .ok (.iload_n 1, 1) := by decide +kernel
theorem dX11_suit_81 : decode cX11_suit 81 = .ok (.aload_n 0, 1) := by decide +kernel
theorem dX11_suit_82 : decode cX11_suit 82 = .ok (.getfield 59, 3) := by decide +kernel
theorem dX11_suit_85 : decode cX11_suit 85 = .ok (.iload 7, 2) := by decide +kernel
theorem dX11_suit_87 : decode cX11_suit 87 = .ok (.iload_n 3, 1) := by decide +kernel
theorem dX11_suit_88 : decode cX11_suit 88 = .ok (.ior, 1) := by decide +kernel
theorem dX11_suit_89 : decode cX11_suit 89 = .ok (.invokevirtual 292, 3) := by decide +kernel
theorem dX11_suit_92 : decode cX11_suit 92 = .ok (.iload 4, 2) := by decide +kernel
theorem dX11_suit_94 : decode cX11_suit 94 = .ok (.invokevirtual 298, 3) := by decide +kernel
theorem dX11_suit_97 : decode cX11_suit 97 = .ok (.istore 8, 2) := by decide +kernel
theorem dX11_suit_99 : decode cX11_suit 99 = .ok (.aload_n 0, 1) := by decide +kernel
theorem dX11_suit_100 : decode cX11_suit 100 = .ok (.getfield 59, 3) := by decide +kernel
theorem dX11_suit_103 : decode cX11_suit 103 = .ok (.iload_n 1, 1) := by decide +kernel
theorem dX11_suit_104 : decode cX11_suit 104 = .ok (.iload 8, 2) := by decide +kernel
theorem dX11_suit_106 : decode cX11_suit 106 = .ok (.aload_n 0, 1) := by decide +kernel
theorem dX11_suit_107 : decode cX11_suit 107 = .ok (.getfield 20, 3) := by decide +kernel
theorem dX11_suit_110 : decode cX11_suit 110 = .ok (.iload_n 2, 1) := by decide +kernel
theorem dX11_suit_111 : decode cX11_suit 111 = .ok (.invokevirtual 277, 3) := by decide +kernel
theorem dX11_suit_114 : decode cX11_suit 114 = .ok (.invokevirtual 281, 3) := by decide +kernel
theorem dX11_suit_117 : decode cX11_suit 117 = .ok (.ifCond .ne 14, 3) := by decide +kernel
theorem dX11_suit_120 : decode cX11_suit 120 = .ok (.iload 7, 2) := by decide +kernel
theorem dX11_suit_122 : decode cX11_suit 122 = .ok (.invokestatic 332, 3) := by decide +kernel
theorem dX11_suit_125 : decode cX11_suit 125 = .ok (.istore 5, 2) := by decide +kernel
theorem dX11_suit_127 : decode cX11_suit 127 = .ok (.iload 7, 2) := by decide +kernel
theorem dX11_suit_129 : decode cX11_suit 129 = .ok (.istore 6, 2) := by decide +kernel
theorem dX11_suit_131 : decode cX11_suit 131 = .ok (.iinc 7 1, 3) := by decide +kernel
theorem dX11_suit_134 : decode cX11_suit 134 = .ok (.goto (-89), 3) := by decide +kernel
theorem dX11_suit_137 : decode cX11_suit 137 = .ok (.iload 6, 2) := by decide +kernel
theorem dX11_suit_139 : decode cX11_suit 139 = .ok (.ireturn, 1) := by decide +kernel
theorem dX11_settled_0 : decode cX11_settled 0 = .ok (.aload_n 0, 1) := by decide +kernel
theorem dX11_settled_1 : decode cX11_settled 1 = .ok (.iload_n 1, 1) := by decide +kernel
theorem dX11_settled_2 : decode cX11_settled 2 = .ok (.invokevirtual 219, 3) := by decide +kernel
theorem dX11_settled_5 : decode cX11_settled 5 = .ok (.iload_n 2, 1) := by decide +kernel
theorem dX11_settled_6 : decode cX11_settled 6 = .ok (.invokestatic 260, 3) := by decide +kernel
theorem dX11_settled_9 : decode cX11_settled 9 = .ok (.aload_n 0, 1) := by decide +kernel
theorem dX11_settled_10 : decode cX11_settled 10 = .ok (.getfield 49, 3) := by decide +kernel
theorem dX11_settled_13 : decode cX11_settled 13 = .ok (.iload_n 2, 1) := by decide +kernel
theorem dX11_settled_14 : decode cX11_settled 14 = .ok (.invokevirtual 263, 3) := by decide +kernel
theorem dX11_settled_17 : decode cX11_settled 17 = .ok (.istore_n 3, 1) := by decide +kernel
theorem dX11_settled_18 : decode cX11_settled 18 = .ok (.aload_n 0, 1) := by decide +kernel
theorem dX11_settled_19 : decode cX11_settled 19 = .ok (.getfield 49, 3) := by decide +kernel
theorem dX11_settled_22 : decode cX11_settled 22 = .ok (.iload_n 2, 1) := by decide +kernel
theorem dX11_settled_23 : decode cX11_settled 23 = .ok (.invokevirtual 295, 3) := by decide +kernel
theorem dX11_settled_26 : decode cX11_settled 26 = .ok (.istore 4, 2) := by decide +kernel
theorem dX11_settled_28 : decode cX11_settled 28 = .ok (.bipush 8, 2) := by decide +kernel
theorem dX11_settled_30 : decode cX11_settled 30 = .ok (.istore 5, 2) := by decide +kernel
theorem dX11_settled_32 : decode cX11_settled 32 = .ok (.iconst (-1), 1) := by decide +kernel
theorem dX11_settled_33 : decode cX11_settled 33 = .ok (.istore 6, 2) := by decide +kernel
theorem dX11_settled_35 : decode cX11_settled 35 = .ok (.iconst 0, 1) := by decide +kernel
theorem dX11_settled_36 : decode cX11_settled 36 = .ok (.istore 7, 2) := by decide +kernel
theorem dX11_settled_38 : decode cX11_settled 38 = .ok (.iload 7, 2) := by decide +kernel
theorem dX11_settled_40 : decode cX11_settled 40 = .ok (.iload_n 3, 1) := by decide +kernel
theorem dX11_settled_41 : decode cX11_settled 41 = .ok (.if_icmp .gt 96, 3) := by decide +kernel
theorem dX11_settled_44 : decode cX11_settled 44 = .ok (.iload 7, 2) := by decide +kernel
theorem dX11_settled_46 : decode cX11_settled 46 = .ok (.iload_n 3, 1) := by decide +kernel
theorem dX11_settled_47 : decode cX11_settled 47 = .ok (.iconst (-1), 1) := by decide +kernel
theorem dX11_settled_48 : decode cX11_settled 48 = .ok (.ixor, 1) := by decide +kernel
theorem dX11_settled_49 : decode cX11_settled 49 = .ok (.iand, 1) := by decide +kernel
theorem dX11_settled_50 : decode cX11_settled 50 = .ok (.ifCond .ne 81, 3) := by decide +kernel
theorem dX11_settled_53 : decode cX11_settled 53 = .ok (.iload 7, 2) := by decide +kernel
theorem dX11_settled_55 : decode cX11_settled 55 = .ok (.invokestatic 332, 3) := by decide +kernel
theorem dX11_settled_58 : decode cX11_settled 58 = .ok (.iload 5, 2) := by decide +kernel
theorem dX11_settled_60 : decode cX11_settled 60 = .ok (.if_icmp .ge 71, 3) := by decide +kernel
theorem dX11_settled_63 : decode cX11_settled 63 = .ok (.aload_n 0, 1) := by decide +kernel
theorem dX11_settled_64 : decode cX11_settled 64 = .ok (.getfield 20, 3) := by decide +kernel
theorem dX11_settled_67 : decode cX11_settled 67 = .ok (.iload_n 3, 1) := by decide +kernel
theorem dX11_settled_68 : decode cX11_settled 68 = .ok (.iload 7, 2) := by decide +kernel
theorem dX11_settled_70 : decode cX11_settled 70 = .ok (.iconst (-1), 1) := by decide +kernel
theorem dX11_settled_71 : decode cX11_settled 71 = .ok (.ixor, 1) := by decide +kernel
theorem dX11_settled_72 : decode cX11_settled 72 = .ok (.iand, 1) := by decide +kernel
theorem dX11_settled_73 : decode cX11_settled 73 = .ok (.invokevirtual 267, 3) := by decide +kernel
theorem dX11_settled_76 : decode cX11_settled 76 = .ok (.istore 8, 2) := by decide +kernel
theorem dX11_settled_78 : decode cX11_settled 78 = .ok (.aload_n 0, 1) := by decide +kernel
theorem dX11_settled_79 : decode cX11_settled 79 = .ok (.getfield 59, 3) := by decide +kernel
theorem dX11_settled_82 : decode cX11_settled 82 = .ok (.iload_n 1, 1) := by decide +kernel
theorem dX11_settled_83 : decode cX11_settled 83 = .ok (.aload_n 0, 1) := by decide +kernel
theorem dX11_settled_84 : decode cX11_settled 84 = .ok (.getfield 59, 3) := by decide +kernel
theorem dX11_settled_87 : decode cX11_settled 87 = .ok (.iload 8, 2) := by decide +kernel
theorem dX11_settled_89 : decode cX11_settled 89 = .ok (.invokevirtual 292, 3) := by decide +kernel
theorem dX11_settled_92 : decode cX11_settled 92 = .ok (.iload 4, 2) := by decide +kernel
theorem dX11_settled_94 : decode cX11_settled 94 = .ok (.invokevirtual 298, 3) := by decide +kernel
theorem dX11_settled_97 : decode cX11_settled 97 = .ok (.istore 9, 2) := by decide +kernel
theorem dX11_settled_99 : decode cX11_settled 99 = .ok (.aload_n 0, 1) := by decide +kernel
theorem dX11_settled_100 : decode cX11_settled 100 = .ok (.getfield 59, 3) := by decide +kernel
theorem dX11_settled_103 : decode cX11_settled 103 = .ok (.iload_n 1, 1) := by decide +kernel
theorem dX11_settled_104 : decode cX11_settled 104 = .ok (.iload 9, 2) := by decide +kernel
theorem dX11_settled_106 : decode cX11_settled 106 = .ok (.aload_n 0, 1) := by decide +kernel
theorem dX11_settled_107 : decode cX11_settled 107 = .ok (.getfield 20, 3) := by decide +kernel
theorem dX11_settled_110 : decode cX11_settled 110 = .ok (.iload_n 2, 1) := by decide +kernel
theorem dX11_settled_111 : decode cX11_settled 111 = .ok (.invokevirtual 277, 3) := by decide +kernel
theorem dX11_settled_114 : decode cX11_settled 114 = .ok (.invokevirtual 281, 3) := by decide +kernel
theorem dX11_settled_117 : decode cX11_settled 117 = .ok (.ifCond .eq 14, 3) := by decide +kernel
theorem dX11_settled_120 : decode cX11_settled 120 = .ok (.iload 7, 2) := by decide +kernel
theorem dX11_settled_122 : decode cX11_settled 122 = .ok (.invokestatic 332, 3) := by decide +kernel
theorem dX11_settled_125 : decode cX11_settled 125 = .ok (.istore 5, 2) := by decide +kernel
theorem dX11_settled_127 : decode cX11_settled 127 = .ok (.iload 7, 2) := by decide +kernel
theorem dX11_settled_129 : decode cX11_settled 129 = .ok (.istore 6, 2) := by decide +kernel
theorem dX11_settled_131 : decode cX11_settled 131 = .ok (.iinc 7 1, 3) := by decide +kernel
theorem dX11_settled_134 : decode cX11_settled 134 = .ok (.goto (-96), 3) := by decide +kernel
theorem dX11_settled_137 : decode cX11_settled 137 = .ok (.iload 6, 2) := by decide +kernel
theorem dX11_settled_139 : decode cX11_settled 139 = .ok (.ireturn, 1) := by decide +kernel
theorem dX11_feud_0 : decode cX11_feud 0 = .ok (.aload_n 0, 1) := by decide +kernel
theorem dX11_feud_1 : decode cX11_feud 1 = .ok (.iload_n 1, 1) := by decide +kernel
theorem dX11_feud_2 : decode cX11_feud 2 = .ok (.invokevirtual 219, 3) := by decide +kernel
theorem dX11_feud_5 : decode cX11_feud 5 = .ok (.aload_n 0, 1) := by decide +kernel
theorem dX11_feud_6 : decode cX11_feud 6 = .ok (.iload_n 2, 1) := by decide +kernel
theorem dX11_feud_7 : decode cX11_feud 7 = .ok (.invokevirtual 219, 3) := by decide +kernel
theorem dX11_feud_10 : decode cX11_feud 10 = .ok (.iload_n 3, 1) := by decide +kernel
theorem dX11_feud_11 : decode cX11_feud 11 = .ok (.invokestatic 260, 3) := by decide +kernel
theorem dX11_feud_14 : decode cX11_feud 14 = .ok (.iload 4, 2) := by decide +kernel
theorem dX11_feud_16 : decode cX11_feud 16 = .ok (.ifCond .eq 19, 3) := by decide +kernel
theorem dX11_feud_19 : decode cX11_feud 19 = .ok (.iload 4, 2) := by decide +kernel
theorem dX11_feud_21 : decode cX11_feud 21 = .ok (.iconst 1, 1) := by decide +kernel
theorem dX11_feud_22 : decode cX11_feud 22 = .ok (.if_icmp .eq 13, 3) := by decide +kernel
theorem dX11_feud_25 : decode cX11_feud 25 = .ok (.new 188, 3) := by decide +kernel
theorem dX11_feud_28 : decode cX11_feud 28 = .ok (.dup, 1) := by decide +kernel
theorem dX11_feud_29 : decode cX11_feud 29 = .ok (.ldc 190, 2) := by decide +kernel
theorem dX11_feud_31 : decode cX11_feud 31 = .ok (.invokespecial 192, 3) := by decide +kernel
theorem dX11_feud_34 : decode cX11_feud 34 = .ok (.athrow, 1) := by decide +kernel
theorem dX11_feud_35 : decode cX11_feud 35 = .ok (.iload_n 1, 1) := by decide +kernel
theorem dX11_feud_36 : decode cX11_feud 36 = .ok (.iload_n 2, 1) := by decide +kernel
theorem dX11_feud_37 : decode cX11_feud 37 = .ok (.if_icmp .ne 14, 3) := by decide +kernel
theorem dX11_feud_40 : decode cX11_feud 40 = .ok (.new 120, 3) := by decide +kernel
theorem dX11_feud_43 : decode cX11_feud 43 = .ok (.dup, 1) := by decide +kernel
theorem dX11_feud_44 : decode cX11_feud 44 = .ok (.ldc_w 336, 3) := by decide +kernel
theorem dX11_feud_47 : decode cX11_feud 47 = .ok (.invokespecial 124, 3) := by decide +kernel
theorem dX11_feud_50 : decode cX11_feud 50 = .ok (.athrow, 1) := by decide +kernel
theorem dX11_feud_51 : decode cX11_feud 51 = .ok (.aload_n 0, 1) := by decide +kernel
theorem dX11_feud_52 : decode cX11_feud 52 = .ok (.getfield 82, 3) := by decide +kernel
theorem dX11_feud_55 : decode cX11_feud 55 = .ok (.aload_n 0, 1) := by decide +kernel
theorem dX11_feud_56 : decode cX11_feud 56 = .ok (.getfield 20, 3) := by decide +kernel
theorem dX11_feud_59 : decode cX11_feud 59 = .ok (.aload_n 0, 1) := by decide +kernel
theorem dX11_feud_60 : decode cX11_feud 60 = .ok (.getfield 49, 3) := by decide +kernel
theorem dX11_feud_63 : decode cX11_feud 63 = .ok (.iload_n 3, 1) := by decide +kernel
theorem dX11_feud_64 : decode cX11_feud 64 = .ok (.invokevirtual 338, 3) := by decide +kernel
theorem dX11_feud_67 : decode cX11_feud 67 = .ok (.aload_n 0, 1) := by decide +kernel
theorem dX11_feud_68 : decode cX11_feud 68 = .ok (.getfield 82, 3) := by decide +kernel
theorem dX11_feud_71 : decode cX11_feud 71 = .ok (.iload_n 1, 1) := by decide +kernel
theorem dX11_feud_72 : decode cX11_feud 72 = .ok (.iload_n 2, 1) := by decide +kernel
theorem dX11_feud_73 : decode cX11_feud 73 = .ok (.invokevirtual 342, 3) := by decide +kernel
theorem dX11_feud_76 : decode cX11_feud 76 = .ok (.aload_n 0, 1) := by decide +kernel
theorem dX11_feud_77 : decode cX11_feud 77 = .ok (.getfield 82, 3) := by decide +kernel
theorem dX11_feud_80 : decode cX11_feud 80 = .ok (.invokevirtual 346, 3) := by decide +kernel
theorem dX11_feud_83 : decode cX11_feud 83 = .ok (.iload 4, 2) := by decide +kernel
theorem dX11_feud_85 : decode cX11_feud 85 = .ok (.ifCond .ne 13, 3) := by decide +kernel
theorem dX11_feud_88 : decode cX11_feud 88 = .ok (.aload_n 0, 1) := by decide +kernel
theorem dX11_feud_89 : decode cX11_feud 89 = .ok (.getfield 82, 3) := by decide +kernel
theorem dX11_feud_92 : decode cX11_feud 92 = .ok (.getfield 349, 3) := by decide +kernel
theorem dX11_feud_95 : decode cX11_feud 95 = .ok (.goto 10, 3) := by decide +kernel
theorem dX11_feud_98 : decode cX11_feud 98 = .ok (.aload_n 0, 1) := by decide +kernel
theorem dX11_feud_99 : decode cX11_feud 99 = .ok (.getfield 82, 3) := by decide +kernel
theorem dX11_feud_102 : decode cX11_feud 102 = .ok (.getfield 352, 3) := by decide +kernel
theorem dX11_feud_105 : decode cX11_feud 105 = .ok (.ireturn, 1) := by decide +kernel
theorem dX11_see_0 : decode cX11_see 0 = .ok (.aload_n 0, 1) := by decide +kernel
theorem dX11_see_1 : decode cX11_see 1 = .ok (.iload_n 1, 1) := by decide +kernel
theorem dX11_see_2 : decode cX11_see 2 = .ok (.invokevirtual 219, 3) := by decide +kernel
theorem dX11_see_5 : decode cX11_see 5 = .ok (.iload_n 2, 1) := by decide +kernel
theorem dX11_see_6 : decode cX11_see 6 = .ok (.invokestatic 260, 3) := by decide +kernel
theorem dX11_see_9 : decode cX11_see 9 = .ok (.iload_n 2, 1) := by decide +kernel
theorem dX11_see_10 : decode cX11_see 10 = .ok (.bipush 63, 2) := by decide +kernel
theorem dX11_see_12 : decode cX11_see 12 = .ok (.if_icmp .gt 15, 3) := by decide +kernel
theorem dX11_see_15 : decode cX11_see 15 = .ok (.aload_n 0, 1) := by decide +kernel
theorem dX11_see_16 : decode cX11_see 16 = .ok (.getfield 39, 3) := by decide +kernel
theorem dX11_see_19 : decode cX11_see 19 = .ok (.getfield 182, 3) := by decide +kernel
theorem dX11_see_22 : decode cX11_see 22 = .ok (.bipush 10, 2) := by decide +kernel
theorem dX11_see_24 : decode cX11_see 24 = .ok (.if_icmp .lt 13, 3) := by decide +kernel
theorem dX11_see_27 : decode cX11_see 27 = .ok (.aload_n 0, 1) := by decide +kernel
theorem dX11_see_28 : decode cX11_see 28 = .ok (.getfield 39, 3) := by decide +kernel
theorem dX11_see_31 : decode cX11_see 31 = .ok (.iconst 2, 1) := by decide +kernel
theorem dX11_see_32 : decode cX11_see 32 = .ok (.invokevirtual 135, 3) := by decide +kernel
theorem dX11_see_35 : decode cX11_see 35 = .ok (.iconst (-1), 1) := by decide +kernel
theorem dX11_see_36 : decode cX11_see 36 = .ok (.ireturn, 1) := by decide +kernel
theorem dX11_see_37 : decode cX11_see 37 = .ok (.aload_n 0, 1) := by decide +kernel
theorem dX11_see_38 : decode cX11_see 38 = .ok (.getfield 39, 3) := by decide +kernel
theorem dX11_see_41 : decode cX11_see 41 = .ok (.iload_n 1, 1) := by decide +kernel
theorem dX11_see_42 : decode cX11_see 42 = .ok (.iload_n 2, 1) := by decide +kernel
theorem dX11_see_43 : decode cX11_see 43 = .ok (.iload_n 3, 1) := by decide +kernel
theorem dX11_see_44 : decode cX11_see 44 = .ok (.invokevirtual 355, 3) := by decide +kernel
theorem dX11_see_47 : decode cX11_see 47 = .ok (.ireturn, 1) := by decide +kernel
theorem dX11_forget_0 : decode cX11_forget 0 = .ok (.aload_n 0, 1) := by decide +kernel
theorem dX11_forget_1 : decode cX11_forget 1 = .ok (.getfield 39, 3) := by decide +kernel
theorem dX11_forget_4 : decode cX11_forget 4 = .ok (.getfield 182, 3) := by decide +kernel
theorem dX11_forget_7 : decode cX11_forget 7 = .ok (.ifCond .ne 5, 3) := by decide +kernel
theorem dX11_forget_10 : decode cX11_forget 10 = .ok (.iconst (-1), 1) := by decide +kernel
theorem dX11_forget_11 : decode cX11_forget 11 = .ok (.ireturn, 1) := by decide +kernel
theorem dX11_forget_12 : decode cX11_forget 12 = .ok (.aload_n 0, 1) := by decide +kernel
theorem dX11_forget_13 : decode cX11_forget 13 = .ok (.getfield 39, 3) := by decide +kernel
theorem dX11_forget_16 : decode cX11_forget 16 = .ok (.dup, 1) := by decide +kernel
theorem dX11_forget_17 : decode cX11_forget 17 = .ok (.getfield 182, 3) := by decide +kernel
theorem dX11_forget_20 : decode cX11_forget 20 = .ok (.iconst 1, 1) := by decide +kernel
theorem dX11_forget_21 : decode cX11_forget 21 = .ok (.isub, 1) := by decide +kernel
theorem dX11_forget_22 : decode cX11_forget 22 = .ok (.putfield 182, 3) := by decide +kernel
theorem dX11_forget_25 : decode cX11_forget 25 = .ok (.aload_n 0, 1) := by decide +kernel
theorem dX11_forget_26 : decode cX11_forget 26 = .ok (.getfield 39, 3) := by decide +kernel
theorem dX11_forget_29 : decode cX11_forget 29 = .ok (.getfield 182, 3) := by decide +kernel
theorem dX11_forget_32 : decode cX11_forget 32 = .ok (.ireturn, 1) := by decide +kernel
theorem dX11_explains_0 : decode cX11_explains 0 = .ok (.aload_n 0, 1) := by decide +kernel
theorem dX11_explains_1 : decode cX11_explains 1 = .ok (.getfield 66, 3) := by decide +kernel
theorem dX11_explains_4 : decode cX11_explains 4 = .ok (.aload_n 0, 1) := by decide +kernel
theorem dX11_explains_5 : decode cX11_explains 5 = .ok (.getfield 20, 3) := by decide +kernel
theorem dX11_explains_8 : decode cX11_explains 8 = .ok (.aload_n 0, 1) := by decide +kernel
theorem dX11_explains_9 : decode cX11_explains 9 = .ok (.getfield 53, 3) := by decide +kernel
theorem dX11_explains_12 : decode cX11_explains 12 = .ok (.invokevirtual 302, 3) := by decide +kernel
theorem dX11_explains_15 : decode cX11_explains 15 = .ok (.iconst 0, 1) := by decide +kernel
theorem dX11_explains_16 : decode cX11_explains 16 = .ok (.istore_n 1, 1) := by decide +kernel
theorem dX11_explains_17 : decode cX11_explains 17 = .ok (.iconst 0, 1) := by decide +kernel
theorem dX11_explains_18 : decode cX11_explains 18 = .ok (.istore_n 2, 1) := by decide +kernel
theorem dX11_explains_19 : decode cX11_explains 19 = .ok (.iload_n 2, 1) := by decide +kernel
theorem dX11_explains_20 : decode cX11_explains 20 = .ok (.aload_n 0, 1) := by decide +kernel
theorem dX11_explains_21 : decode cX11_explains 21 = .ok (.getfield 66, 3) := by decide +kernel
theorem dX11_explains_24 : decode cX11_explains 24 = .ok (.getfield 358, 3) := by decide +kernel
theorem dX11_explains_27 : decode cX11_explains 27 = .ok (.if_icmp .ge 54, 3) := by decide +kernel
theorem dX11_explains_30 : decode cX11_explains 30 = .ok (.aload_n 0, 1) := by decide +kernel
theorem dX11_explains_31 : decode cX11_explains 31 = .ok (.aload_n 0, 1) := by decide +kernel
theorem dX11_explains_32 : decode cX11_explains 32 = .ok (.getfield 66, 3) := by decide +kernel
theorem dX11_explains_35 : decode cX11_explains 35 = .ok (.getfield 361, 3) := by decide +kernel
theorem dX11_explains_38 : decode cX11_explains 38 = .ok (.iload_n 2, 1) := by decide +kernel
theorem dX11_explains_39 : decode cX11_explains 39 = .ok (.laload, 1) := by decide +kernel
theorem dX11_explains_40 : decode cX11_explains 40 = .ok (.invokevirtual 365, 3) := by decide +kernel
theorem dX11_explains_43 : decode cX11_explains 43 = .ok (.ifCond .eq 32, 3) := by decide +kernel
theorem dX11_explains_46 : decode cX11_explains 46 = .ok (.iload_n 1, 1) := by decide +kernel
theorem dX11_explains_47 : decode cX11_explains 47 = .ok (.ifCond .ne 16, 3) := by decide +kernel
theorem dX11_explains_50 : decode cX11_explains 50 = .ok (.aload_n 0, 1) := by decide +kernel
theorem dX11_explains_51 : decode cX11_explains 51 = .ok (.aload_n 0, 1) := by decide +kernel
theorem dX11_explains_52 : decode cX11_explains 52 = .ok (.getfield 66, 3) := by decide +kernel
theorem dX11_explains_55 : decode cX11_explains 55 = .ok (.getfield 369, 3) := by decide +kernel
theorem dX11_explains_58 : decode cX11_explains 58 = .ok (.iload_n 2, 1) := by decide +kernel
theorem dX11_explains_59 : decode cX11_explains 59 = .ok (.iaload, 1) := by decide +kernel
theorem dX11_explains_60 : decode cX11_explains 60 = .ok (.putfield 372, 3) := by decide +kernel
theorem dX11_explains_63 : decode cX11_explains 63 = .ok (.iload_n 1, 1) := by decide +kernel
theorem dX11_explains_64 : decode cX11_explains 64 = .ok (.aload_n 0, 1) := by decide +kernel
theorem dX11_explains_65 : decode cX11_explains 65 = .ok (.getfield 66, 3) := by decide +kernel
theorem dX11_explains_68 : decode cX11_explains 68 = .ok (.getfield 375, 3) := by decide +kernel
theorem dX11_explains_71 : decode cX11_explains 71 = .ok (.iload_n 2, 1) := by decide +kernel
theorem dX11_explains_72 : decode cX11_explains 72 = .ok (.iaload, 1) := by decide +kernel
theorem dX11_explains_73 : decode cX11_explains 73 = .ok (.iadd, 1) := by decide +kernel
theorem dX11_explains_74 : decode cX11_explains 74 = .ok (.istore_n 1, 1) := by decide +kernel
theorem dX11_explains_75 : decode cX11_explains 75 = .ok (.iinc 2 1, 3) := by decide +kernel
theorem dX11_explains_78 : decode cX11_explains 78 = .ok (.goto (-59), 3) := by decide +kernel
theorem dX11_explains_81 : decode cX11_explains 81 = .ok (.aload_n 0, 1) := by decide +kernel
theorem dX11_explains_82 : decode cX11_explains 82 = .ok (.iload_n 1, 1) := by decide +kernel
theorem dX11_explains_83 : decode cX11_explains 83 = .ok (.ifCond .le 7, 3) := by decide +kernel
theorem dX11_explains_86 : decode cX11_explains 86 = .ok (.iconst 1, 1) := by decide +kernel
theorem dX11_explains_87 : decode cX11_explains 87 = .ok (.goto 4, 3) := by decide +kernel
theorem dX11_explains_90 : decode cX11_explains 90 = .ok (.iconst 0, 1) := by decide +kernel
theorem dX11_explains_91 : decode cX11_explains 91 = .ok (.putfield 142, 3) := by decide +kernel
theorem dX11_explains_94 : decode cX11_explains 94 = .ok (.iload_n 1, 1) := by decide +kernel
theorem dX11_explains_95 : decode cX11_explains 95 = .ok (.ireturn, 1) := by decide +kernel
theorem dX11_explainsAll_0 : decode cX11_explainsAll 0 = .ok (.aload_n 0, 1) := by decide +kernel
theorem dX11_explainsAll_1 : decode cX11_explainsAll 1 = .ok (.getfield 53, 3) := by decide +kernel
theorem dX11_explainsAll_4 : decode cX11_explainsAll 4 = .ok (.aload_n 0, 1) := by decide +kernel
theorem dX11_explainsAll_5 : decode cX11_explainsAll 5 = .ok (.getfield 20, 3) := by decide +kernel
theorem dX11_explainsAll_8 : decode cX11_explainsAll 8 = .ok (.lload_n 1, 1) := by decide +kernel
theorem dX11_explainsAll_9 : decode cX11_explainsAll 9 = .ok (.invokevirtual 378, 3) := by decide +kernel
theorem dX11_explainsAll_12 : decode cX11_explainsAll 12 = .ok (.iconst 0, 1) := by decide +kernel
theorem dX11_explainsAll_13 : decode cX11_explainsAll 13 = .ok (.istore_n 3, 1) := by decide +kernel
theorem dX11_explainsAll_14 : decode cX11_explainsAll 14 = .ok (.iload_n 3, 1) := by decide +kernel
theorem dX11_explainsAll_15 : decode cX11_explainsAll 15 = .ok (.aload_n 0, 1) := by decide +kernel
theorem dX11_explainsAll_16 : decode cX11_explainsAll 16 = .ok (.getfield 39, 3) := by decide +kernel
theorem dX11_explainsAll_19 : decode cX11_explainsAll 19 = .ok (.getfield 182, 3) := by decide +kernel
theorem dX11_explainsAll_22 : decode cX11_explainsAll 22 = .ok (.if_icmp .ge 115, 3) := by decide +kernel
theorem dX11_explainsAll_25 : decode cX11_explainsAll 25 = .ok (.aload_n 0, 1) := by decide +kernel
theorem dX11_explainsAll_26 : decode cX11_explainsAll 26 = .ok (.getfield 39, 3) := by decide +kernel
theorem dX11_explainsAll_29 : decode cX11_explainsAll 29 = .ok (.getfield 382, 3) := by decide +kernel
theorem dX11_explainsAll_32 : decode cX11_explainsAll 32 = .ok (.iload_n 3, 1) := by decide +kernel
theorem dX11_explainsAll_33 : decode cX11_explainsAll 33 = .ok (.iaload, 1) := by decide +kernel
theorem dX11_explainsAll_34 : decode cX11_explainsAll 34 = .ok (.istore 4, 2) := by decide +kernel
theorem dX11_explainsAll_36 : decode cX11_explainsAll 36 = .ok (.aload_n 0, 1) := by decide +kernel
theorem dX11_explainsAll_37 : decode cX11_explainsAll 37 = .ok (.getfield 59, 3) := by decide +kernel
theorem dX11_explainsAll_40 : decode cX11_explainsAll 40 = .ok (.aload_n 0, 1) := by decide +kernel
theorem dX11_explainsAll_41 : decode cX11_explainsAll 41 = .ok (.getfield 20, 3) := by decide +kernel
theorem dX11_explainsAll_44 : decode cX11_explainsAll 44 = .ok (.aload_n 0, 1) := by decide +kernel
theorem dX11_explainsAll_45 : decode cX11_explainsAll 45 = .ok (.getfield 53, 3) := by decide +kernel
theorem dX11_explainsAll_48 : decode cX11_explainsAll 48 = .ok (.iload 4, 2) := by decide +kernel
theorem dX11_explainsAll_50 : decode cX11_explainsAll 50 = .ok (.invokevirtual 263, 3) := by decide +kernel
theorem dX11_explainsAll_53 : decode cX11_explainsAll 53 = .ok (.invokevirtual 267, 3) := by decide +kernel
theorem dX11_explainsAll_56 : decode cX11_explainsAll 56 = .ok (.invokevirtual 292, 3) := by decide +kernel
theorem dX11_explainsAll_59 : decode cX11_explainsAll 59 = .ok (.istore 5, 2) := by decide +kernel
theorem dX11_explainsAll_61 : decode cX11_explainsAll 61 = .ok (.aload_n 0, 1) := by decide +kernel
theorem dX11_explainsAll_62 : decode cX11_explainsAll 62 = .ok (.getfield 59, 3) := by decide +kernel
theorem dX11_explainsAll_65 : decode cX11_explainsAll 65 = .ok (.aload_n 0, 1) := by decide +kernel
theorem dX11_explainsAll_66 : decode cX11_explainsAll 66 = .ok (.getfield 39, 3) := by decide +kernel
theorem dX11_explainsAll_69 : decode cX11_explainsAll 69 = .ok (.getfield 385, 3) := by decide +kernel
theorem dX11_explainsAll_72 : decode cX11_explainsAll 72 = .ok (.iload_n 3, 1) := by decide +kernel
theorem dX11_explainsAll_73 : decode cX11_explainsAll 73 = .ok (.iaload, 1) := by decide +kernel
theorem dX11_explainsAll_74 : decode cX11_explainsAll 74 = .ok (.iload 5, 2) := by decide +kernel
theorem dX11_explainsAll_76 : decode cX11_explainsAll 76 = .ok (.aload_n 0, 1) := by decide +kernel
theorem dX11_explainsAll_77 : decode cX11_explainsAll 77 = .ok (.getfield 53, 3) := by decide +kernel
theorem dX11_explainsAll_80 : decode cX11_explainsAll 80 = .ok (.iload 4, 2) := by decide +kernel
theorem dX11_explainsAll_82 : decode cX11_explainsAll 82 = .ok (.invokevirtual 295, 3) := by decide +kernel
theorem dX11_explainsAll_85 : decode cX11_explainsAll 85 = .ok (.invokevirtual 298, 3) := by decide +kernel
theorem dX11_explainsAll_88 : decode cX11_explainsAll 88 = .ok (.istore 6, 2) := by decide +kernel
theorem dX11_explainsAll_90 : decode cX11_explainsAll 90 = .ok (.aload_n 0, 1) := by decide +kernel
theorem dX11_explainsAll_91 : decode cX11_explainsAll 91 = .ok (.getfield 59, 3) := by decide +kernel
theorem dX11_explainsAll_94 : decode cX11_explainsAll 94 = .ok (.aload_n 0, 1) := by decide +kernel
theorem dX11_explainsAll_95 : decode cX11_explainsAll 95 = .ok (.getfield 39, 3) := by decide +kernel
theorem dX11_explainsAll_98 : decode cX11_explainsAll 98 = .ok (.getfield 385, 3) := by decide +kernel
theorem dX11_explainsAll_101 : decode cX11_explainsAll 101 = .ok (.iload_n 3, 1) := by decide +kernel
theorem dX11_explainsAll_102 : decode cX11_explainsAll 102 = .ok (.iaload, 1) := by decide +kernel
theorem dX11_explainsAll_103 : decode cX11_explainsAll 103 = .ok (.iload 6, 2) := by decide +kernel
theorem dX11_explainsAll_105 : decode cX11_explainsAll 105 = .ok (.aload_n 0, 1) := by decide +kernel
theorem dX11_explainsAll_106 : decode cX11_explainsAll 106 = .ok (.getfield 20, 3) := by decide +kernel
theorem dX11_explainsAll_109 : decode cX11_explainsAll 109 = .ok (.iload 4, 2) := by decide +kernel
theorem dX11_explainsAll_111 : decode cX11_explainsAll 111 = .ok (.invokevirtual 277, 3) := by decide +kernel
theorem dX11_explainsAll_114 : decode cX11_explainsAll 114 = .ok (.invokevirtual 281, 3) := by decide +kernel
theorem dX11_explainsAll_117 : decode cX11_explainsAll 117 = .ok (.aload_n 0, 1) := by decide +kernel
theorem dX11_explainsAll_118 : decode cX11_explainsAll 118 = .ok (.getfield 39, 3) := by decide +kernel
theorem dX11_explainsAll_121 : decode cX11_explainsAll 121 = .ok (.getfield 388, 3) := by decide +kernel
theorem dX11_explainsAll_124 : decode cX11_explainsAll 124 = .ok (.iload_n 3, 1) := by decide +kernel
theorem dX11_explainsAll_125 : decode cX11_explainsAll 125 = .ok (.baload, 1) := by decide +kernel
theorem dX11_explainsAll_126 : decode cX11_explainsAll 126 = .ok (.if_icmp .eq 5, 3) := by decide +kernel
theorem dX11_explainsAll_129 : decode cX11_explainsAll 129 = .ok (.iconst 0, 1) := by decide +kernel
theorem dX11_explainsAll_130 : decode cX11_explainsAll 130 = .ok (.ireturn, 1) := by decide +kernel
theorem dX11_explainsAll_131 : decode cX11_explainsAll 131 = .ok (.iinc 3 1, 3) := by decide +kernel
theorem dX11_explainsAll_134 : decode cX11_explainsAll 134 = .ok (.goto (-120), 3) := by decide +kernel
theorem dX11_explainsAll_137 : decode cX11_explainsAll 137 = .ok (.iconst 1, 1) := by decide +kernel
theorem dX11_explainsAll_138 : decode cX11_explainsAll 138 = .ok (.ireturn, 1) := by decide +kernel
theorem dX11_heard_0 : decode cX11_heard 0 = .ok (.iload_n 1, 1) := by decide +kernel
theorem dX11_heard_1 : decode cX11_heard 1 = .ok (.invokestatic 260, 3) := by decide +kernel
theorem dX11_heard_4 : decode cX11_heard 4 = .ok (.aload_n 0, 1) := by decide +kernel
theorem dX11_heard_5 : decode cX11_heard 5 = .ok (.getfield 66, 3) := by decide +kernel
theorem dX11_heard_8 : decode cX11_heard 8 = .ok (.aload_n 0, 1) := by decide +kernel
theorem dX11_heard_9 : decode cX11_heard 9 = .ok (.getfield 20, 3) := by decide +kernel
theorem dX11_heard_12 : decode cX11_heard 12 = .ok (.aload_n 0, 1) := by decide +kernel
theorem dX11_heard_13 : decode cX11_heard 13 = .ok (.getfield 53, 3) := by decide +kernel
theorem dX11_heard_16 : decode cX11_heard 16 = .ok (.invokevirtual 302, 3) := by decide +kernel
theorem dX11_heard_19 : decode cX11_heard 19 = .ok (.iconst 1, 1) := by decide +kernel
theorem dX11_heard_20 : decode cX11_heard 20 = .ok (.aload_n 0, 1) := by decide +kernel
theorem dX11_heard_21 : decode cX11_heard 21 = .ok (.getfield 20, 3) := by decide +kernel
theorem dX11_heard_24 : decode cX11_heard 24 = .ok (.getfield 157, 3) := by decide +kernel
theorem dX11_heard_27 : decode cX11_heard 27 = .ok (.ishl, 1) := by decide +kernel
theorem dX11_heard_28 : decode cX11_heard 28 = .ok (.iconst 1, 1) := by decide +kernel
theorem dX11_heard_29 : decode cX11_heard 29 = .ok (.isub, 1) := by decide +kernel
theorem dX11_heard_30 : decode cX11_heard 30 = .ok (.istore_n 3, 1) := by decide +kernel
theorem dX11_heard_31 : decode cX11_heard 31 = .ok (.iconst 0, 1) := by decide +kernel
theorem dX11_heard_32 : decode cX11_heard 32 = .ok (.istore 4, 2) := by decide +kernel
theorem dX11_heard_34 : decode cX11_heard 34 = .ok (.iconst 0, 1) := by decide +kernel
theorem dX11_heard_35 : decode cX11_heard 35 = .ok (.istore 5, 2) := by decide +kernel
theorem dX11_heard_37 : decode cX11_heard 37 = .ok (.iconst 0, 1) := by decide +kernel
theorem dX11_heard_38 : decode cX11_heard 38 = .ok (.istore 6, 2) := by decide +kernel
theorem dX11_heard_40 : decode cX11_heard 40 = .ok (.iload 6, 2) := by decide +kernel
theorem dX11_heard_42 : decode cX11_heard 42 = .ok (.aload_n 0, 1) := by decide +kernel
theorem dX11_heard_43 : decode cX11_heard 43 = .ok (.getfield 66, 3) := by decide +kernel
theorem dX11_heard_46 : decode cX11_heard 46 = .ok (.getfield 358, 3) := by decide +kernel
theorem dX11_heard_49 : decode cX11_heard 49 = .ok (.if_icmp .ge 51, 3) := by decide +kernel
theorem dX11_heard_52 : decode cX11_heard 52 = .ok (.aload_n 0, 1) := by decide +kernel
theorem dX11_heard_53 : decode cX11_heard 53 = .ok (.aload_n 0, 1) := by decide +kernel
theorem dX11_heard_54 : decode cX11_heard 54 = .ok (.getfield 66, 3) := by decide +kernel
theorem dX11_heard_57 : decode cX11_heard 57 = .ok (.getfield 361, 3) := by decide +kernel
theorem dX11_heard_60 : decode cX11_heard 60 = .ok (.iload 6, 2) := by decide +kernel
theorem dX11_heard_62 : decode cX11_heard 62 = .ok (.laload, 1) := by decide +kernel
theorem dX11_heard_63 : decode cX11_heard 63 = .ok (.invokevirtual 365, 3) := by decide +kernel
theorem dX11_heard_66 : decode cX11_heard 66 = .ok (.ifCond .eq 28, 3) := by decide +kernel
theorem dX11_heard_69 : decode cX11_heard 69 = .ok (.aload_n 0, 1) := by decide +kernel
theorem dX11_heard_70 : decode cX11_heard 70 = .ok (.getfield 53, 3) := by decide +kernel
theorem dX11_heard_73 : decode cX11_heard 73 = .ok (.iload_n 1, 1) := by decide +kernel
theorem dX11_heard_74 : decode cX11_heard 74 = .ok (.invokevirtual 263, 3) := by decide +kernel
theorem dX11_heard_77 : decode cX11_heard 77 = .ok (.istore 7, 2) := by decide +kernel
theorem dX11_heard_79 : decode cX11_heard 79 = .ok (.iload_n 3, 1) := by decide +kernel
theorem dX11_heard_80 : decode cX11_heard 80 = .ok (.iload 7, 2) := by decide +kernel
theorem dX11_heard_82 : decode cX11_heard 82 = .ok (.iand, 1) := by decide +kernel
theorem dX11_heard_83 : decode cX11_heard 83 = .ok (.istore_n 3, 1) := by decide +kernel
theorem dX11_heard_84 : decode cX11_heard 84 = .ok (.iload 4, 2) := by decide +kernel
theorem dX11_heard_86 : decode cX11_heard 86 = .ok (.iload 7, 2) := by decide +kernel
theorem dX11_heard_88 : decode cX11_heard 88 = .ok (.ior, 1) := by decide +kernel
theorem dX11_heard_89 : decode cX11_heard 89 = .ok (.istore 4, 2) := by decide +kernel
theorem dX11_heard_91 : decode cX11_heard 91 = .ok (.iconst 1, 1) := by decide +kernel
theorem dX11_heard_92 : decode cX11_heard 92 = .ok (.istore 5, 2) := by decide +kernel
theorem dX11_heard_94 : decode cX11_heard 94 = .ok (.iinc 6 1, 3) := by decide +kernel
theorem dX11_heard_97 : decode cX11_heard 97 = .ok (.goto (-57), 3) := by decide +kernel
theorem dX11_heard_100 : decode cX11_heard 100 = .ok (.iload 5, 2) := by decide +kernel
theorem dX11_heard_102 : decode cX11_heard 102 = .ok (.ifCond .ne 5, 3) := by decide +kernel
theorem dX11_heard_105 : decode cX11_heard 105 = .ok (.iconst 0, 1) := by decide +kernel
theorem dX11_heard_106 : decode cX11_heard 106 = .ok (.ireturn, 1) := by decide +kernel
theorem dX11_heard_107 : decode cX11_heard 107 = .ok (.iload_n 2, 1) := by decide +kernel
theorem dX11_heard_108 : decode cX11_heard 108 = .ok (.ifCond .eq 7, 3) := by decide +kernel
theorem dX11_heard_111 : decode cX11_heard 111 = .ok (.iload_n 3, 1) := by decide +kernel
theorem dX11_heard_112 : decode cX11_heard 112 = .ok (.goto 5, 3) := by decide +kernel
theorem dX11_heard_115 : decode cX11_heard 115 = .ok (.iload 4, 2) := by decide +kernel
theorem dX11_heard_117 : decode cX11_heard 117 = .ok (.ireturn, 1) := by decide +kernel
theorem dX11_first_0 : decode cX11_first 0 = .ok (.aload_n 0, 1) := by decide +kernel
theorem dX11_first_1 : decode cX11_first 1 = .ok (.getfield 142, 3) := by decide +kernel
theorem dX11_first_4 : decode cX11_first 4 = .ok (.ifCond .ne 14, 3) := by decide +kernel
theorem dX11_first_7 : decode cX11_first 7 = .ok (.new 188, 3) := by decide +kernel
theorem dX11_first_10 : decode cX11_first 10 = .ok (.dup, 1) := by decide +kernel
theorem dX11_first_11 : decode cX11_first 11 = .ok (.ldc_w 392, 3) := by decide +kernel
theorem dX11_first_14 : decode cX11_first 14 = .ok (.invokespecial 192, 3) := by decide +kernel
theorem dX11_first_17 : decode cX11_first 17 = .ok (.athrow, 1) := by decide +kernel
theorem dX11_first_18 : decode cX11_first 18 = .ok (.aload_n 0, 1) := by decide +kernel
theorem dX11_first_19 : decode cX11_first 19 = .ok (.getfield 372, 3) := by decide +kernel
theorem dX11_first_22 : decode cX11_first 22 = .ok (.ireturn, 1) := by decide +kernel
theorem dX11_terms_0 : decode cX11_terms 0 = .ok (.aload_n 0, 1) := by decide +kernel
theorem dX11_terms_1 : decode cX11_terms 1 = .ok (.iload_n 1, 1) := by decide +kernel
theorem dX11_terms_2 : decode cX11_terms 2 = .ok (.invokevirtual 219, 3) := by decide +kernel
theorem dX11_terms_5 : decode cX11_terms 5 = .ok (.iload_n 3, 1) := by decide +kernel
theorem dX11_terms_6 : decode cX11_terms 6 = .ok (.ifCond .lt 9, 3) := by decide +kernel
theorem dX11_terms_9 : decode cX11_terms 9 = .ok (.iload_n 3, 1) := by decide +kernel
theorem dX11_terms_10 : decode cX11_terms 10 = .ok (.bipush 40, 2) := by decide +kernel
theorem dX11_terms_12 : decode cX11_terms 12 = .ok (.if_icmp .le 14, 3) := by decide +kernel
theorem dX11_terms_15 : decode cX11_terms 15 = .ok (.new 120, 3) := by decide +kernel
theorem dX11_terms_18 : decode cX11_terms 18 = .ok (.dup, 1) := by decide +kernel
theorem dX11_terms_19 : decode cX11_terms 19 = .ok (.ldc_w 394, 3) := by decide +kernel
theorem dX11_terms_22 : decode cX11_terms 22 = .ok (.invokespecial 124, 3) := by decide +kernel
theorem dX11_terms_25 : decode cX11_terms 25 = .ok (.athrow, 1) := by decide +kernel
theorem dX11_terms_26 : decode cX11_terms 26 = .ok (.aload_n 0, 1) := by decide +kernel
theorem dX11_terms_27 : decode cX11_terms 27 = .ok (.getfield 89, 3) := by decide +kernel
theorem dX11_terms_30 : decode cX11_terms 30 = .ok (.iload_n 2, 1) := by decide +kernel
theorem dX11_terms_31 : decode cX11_terms 31 = .ok (.putfield 396, 3) := by decide +kernel
theorem dX11_terms_34 : decode cX11_terms 34 = .ok (.iconst 0, 1) := by decide +kernel
theorem dX11_terms_35 : decode cX11_terms 35 = .ok (.istore 4, 2) := by decide +kernel
theorem dX11_terms_37 : decode cX11_terms 37 = .ok (.iconst 0, 1) := by decide +kernel
theorem dX11_terms_38 : decode cX11_terms 38 = .ok (.istore 5, 2) := by decide +kernel
theorem dX11_terms_40 : decode cX11_terms 40 = .ok (.iload 5, 2) := by decide +kernel
theorem dX11_terms_42 : decode cX11_terms 42 = .ok (.iload_n 3, 1) := by decide +kernel
theorem dX11_terms_43 : decode cX11_terms 43 = .ok (.if_icmp .ge 62, 3) := by decide +kernel
theorem dX11_terms_46 : decode cX11_terms 46 = .ok (.aload_n 0, 1) := by decide +kernel
theorem dX11_terms_47 : decode cX11_terms 47 = .ok (.getfield 89, 3) := by decide +kernel
theorem dX11_terms_50 : decode cX11_terms 50 = .ok (.aload_n 0, 1) := by decide +kernel
theorem dX11_terms_51 : decode cX11_terms 51 = .ok (.getfield 93, 3) := by decide +kernel
theorem dX11_terms_54 : decode cX11_terms 54 = .ok (.aload_n 0, 1) := by decide +kernel
theorem dX11_terms_55 : decode cX11_terms 55 = .ok (.getfield 20, 3) := by decide +kernel
theorem dX11_terms_58 : decode cX11_terms 58 = .ok (.getfield 157, 3) := by decide +kernel
theorem dX11_terms_61 : decode cX11_terms 61 = .ok (.invokevirtual 399, 3) := by decide +kernel
theorem dX11_terms_64 : decode cX11_terms 64 = .ok (.aload_n 0, 1) := by decide +kernel
theorem dX11_terms_65 : decode cX11_terms 65 = .ok (.getfield 53, 3) := by decide +kernel
theorem dX11_terms_68 : decode cX11_terms 68 = .ok (.aload_n 0, 1) := by decide +kernel
theorem dX11_terms_69 : decode cX11_terms 69 = .ok (.getfield 20, 3) := by decide +kernel
theorem dX11_terms_72 : decode cX11_terms 72 = .ok (.aload_n 0, 1) := by decide +kernel
theorem dX11_terms_73 : decode cX11_terms 73 = .ok (.getfield 93, 3) := by decide +kernel
theorem dX11_terms_76 : decode cX11_terms 76 = .ok (.invokevirtual 103, 3) := by decide +kernel
theorem dX11_terms_79 : decode cX11_terms 79 = .ok (.aload_n 0, 1) := by decide +kernel
theorem dX11_terms_80 : decode cX11_terms 80 = .ok (.getfield 59, 3) := by decide +kernel
theorem dX11_terms_83 : decode cX11_terms 83 = .ok (.aload_n 0, 1) := by decide +kernel
theorem dX11_terms_84 : decode cX11_terms 84 = .ok (.getfield 53, 3) := by decide +kernel
theorem dX11_terms_87 : decode cX11_terms 87 = .ok (.iconst 1, 1) := by decide +kernel
theorem dX11_terms_88 : decode cX11_terms 88 = .ok (.iload_n 1, 1) := by decide +kernel
theorem dX11_terms_89 : decode cX11_terms 89 = .ok (.ishl, 1) := by decide +kernel
theorem dX11_terms_90 : decode cX11_terms 90 = .ok (.invokevirtual 403, 3) := by decide +kernel
theorem dX11_terms_93 : decode cX11_terms 93 = .ok (.ifCond .eq 6, 3) := by decide +kernel
theorem dX11_terms_96 : decode cX11_terms 96 = .ok (.iinc 4 1, 3) := by decide +kernel
theorem dX11_terms_99 : decode cX11_terms 99 = .ok (.iinc 5 1, 3) := by decide +kernel
theorem dX11_terms_102 : decode cX11_terms 102 = .ok (.goto (-62), 3) := by decide +kernel
theorem dX11_terms_105 : decode cX11_terms 105 = .ok (.iload 4, 2) := by decide +kernel
theorem dX11_terms_107 : decode cX11_terms 107 = .ok (.ireturn, 1) := by decide +kernel
theorem dX11_image_0 : decode cX11_image 0 = .ok (.aload_n 0, 1) := by decide +kernel
theorem dX11_image_1 : decode cX11_image 1 = .ok (.getfield 43, 3) := by decide +kernel
theorem dX11_image_4 : decode cX11_image 4 = .ok (.aload_n 0, 1) := by decide +kernel
theorem dX11_image_5 : decode cX11_image 5 = .ok (.getfield 39, 3) := by decide +kernel
theorem dX11_image_8 : decode cX11_image 8 = .ok (.invokevirtual 407, 3) := by decide +kernel
theorem dX11_image_11 : decode cX11_image 11 = .ok (.aload_n 0, 1) := by decide +kernel
theorem dX11_image_12 : decode cX11_image 12 = .ok (.iconst 1, 1) := by decide +kernel
theorem dX11_image_13 : decode cX11_image 13 = .ok (.putfield 138, 3) := by decide +kernel
theorem dX11_image_16 : decode cX11_image 16 = .ok (.return_, 1) := by decide +kernel
theorem dX11_restore_0 : decode cX11_restore 0 = .ok (.aload_n 0, 1) := by decide +kernel
theorem dX11_restore_1 : decode cX11_restore 1 = .ok (.getfield 138, 3) := by decide +kernel
theorem dX11_restore_4 : decode cX11_restore 4 = .ok (.ifCond .ne 5, 3) := by decide +kernel
theorem dX11_restore_7 : decode cX11_restore 7 = .ok (.iconst 0, 1) := by decide +kernel
theorem dX11_restore_8 : decode cX11_restore 8 = .ok (.ireturn, 1) := by decide +kernel
theorem dX11_restore_9 : decode cX11_restore 9 = .ok (.aload_n 0, 1) := by decide +kernel
theorem dX11_restore_10 : decode cX11_restore 10 = .ok (.getfield 39, 3) := by decide +kernel
theorem dX11_restore_13 : decode cX11_restore 13 = .ok (.aload_n 0, 1) := by decide +kernel
theorem dX11_restore_14 : decode cX11_restore 14 = .ok (.getfield 43, 3) := by decide +kernel
theorem dX11_restore_17 : decode cX11_restore 17 = .ok (.invokevirtual 407, 3) := by decide +kernel
theorem dX11_restore_20 : decode cX11_restore 20 = .ok (.aload_n 0, 1) := by decide +kernel
theorem dX11_restore_21 : decode cX11_restore 21 = .ok (.invokevirtual 148, 3) := by decide +kernel
theorem dX11_restore_24 : decode cX11_restore 24 = .ok (.aload_n 0, 1) := by decide +kernel
theorem dX11_restore_25 : decode cX11_restore 25 = .ok (.invokevirtual 151, 3) := by decide +kernel
theorem dX11_restore_28 : decode cX11_restore 28 = .ok (.iconst 1, 1) := by decide +kernel
theorem dX11_restore_29 : decode cX11_restore 29 = .ok (.ireturn, 1) := by decide +kernel
theorem dX11_needWalker_0 : decode cX11_needWalker 0 = .ok (.iload_n 1, 1) := by decide +kernel
theorem dX11_needWalker_1 : decode cX11_needWalker 1 = .ok (.ifCond .lt 14, 3) := by decide +kernel
theorem dX11_needWalker_4 : decode cX11_needWalker 4 = .ok (.iload_n 1, 1) := by decide +kernel
theorem dX11_needWalker_5 : decode cX11_needWalker 5 = .ok (.aload_n 0, 1) := by decide +kernel
theorem dX11_needWalker_6 : decode cX11_needWalker 6 = .ok (.getfield 20, 3) := by decide +kernel
theorem dX11_needWalker_9 : decode cX11_needWalker 9 = .ok (.getfield 160, 3) := by decide +kernel
theorem dX11_needWalker_12 : decode cX11_needWalker 12 = .ok (.if_icmp .lt 14, 3) := by decide +kernel
theorem dX11_needWalker_15 : decode cX11_needWalker 15 = .ok (.new 188, 3) := by decide +kernel
theorem dX11_needWalker_18 : decode cX11_needWalker 18 = .ok (.dup, 1) := by decide +kernel
theorem dX11_needWalker_19 : decode cX11_needWalker 19 = .ok (.ldc_w 411, 3) := by decide +kernel
theorem dX11_needWalker_22 : decode cX11_needWalker 22 = .ok (.invokespecial 192, 3) := by decide +kernel
theorem dX11_needWalker_25 : decode cX11_needWalker 25 = .ok (.athrow, 1) := by decide +kernel
theorem dX11_needWalker_26 : decode cX11_needWalker 26 = .ok (.return_, 1) := by decide +kernel
theorem dX11_needDay_0 : decode cX11_needDay 0 = .ok (.iload_n 0, 1) := by decide +kernel
theorem dX11_needDay_1 : decode cX11_needDay 1 = .ok (.ifCond .lt 9, 3) := by decide +kernel
theorem dX11_needDay_4 : decode cX11_needDay 4 = .ok (.iload_n 0, 1) := by decide +kernel
theorem dX11_needDay_5 : decode cX11_needDay 5 = .ok (.bipush 99, 2) := by decide +kernel
theorem dX11_needDay_7 : decode cX11_needDay 7 = .ok (.if_icmp .le 14, 3) := by decide +kernel
theorem dX11_needDay_10 : decode cX11_needDay 10 = .ok (.new 188, 3) := by decide +kernel
theorem dX11_needDay_13 : decode cX11_needDay 13 = .ok (.dup, 1) := by decide +kernel
theorem dX11_needDay_14 : decode cX11_needDay 14 = .ok (.ldc_w 413, 3) := by decide +kernel
theorem dX11_needDay_17 : decode cX11_needDay 17 = .ok (.invokespecial 192, 3) := by decide +kernel
theorem dX11_needDay_20 : decode cX11_needDay 20 = .ok (.athrow, 1) := by decide +kernel
theorem dX11_needDay_21 : decode cX11_needDay 21 = .ok (.return_, 1) := by decide +kernel
theorem dX11_nextRow_0 : decode cX11_nextRow 0 = .ok (.iload_n 1, 1) := by decide +kernel
theorem dX11_nextRow_1 : decode cX11_nextRow 1 = .ok (.iconst 2, 1) := by decide +kernel
theorem dX11_nextRow_2 : decode cX11_nextRow 2 = .ok (.isub, 1) := by decide +kernel
theorem dX11_nextRow_3 : decode cX11_nextRow 3 = .ok (.istore_n 2, 1) := by decide +kernel
theorem dX11_nextRow_4 : decode cX11_nextRow 4 = .ok (.iload_n 2, 1) := by decide +kernel
theorem dX11_nextRow_5 : decode cX11_nextRow 5 = .ok (.ifCond .lt 20, 3) := by decide +kernel
theorem dX11_nextRow_8 : decode cX11_nextRow 8 = .ok (.aload_n 0, 1) := by decide +kernel
theorem dX11_nextRow_9 : decode cX11_nextRow 9 = .ok (.iload_n 2, 1) := by decide +kernel
theorem dX11_nextRow_10 : decode cX11_nextRow 10 = .ok (.iaload, 1) := by decide +kernel
theorem dX11_nextRow_11 : decode cX11_nextRow 11 = .ok (.aload_n 0, 1) := by decide +kernel
theorem dX11_nextRow_12 : decode cX11_nextRow 12 = .ok (.iload_n 2, 1) := by decide +kernel
theorem dX11_nextRow_13 : decode cX11_nextRow 13 = .ok (.iconst 1, 1) := by decide +kernel
theorem dX11_nextRow_14 : decode cX11_nextRow 14 = .ok (.iadd, 1) := by decide +kernel
theorem dX11_nextRow_15 : decode cX11_nextRow 15 = .ok (.iaload, 1) := by decide +kernel
theorem dX11_nextRow_16 : decode cX11_nextRow 16 = .ok (.if_icmp .le 9, 3) := by decide +kernel
theorem dX11_nextRow_19 : decode cX11_nextRow 19 = .ok (.iinc 2 (-1), 3) := by decide +kernel
theorem dX11_nextRow_22 : decode cX11_nextRow 22 = .ok (.goto (-18), 3) := by decide +kernel
theorem dX11_nextRow_25 : decode cX11_nextRow 25 = .ok (.iload_n 2, 1) := by decide +kernel
theorem dX11_nextRow_26 : decode cX11_nextRow 26 = .ok (.ifCond .ge 5, 3) := by decide +kernel
theorem dX11_nextRow_29 : decode cX11_nextRow 29 = .ok (.iconst 0, 1) := by decide +kernel
theorem dX11_nextRow_30 : decode cX11_nextRow 30 = .ok (.ireturn, 1) := by decide +kernel
theorem dX11_nextRow_31 : decode cX11_nextRow 31 = .ok (.iload_n 1, 1) := by decide +kernel
theorem dX11_nextRow_32 : decode cX11_nextRow 32 = .ok (.iconst 1, 1) := by decide +kernel
theorem dX11_nextRow_33 : decode cX11_nextRow 33 = .ok (.isub, 1) := by decide +kernel
theorem dX11_nextRow_34 : decode cX11_nextRow 34 = .ok (.istore_n 3, 1) := by decide +kernel
theorem dX11_nextRow_35 : decode cX11_nextRow 35 = .ok (.iload_n 3, 1) := by decide +kernel
theorem dX11_nextRow_36 : decode cX11_nextRow 36 = .ok (.iload_n 2, 1) := by decide +kernel
theorem dX11_nextRow_37 : decode cX11_nextRow 37 = .ok (.iconst 1, 1) := by decide +kernel
theorem dX11_nextRow_38 : decode cX11_nextRow 38 = .ok (.iadd, 1) := by decide +kernel
theorem dX11_nextRow_39 : decode cX11_nextRow 39 = .ok (.if_icmp .le 18, 3) := by decide +kernel
theorem dX11_nextRow_42 : decode cX11_nextRow 42 = .ok (.aload_n 0, 1) := by decide +kernel
theorem dX11_nextRow_43 : decode cX11_nextRow 43 = .ok (.iload_n 3, 1) := by decide +kernel
theorem dX11_nextRow_44 : decode cX11_nextRow 44 = .ok (.iaload, 1) := by decide +kernel
theorem dX11_nextRow_45 : decode cX11_nextRow 45 = .ok (.aload_n 0, 1) := by decide +kernel
theorem dX11_nextRow_46 : decode cX11_nextRow 46 = .ok (.iload_n 2, 1) := by decide +kernel
theorem dX11_nextRow_47 : decode cX11_nextRow 47 = .ok (.iaload, 1) := by decide +kernel
theorem dX11_nextRow_48 : decode cX11_nextRow 48 = .ok (.if_icmp .ge 9, 3) := by decide +kernel
theorem dX11_nextRow_51 : decode cX11_nextRow 51 = .ok (.iinc 3 (-1), 3) := by decide +kernel
theorem dX11_nextRow_54 : decode cX11_nextRow 54 = .ok (.goto (-19), 3) := by decide +kernel
theorem dX11_nextRow_57 : decode cX11_nextRow 57 = .ok (.aload_n 0, 1) := by decide +kernel
theorem dX11_nextRow_58 : decode cX11_nextRow 58 = .ok (.iload_n 2, 1) := by decide +kernel
theorem dX11_nextRow_59 : decode cX11_nextRow 59 = .ok (.iload_n 3, 1) := by decide +kernel
theorem dX11_nextRow_60 : decode cX11_nextRow 60 = .ok (.invokestatic 415, 3) := by decide +kernel
theorem dX11_nextRow_63 : decode cX11_nextRow 63 = .ok (.iload_n 2, 1) := by decide +kernel
theorem dX11_nextRow_64 : decode cX11_nextRow 64 = .ok (.iconst 1, 1) := by decide +kernel
theorem dX11_nextRow_65 : decode cX11_nextRow 65 = .ok (.iadd, 1) := by decide +kernel
theorem dX11_nextRow_66 : decode cX11_nextRow 66 = .ok (.istore 4, 2) := by decide +kernel
theorem dX11_nextRow_68 : decode cX11_nextRow 68 = .ok (.iload_n 1, 1) := by decide +kernel
theorem dX11_nextRow_69 : decode cX11_nextRow 69 = .ok (.iconst 1, 1) := by decide +kernel
theorem dX11_nextRow_70 : decode cX11_nextRow 70 = .ok (.isub, 1) := by decide +kernel
theorem dX11_nextRow_71 : decode cX11_nextRow 71 = .ok (.istore 5, 2) := by decide +kernel
theorem dX11_nextRow_73 : decode cX11_nextRow 73 = .ok (.iload 4, 2) := by decide +kernel
theorem dX11_nextRow_75 : decode cX11_nextRow 75 = .ok (.iload 5, 2) := by decide +kernel
theorem dX11_nextRow_77 : decode cX11_nextRow 77 = .ok (.if_icmp .ge 20, 3) := by decide +kernel
theorem dX11_nextRow_80 : decode cX11_nextRow 80 = .ok (.aload_n 0, 1) := by decide +kernel
theorem dX11_nextRow_81 : decode cX11_nextRow 81 = .ok (.iload 4, 2) := by decide +kernel
theorem dX11_nextRow_83 : decode cX11_nextRow 83 = .ok (.iload 5, 2) := by decide +kernel
theorem dX11_nextRow_85 : decode cX11_nextRow 85 = .ok (.invokestatic 415, 3) := by decide +kernel
theorem dX11_nextRow_88 : decode cX11_nextRow 88 = .ok (.iinc 4 1, 3) := by decide +kernel
theorem dX11_nextRow_91 : decode cX11_nextRow 91 = .ok (.iinc 5 (-1), 3) := by decide +kernel
theorem dX11_nextRow_94 : decode cX11_nextRow 94 = .ok (.goto (-21), 3) := by decide +kernel
theorem dX11_nextRow_97 : decode cX11_nextRow 97 = .ok (.iconst 1, 1) := by decide +kernel
theorem dX11_nextRow_98 : decode cX11_nextRow 98 = .ok (.ireturn, 1) := by decide +kernel
theorem dX11_swap_0 : decode cX11_swap 0 = .ok (.aload_n 0, 1) := by decide +kernel
theorem dX11_swap_1 : decode cX11_swap 1 = .ok (.iload_n 1, 1) := by decide +kernel
theorem dX11_swap_2 : decode cX11_swap 2 = .ok (.iaload, 1) := by decide +kernel
theorem dX11_swap_3 : decode cX11_swap 3 = .ok (.istore_n 3, 1) := by decide +kernel
theorem dX11_swap_4 : decode cX11_swap 4 = .ok (.aload_n 0, 1) := by decide +kernel
theorem dX11_swap_5 : decode cX11_swap 5 = .ok (.iload_n 1, 1) := by decide +kernel
theorem dX11_swap_6 : decode cX11_swap 6 = .ok (.aload_n 0, 1) := by decide +kernel
theorem dX11_swap_7 : decode cX11_swap 7 = .ok (.iload_n 2, 1) := by decide +kernel
theorem dX11_swap_8 : decode cX11_swap 8 = .ok (.iaload, 1) := by decide +kernel
theorem dX11_swap_9 : decode cX11_swap 9 = .ok (.iastore, 1) := by decide +kernel
theorem dX11_swap_10 : decode cX11_swap 10 = .ok (.aload_n 0, 1) := by decide +kernel
theorem dX11_swap_11 : decode cX11_swap 11 = .ok (.iload_n 2, 1) := by decide +kernel
theorem dX11_swap_12 : decode cX11_swap 12 = .ok (.iload_n 3, 1) := by decide +kernel
theorem dX11_swap_13 : decode cX11_swap 13 = .ok (.iastore, 1) := by decide +kernel
theorem dX11_swap_14 : decode cX11_swap 14 = .ok (.return_, 1) := by decide +kernel
theorem dX11_fillInOrder_0 : decode cX11_fillInOrder 0 = .ok (.iconst 0, 1) := by decide +kernel
theorem dX11_fillInOrder_1 : decode cX11_fillInOrder 1 = .ok (.istore_n 1, 1) := by decide +kernel
theorem dX11_fillInOrder_2 : decode cX11_fillInOrder 2 = .ok (.iload_n 1, 1) := by decide +kernel
theorem dX11_fillInOrder_3 : decode cX11_fillInOrder 3 = .ok (.aload_n 0, 1) := by decide +kernel
theorem dX11_fillInOrder_4 : decode cX11_fillInOrder 4 = .ok (.arraylength, 1) := by decide +kernel
theorem dX11_fillInOrder_5 : decode cX11_fillInOrder 5 = .ok (.if_icmp .ge 13, 3) := by decide +kernel
theorem dX11_fillInOrder_8 : decode cX11_fillInOrder 8 = .ok (.aload_n 0, 1) := by decide +kernel
theorem dX11_fillInOrder_9 : decode cX11_fillInOrder 9 = .ok (.iload_n 1, 1) := by decide +kernel
theorem dX11_fillInOrder_10 : decode cX11_fillInOrder 10 = .ok (.iload_n 1, 1) := by decide +kernel
theorem dX11_fillInOrder_11 : decode cX11_fillInOrder 11 = .ok (.iastore, 1) := by decide +kernel
theorem dX11_fillInOrder_12 : decode cX11_fillInOrder 12 = .ok (.iinc 1 1, 3) := by decide +kernel
theorem dX11_fillInOrder_15 : decode cX11_fillInOrder 15 = .ok (.goto (-13), 3) := by decide +kernel
theorem dX11_fillInOrder_18 : decode cX11_fillInOrder 18 = .ok (.return_, 1) := by decide +kernel
theorem dX11_longestRun_0 : decode cX11_longestRun 0 = .ok (.iload_n 0, 1) := by decide +kernel
theorem dX11_longestRun_1 : decode cX11_longestRun 1 = .ok (.istore_n 1, 1) := by decide +kernel
theorem dX11_longestRun_2 : decode cX11_longestRun 2 = .ok (.iconst 0, 1) := by decide +kernel
theorem dX11_longestRun_3 : decode cX11_longestRun 3 = .ok (.istore_n 2, 1) := by decide +kernel
theorem dX11_longestRun_4 : decode cX11_longestRun 4 = .ok (.iload_n 1, 1) := by decide +kernel
theorem dX11_longestRun_5 : decode cX11_longestRun 5 = .ok (.ifCond .eq 21, 3) := by decide +kernel
theorem dX11_longestRun_8 : decode cX11_longestRun 8 = .ok (.iload_n 2, 1) := by decide +kernel
theorem dX11_longestRun_9 : decode cX11_longestRun 9 = .ok (.bipush 32, 2) := by decide +kernel
theorem dX11_longestRun_11 : decode cX11_longestRun 11 = .ok (.if_icmp .ge 15, 3) := by decide +kernel
theorem dX11_longestRun_14 : decode cX11_longestRun 14 = .ok (.iload_n 1, 1) := by decide +kernel
theorem dX11_longestRun_15 : decode cX11_longestRun 15 = .ok (.iload_n 1, 1) := by decide +kernel
theorem dX11_longestRun_16 : decode cX11_longestRun 16 = .ok (.iconst 1, 1) := by decide +kernel
theorem dX11_longestRun_17 : decode cX11_longestRun 17 = .ok (.ishl, 1) := by decide +kernel
theorem dX11_longestRun_18 : decode cX11_longestRun 18 = .ok (.iand, 1) := by decide +kernel
theorem dX11_longestRun_19 : decode cX11_longestRun 19 = .ok (.istore_n 1, 1) := by decide +kernel
theorem dX11_longestRun_20 : decode cX11_longestRun 20 = .ok (.iinc 2 1, 3) := by decide +kernel
theorem dX11_longestRun_23 : decode cX11_longestRun 23 = .ok (.goto (-19), 3) := by decide +kernel
theorem dX11_longestRun_26 : decode cX11_longestRun 26 = .ok (.iload_n 2, 1) := by decide +kernel
theorem dX11_longestRun_27 : decode cX11_longestRun 27 = .ok (.ireturn, 1) := by decide +kernel
theorem dX12_init_0 : decode cX12_init 0 = .ok (.aload_n 0, 1) := by decide +kernel
theorem dX12_init_1 : decode cX12_init 1 = .ok (.invokespecial 1, 3) := by decide +kernel
theorem dX12_init_4 : decode cX12_init 4 = .ok (.aload_n 0, 1) := by decide +kernel
theorem dX12_init_5 : decode cX12_init 5 = .ok (.iconst 4, 1) := by decide +kernel
theorem dX12_init_6 : decode cX12_init 6 = .ok (.anewarray 7, 3) := by decide +kernel
theorem dX12_init_9 : decode cX12_init 9 = .ok (.dup, 1) := by decide +kernel
theorem dX12_init_10 : decode cX12_init 10 = .ok (.iconst 0, 1) := by decide +kernel
theorem dX12_init_11 : decode cX12_init 11 = .ok (.ldc 9, 2) := by decide +kernel
theorem dX12_init_13 : decode cX12_init 13 = .ok (.aastore, 1) := by decide +kernel
theorem dX12_init_14 : decode cX12_init 14 = .ok (.dup, 1) := by decide +kernel
theorem dX12_init_15 : decode cX12_init 15 = .ok (.iconst 1, 1) := by decide +kernel
theorem dX12_init_16 : decode cX12_init 16 = .ok (.ldc 11, 2) := by decide +kernel
theorem dX12_init_18 : decode cX12_init 18 = .ok (.aastore, 1) := by decide +kernel
theorem dX12_init_19 : decode cX12_init 19 = .ok (.dup, 1) := by decide +kernel
theorem dX12_init_20 : decode cX12_init 20 = .ok (.iconst 2, 1) := by decide +kernel
theorem dX12_init_21 : decode cX12_init 21 = .ok (.ldc 13, 2) := by decide +kernel
theorem dX12_init_23 : decode cX12_init 23 = .ok (.aastore, 1) := by decide +kernel
theorem dX12_init_24 : decode cX12_init 24 = .ok (.dup, 1) := by decide +kernel
theorem dX12_init_25 : decode cX12_init 25 = .ok (.iconst 3, 1) := by decide +kernel
theorem dX12_init_26 : decode cX12_init 26 = .ok (.ldc 15, 2) := by decide +kernel
theorem dX12_init_28 : decode cX12_init 28 = .ok (.aastore, 1) := by decide +kernel
theorem dX12_init_29 : decode cX12_init 29 = .ok (.putfield 17, 3) := by decide +kernel
theorem dX12_init_32 : decode cX12_init 32 = .ok (.aload_n 0, 1) := by decide +kernel
theorem dX12_init_33 : decode cX12_init 33 = .ok (.bipush 12, 2) := by decide +kernel
theorem dX12_init_35 : decode cX12_init 35 = .ok (.newarray .int, 2) := by decide +kernel
theorem dX12_init_37 : decode cX12_init 37 = .ok (.dup, 1) := by decide +kernel
theorem dX12_init_38 : decode cX12_init 38 = .ok (.iconst 0, 1) := by decide +kernel
theorem dX12_init_39 : decode cX12_init 39 = .ok (.iconst 0, 1) := by decide +kernel
theorem dX12_init_40 : decode cX12_init 40 = .ok (.iastore, 1) := by decide +kernel
theorem dX12_init_41 : decode cX12_init 41 = .ok (.dup, 1) := by decide +kernel
theorem dX12_init_42 : decode cX12_init 42 = .ok (.iconst 1, 1) := by decide +kernel
theorem dX12_init_43 : decode cX12_init 43 = .ok (.iconst 0, 1) := by decide +kernel
theorem dX12_init_44 : decode cX12_init 44 = .ok (.iastore, 1) := by decide +kernel
theorem dX12_init_45 : decode cX12_init 45 = .ok (.dup, 1) := by decide +kernel
theorem dX12_init_46 : decode cX12_init 46 = .ok (.iconst 2, 1) := by decide +kernel
theorem dX12_init_47 : decode cX12_init 47 = .ok (.iconst 0, 1) := by decide +kernel
theorem dX12_init_48 : decode cX12_init 48 = .ok (.iastore, 1) := by decide +kernel
theorem dX12_init_49 : decode cX12_init 49 = .ok (.dup, 1) := by decide +kernel
theorem dX12_init_50 : decode cX12_init 50 = .ok (.iconst 3, 1) := by decide +kernel
theorem dX12_init_51 : decode cX12_init 51 = .ok (.iconst 0, 1) := by decide +kernel
theorem dX12_init_52 : decode cX12_init 52 = .ok (.iastore, 1) := by decide +kernel
theorem dX12_init_53 : decode cX12_init 53 = .ok (.dup, 1) := by decide +kernel
theorem dX12_init_54 : decode cX12_init 54 = .ok (.iconst 4, 1) := by decide +kernel
theorem dX12_init_55 : decode cX12_init 55 = .ok (.iconst 1, 1) := by decide +kernel
theorem dX12_init_56 : decode cX12_init 56 = .ok (.iastore, 1) := by decide +kernel
theorem dX12_init_57 : decode cX12_init 57 = .ok (.dup, 1) := by decide +kernel
theorem dX12_init_58 : decode cX12_init 58 = .ok (.iconst 5, 1) := by decide +kernel
theorem dX12_init_59 : decode cX12_init 59 = .ok (.iconst 0, 1) := by decide +kernel
theorem dX12_init_60 : decode cX12_init 60 = .ok (.iastore, 1) := by decide +kernel
theorem dX12_init_61 : decode cX12_init 61 = .ok (.dup, 1) := by decide +kernel
theorem dX12_init_62 : decode cX12_init 62 = .ok (.bipush 6, 2) := by decide +kernel
theorem dX12_init_64 : decode cX12_init 64 = .ok (.iconst 0, 1) := by decide +kernel
theorem dX12_init_65 : decode cX12_init 65 = .ok (.iastore, 1) := by decide +kernel
theorem dX12_init_66 : decode cX12_init 66 = .ok (.dup, 1) := by decide +kernel
theorem dX12_init_67 : decode cX12_init 67 = .ok (.bipush 7, 2) := by decide +kernel
theorem dX12_init_69 : decode cX12_init 69 = .ok (.iconst 0, 1) := by decide +kernel
theorem dX12_init_70 : decode cX12_init 70 = .ok (.iastore, 1) := by decide +kernel
theorem dX12_init_71 : decode cX12_init 71 = .ok (.dup, 1) := by decide +kernel
theorem dX12_init_72 : decode cX12_init 72 = .ok (.bipush 8, 2) := by decide +kernel
theorem dX12_init_74 : decode cX12_init 74 = .ok (.iconst 0, 1) := by decide +kernel
theorem dX12_init_75 : decode cX12_init 75 = .ok (.iastore, 1) := by decide +kernel
theorem dX12_init_76 : decode cX12_init 76 = .ok (.dup, 1) := by decide +kernel
theorem dX12_init_77 : decode cX12_init 77 = .ok (.bipush 9, 2) := by decide +kernel
theorem dX12_init_79 : decode cX12_init 79 = .ok (.iconst 0, 1) := by decide +kernel
theorem dX12_init_80 : decode cX12_init 80 = .ok (.iastore, 1) := by decide +kernel
theorem dX12_init_81 : decode cX12_init 81 = .ok (.dup, 1) := by decide +kernel
theorem dX12_init_82 : decode cX12_init 82 = .ok (.bipush 10, 2) := by decide +kernel
theorem dX12_init_84 : decode cX12_init 84 = .ok (.iconst 1, 1) := by decide +kernel
theorem dX12_init_85 : decode cX12_init 85 = .ok (.iastore, 1) := by decide +kernel
theorem dX12_init_86 : decode cX12_init 86 = .ok (.dup, 1) := by decide +kernel
theorem dX12_init_87 : decode cX12_init 87 = .ok (.bipush 11, 2) := by decide +kernel
theorem dX12_init_89 : decode cX12_init 89 = .ok (.iconst 0, 1) := by decide +kernel
theorem dX12_init_90 : decode cX12_init 90 = .ok (.iastore, 1) := by decide +kernel
theorem dX12_init_91 : decode cX12_init 91 = .ok (.putfield 23, 3) := by decide +kernel
theorem dX12_init_94 : decode cX12_init 94 = .ok (.aload_n 0, 1) := by decide +kernel
theorem dX12_init_95 : decode cX12_init 95 = .ok (.bipush 20, 2) := by decide +kernel
theorem dX12_init_97 : decode cX12_init 97 = .ok (.newarray .int, 2) := by decide +kernel
theorem dX12_init_99 : decode cX12_init 99 = .ok (.putfield 27, 3) := by decide +kernel
theorem dX12_init_102 : decode cX12_init 102 = .ok (.aload_n 0, 1) := by decide +kernel
theorem dX12_init_103 : decode cX12_init 103 = .ok (.bipush 14, 2) := by decide +kernel
theorem dX12_init_105 : decode cX12_init 105 = .ok (.newarray .int, 2) := by decide +kernel
theorem dX12_init_107 : decode cX12_init 107 = .ok (.putfield 30, 3) := by decide +kernel
theorem dX12_init_110 : decode cX12_init 110 = .ok (.aload_n 0, 1) := by decide +kernel
theorem dX12_init_111 : decode cX12_init 111 = .ok (.bipush 14, 2) := by decide +kernel
theorem dX12_init_113 : decode cX12_init 113 = .ok (.newarray .int, 2) := by decide +kernel
theorem dX12_init_115 : decode cX12_init 115 = .ok (.putfield 33, 3) := by decide +kernel
theorem dX12_init_118 : decode cX12_init 118 = .ok (.aload_n 0, 1) := by decide +kernel
theorem dX12_init_119 : decode cX12_init 119 = .ok (.bipush 14, 2) := by decide +kernel
theorem dX12_init_121 : decode cX12_init 121 = .ok (.newarray .int, 2) := by decide +kernel
theorem dX12_init_123 : decode cX12_init 123 = .ok (.putfield 36, 3) := by decide +kernel
theorem dX12_init_126 : decode cX12_init 126 = .ok (.aload_n 0, 1) := by decide +kernel
theorem dX12_init_127 : decode cX12_init 127 = .ok (.bipush 10, 2) := by decide +kernel
theorem dX12_init_129 : decode cX12_init 129 = .ok (.newarray .int, 2) := by decide +kernel
theorem dX12_init_131 : decode cX12_init 131 = .ok (.putfield 39, 3) := by decide +kernel
theorem dX12_init_134 : decode cX12_init 134 = .ok (.aload_n 0, 1) := by decide +kernel
theorem dX12_init_135 : decode cX12_init 135 = .ok (.bipush 10, 2) := by decide +kernel
theorem dX12_init_137 : decode cX12_init 137 = .ok (.newarray .int, 2) := by decide +kernel
theorem dX12_init_139 : decode cX12_init 139 = .ok (.putfield 42, 3) := by decide +kernel
theorem dX12_init_142 : decode cX12_init 142 = .ok (.aload_n 0, 1) := by decide +kernel
theorem dX12_init_143 : decode cX12_init 143 = .ok (.bipush 10, 2) := by decide +kernel
theorem dX12_init_145 : decode cX12_init 145 = .ok (.newarray .int, 2) := by decide +kernel
theorem dX12_init_147 : decode cX12_init 147 = .ok (.putfield 45, 3) := by decide +kernel
theorem dX12_init_150 : decode cX12_init 150 = .ok (.aload_n 0, 1) := by decide +kernel
theorem dX12_init_151 : decode cX12_init 151 = .ok (.bipush 10, 2) := by decide +kernel
theorem dX12_init_153 : decode cX12_init 153 = .ok (.newarray .int, 2) := by decide +kernel
theorem dX12_init_155 : decode cX12_init 155 = .ok (.putfield 48, 3) := by decide +kernel
theorem dX12_init_158 : decode cX12_init 158 = .ok (.aload_n 0, 1) := by decide +kernel
theorem dX12_init_159 : decode cX12_init 159 = .ok (.bipush 10, 2) := by decide +kernel
theorem dX12_init_161 : decode cX12_init 161 = .ok (.newarray .int, 2) := by decide +kernel
theorem dX12_init_163 : decode cX12_init 163 = .ok (.putfield 51, 3) := by decide +kernel
theorem dX12_init_166 : decode cX12_init 166 = .ok (.aload_n 0, 1) := by decide +kernel
theorem dX12_init_167 : decode cX12_init 167 = .ok (.bipush 10, 2) := by decide +kernel
theorem dX12_init_169 : decode cX12_init 169 = .ok (.newarray .int, 2) := by decide +kernel
theorem dX12_init_171 : decode cX12_init 171 = .ok (.putfield 54, 3) := by decide +kernel
theorem dX12_init_174 : decode cX12_init 174 = .ok (.aload_n 0, 1) := by decide +kernel
theorem dX12_init_175 : decode cX12_init 175 = .ok (.bipush 10, 2) := by decide +kernel
theorem dX12_init_177 : decode cX12_init 177 = .ok (.newarray .int, 2) := by decide +kernel
theorem dX12_init_179 : decode cX12_init 179 = .ok (.putfield 57, 3) := by decide +kernel
theorem dX12_init_182 : decode cX12_init 182 = .ok (.aload_n 0, 1) := by decide +kernel
theorem dX12_init_183 : decode cX12_init 183 = .ok (.iconst 3, 1) := by decide +kernel
theorem dX12_init_184 : decode cX12_init 184 = .ok (.newarray .int, 2) := by decide +kernel
theorem dX12_init_186 : decode cX12_init 186 = .ok (.putfield 60, 3) := by decide +kernel
theorem dX12_init_189 : decode cX12_init 189 = .ok (.aload_n 0, 1) := by decide +kernel
theorem dX12_init_190 : decode cX12_init 190 = .ok (.sipush 500, 3) := by decide +kernel
theorem dX12_init_193 : decode cX12_init 193 = .ok (.newarray .int, 2) := by decide +kernel
theorem dX12_init_195 : decode cX12_init 195 = .ok (.putfield 63, 3) := by decide +kernel
theorem dX12_init_198 : decode cX12_init 198 = .ok (.aload_n 0, 1) := by decide +kernel
theorem dX12_init_199 : decode cX12_init 199 = .ok (.iconst (-1), 1) := by decide +kernel
theorem dX12_init_200 : decode cX12_init 200 = .ok (.putfield 66, 3) := by decide +kernel
theorem dX12_init_203 : decode cX12_init 203 = .ok (.aload_n 0, 1) := by decide +kernel
theorem dX12_init_204 : decode cX12_init 204 = .ok (.bipush 7, 2) := by decide +kernel
theorem dX12_init_206 : decode cX12_init 206 = .ok (.newarray .int, 2) := by decide +kernel
theorem dX12_init_208 : decode cX12_init 208 = .ok (.dup, 1) := by decide +kernel
theorem dX12_init_209 : decode cX12_init 209 = .ok (.iconst 0, 1) := by decide +kernel
theorem dX12_init_210 : decode cX12_init 210 = .ok (.iconst 0, 1) := by decide +kernel
theorem dX12_init_211 : decode cX12_init 211 = .ok (.iastore, 1) := by decide +kernel
theorem dX12_init_212 : decode cX12_init 212 = .ok (.dup, 1) := by decide +kernel
theorem dX12_init_213 : decode cX12_init 213 = .ok (.iconst 1, 1) := by decide +kernel
theorem dX12_init_214 : decode cX12_init 214 = .ok (.iconst 1, 1) := by decide +kernel
theorem dX12_init_215 : decode cX12_init 215 = .ok (.iastore, 1) := by decide +kernel
theorem dX12_init_216 : decode cX12_init 216 = .ok (.dup, 1) := by decide +kernel
theorem dX12_init_217 : decode cX12_init 217 = .ok (.iconst 2, 1) := by decide +kernel
theorem dX12_init_218 : decode cX12_init 218 = .ok (.iconst 2, 1) := by decide +kernel
theorem dX12_init_219 : decode cX12_init 219 = .ok (.iastore, 1) := by decide +kernel
theorem dX12_init_220 : decode cX12_init 220 = .ok (.dup, 1) := by decide +kernel
theorem dX12_init_221 : decode cX12_init 221 = .ok (.iconst 3, 1) := by decide +kernel
theorem dX12_init_222 : decode cX12_init 222 = .ok (.iconst 3, 1) := by decide +kernel
theorem dX12_init_223 : decode cX12_init 223 = .ok (.iastore, 1) := by decide +kernel
theorem dX12_init_224 : decode cX12_init 224 = .ok (.dup, 1) := by decide +kernel
theorem dX12_init_225 : decode cX12_init 225 = .ok (.iconst 4, 1) := by decide +kernel
theorem dX12_init_226 : decode cX12_init 226 = .ok (.iconst 4, 1) := by decide +kernel
theorem dX12_init_227 : decode cX12_init 227 = .ok (.iastore, 1) := by decide +kernel
theorem dX12_init_228 : decode cX12_init 228 = .ok (.dup, 1) := by decide +kernel
theorem dX12_init_229 : decode cX12_init 229 = .ok (.iconst 5, 1) := by decide +kernel
theorem dX12_init_230 : decode cX12_init 230 = .ok (.iconst 5, 1) := by decide +kernel
theorem dX12_init_231 : decode cX12_init 231 = .ok (.iastore, 1) := by decide +kernel
theorem dX12_init_232 : decode cX12_init 232 = .ok (.dup, 1) := by decide +kernel
theorem dX12_init_233 : decode cX12_init 233 = .ok (.bipush 6, 2) := by decide +kernel
theorem dX12_init_235 : decode cX12_init 235 = .ok (.bipush 6, 2) := by decide +kernel
theorem dX12_init_237 : decode cX12_init 237 = .ok (.iastore, 1) := by decide +kernel
theorem dX12_init_238 : decode cX12_init 238 = .ok (.putfield 70, 3) := by decide +kernel
theorem dX12_init_241 : decode cX12_init 241 = .ok (.aload_n 0, 1) := by decide +kernel
theorem dX12_init_242 : decode cX12_init 242 = .ok (.bipush 10, 2) := by decide +kernel
theorem dX12_init_244 : decode cX12_init 244 = .ok (.newarray .int, 2) := by decide +kernel
theorem dX12_init_246 : decode cX12_init 246 = .ok (.dup, 1) := by decide +kernel
theorem dX12_init_247 : decode cX12_init 247 = .ok (.iconst 0, 1) := by decide +kernel
theorem dX12_init_248 : decode cX12_init 248 = .ok (.iconst 0, 1) := by decide +kernel
theorem dX12_init_249 : decode cX12_init 249 = .ok (.iastore, 1) := by decide +kernel
theorem dX12_init_250 : decode cX12_init 250 = .ok (.dup, 1) := by decide +kernel
theorem dX12_init_251 : decode cX12_init 251 = .ok (.iconst 1, 1) := by decide +kernel
theorem dX12_init_252 : decode cX12_init 252 = .ok (.iconst 1, 1) := by decide +kernel
theorem dX12_init_253 : decode cX12_init 253 = .ok (.iastore, 1) := by decide +kernel
theorem dX12_init_254 : decode cX12_init 254 = .ok (.dup, 1) := by decide +kernel
theorem dX12_init_255 : decode cX12_init 255 = .ok (.iconst 2, 1) := by decide +kernel
theorem dX12_init_256 : decode cX12_init 256 = .ok (.iconst 2, 1) := by decide +kernel
theorem dX12_init_257 : decode cX12_init 257 = .ok (.iastore, 1) := by decide +kernel
theorem dX12_init_258 : decode cX12_init 258 = .ok (.dup, 1) := by decide +kernel
theorem dX12_init_259 : decode cX12_init 259 = .ok (.iconst 3, 1) := by decide +kernel
theorem dX12_init_260 : decode cX12_init 260 = .ok (.iconst 3, 1) := by decide +kernel
theorem dX12_init_261 : decode cX12_init 261 = .ok (.iastore, 1) := by decide +kernel
theorem dX12_init_262 : decode cX12_init 262 = .ok (.dup, 1) := by decide +kernel
theorem dX12_init_263 : decode cX12_init 263 = .ok (.iconst 4, 1) := by decide +kernel
theorem dX12_init_264 : decode cX12_init 264 = .ok (.iconst 4, 1) := by decide +kernel
theorem dX12_init_265 : decode cX12_init 265 = .ok (.iastore, 1) := by decide +kernel
theorem dX12_init_266 : decode cX12_init 266 = .ok (.dup, 1) := by decide +kernel
theorem dX12_init_267 : decode cX12_init 267 = .ok (.iconst 5, 1) := by decide +kernel
theorem dX12_init_268 : decode cX12_init 268 = .ok (.iconst 5, 1) := by decide +kernel
theorem dX12_init_269 : decode cX12_init 269 = .ok (.iastore, 1) := by decide +kernel
theorem dX12_init_270 : decode cX12_init 270 = .ok (.dup, 1) := by decide +kernel
theorem dX12_init_271 : decode cX12_init 271 = .ok (.bipush 6, 2) := by decide +kernel
theorem dX12_init_273 : decode cX12_init 273 = .ok (.bipush 6, 2) := by decide +kernel
theorem dX12_init_275 : decode cX12_init 275 = .ok (.iastore, 1) := by decide +kernel
theorem dX12_init_276 : decode cX12_init 276 = .ok (.dup, 1) := by decide +kernel
theorem dX12_init_277 : decode cX12_init 277 = .ok (.bipush 7, 2) := by decide +kernel
theorem dX12_init_279 : decode cX12_init 279 = .ok (.bipush 7, 2) := by decide +kernel
theorem dX12_init_281 : decode cX12_init 281 = .ok (.iastore, 1) := by decide +kernel
theorem dX12_init_282 : decode cX12_init 282 = .ok (.dup, 1) := by decide +kernel
theorem dX12_init_283 : decode cX12_init 283 = .ok (.bipush 8, 2) := by decide +kernel
theorem dX12_init_285 : decode cX12_init 285 = .ok (.bipush 8, 2) := by decide +kernel
theorem dX12_init_287 : decode cX12_init 287 = .ok (.iastore, 1) := by decide +kernel
theorem dX12_init_288 : decode cX12_init 288 = .ok (.dup, 1) := by decide +kernel
theorem dX12_init_289 : decode cX12_init 289 = .ok (.bipush 9, 2) := by decide +kernel
theorem dX12_init_291 : decode cX12_init 291 = .ok (.bipush 9, 2) := by decide +kernel
theorem dX12_init_293 : decode cX12_init 293 = .ok (.iastore, 1) := by decide +kernel
theorem dX12_init_294 : decode cX12_init 294 = .ok (.putfield 73, 3) := by decide +kernel
theorem dX12_init_297 : decode cX12_init 297 = .ok (.aload_n 0, 1) := by decide +kernel
theorem dX12_init_298 : decode cX12_init 298 = .ok (.bipush 7, 2) := by decide +kernel
theorem dX12_init_300 : decode cX12_init 300 = .ok (.newarray .int, 2) := by decide +kernel
theorem dX12_init_302 : decode cX12_init 302 = .ok (.putfield 76, 3) := by decide +kernel
theorem dX12_init_305 : decode cX12_init 305 = .ok (.aload_n 0, 1) := by decide +kernel
theorem dX12_init_306 : decode cX12_init 306 = .ok (.bipush 10, 2) := by decide +kernel
theorem dX12_init_308 : decode cX12_init 308 = .ok (.newarray .int, 2) := by decide +kernel
theorem dX12_init_310 : decode cX12_init 310 = .ok (.putfield 79, 3) := by decide +kernel
theorem dX12_init_313 : decode cX12_init 313 = .ok (.aload_n 0, 1) := by decide +kernel
theorem dX12_init_314 : decode cX12_init 314 = .ok (.bipush 10, 2) := by decide +kernel
theorem dX12_init_316 : decode cX12_init 316 = .ok (.newarray .int, 2) := by decide +kernel
theorem dX12_init_318 : decode cX12_init 318 = .ok (.putfield 82, 3) := by decide +kernel
theorem dX12_init_321 : decode cX12_init 321 = .ok (.aload_n 0, 1) := by decide +kernel
theorem dX12_init_322 : decode cX12_init 322 = .ok (.bipush 7, 2) := by decide +kernel
theorem dX12_init_324 : decode cX12_init 324 = .ok (.newarray .int, 2) := by decide +kernel
theorem dX12_init_326 : decode cX12_init 326 = .ok (.putfield 85, 3) := by decide +kernel
theorem dX12_init_329 : decode cX12_init 329 = .ok (.aload_n 0, 1) := by decide +kernel
theorem dX12_init_330 : decode cX12_init 330 = .ok (.bipush 100, 2) := by decide +kernel
theorem dX12_init_332 : decode cX12_init 332 = .ok (.newarray .int, 2) := by decide +kernel
theorem dX12_init_334 : decode cX12_init 334 = .ok (.putfield 88, 3) := by decide +kernel
theorem dX12_init_337 : decode cX12_init 337 = .ok (.aload_n 0, 1) := by decide +kernel
theorem dX12_init_338 : decode cX12_init 338 = .ok (.sipush 242, 3) := by decide +kernel
theorem dX12_init_341 : decode cX12_init 341 = .ok (.newarray .int, 2) := by decide +kernel
theorem dX12_init_343 : decode cX12_init 343 = .ok (.putfield 91, 3) := by decide +kernel
theorem dX12_init_346 : decode cX12_init 346 = .ok (.aload_n 0, 1) := by decide +kernel
theorem dX12_init_347 : decode cX12_init 347 = .ok (.bipush 10, 2) := by decide +kernel
theorem dX12_init_349 : decode cX12_init 349 = .ok (.newarray .int, 2) := by decide +kernel
theorem dX12_init_351 : decode cX12_init 351 = .ok (.putfield 94, 3) := by decide +kernel
theorem dX12_init_354 : decode cX12_init 354 = .ok (.aload_n 0, 1) := by decide +kernel
theorem dX12_init_355 : decode cX12_init 355 = .ok (.bipush 10, 2) := by decide +kernel
theorem dX12_init_357 : decode cX12_init 357 = .ok (.newarray .int, 2) := by decide +kernel
theorem dX12_init_359 : decode cX12_init 359 = .ok (.putfield 97, 3) := by decide +kernel
theorem dX12_init_362 : decode cX12_init 362 = .ok (.aload_n 0, 1) := by decide +kernel
theorem dX12_init_363 : decode cX12_init 363 = .ok (.bipush 10, 2) := by decide +kernel
theorem dX12_init_365 : decode cX12_init 365 = .ok (.newarray .boolean, 2) := by decide +kernel
theorem dX12_init_367 : decode cX12_init 367 = .ok (.putfield 100, 3) := by decide +kernel
theorem dX12_init_370 : decode cX12_init 370 = .ok (.aload_n 0, 1) := by decide +kernel
theorem dX12_init_371 : decode cX12_init 371 = .ok (.bipush 7, 2) := by decide +kernel
theorem dX12_init_373 : decode cX12_init 373 = .ok (.newarray .int, 2) := by decide +kernel
theorem dX12_init_375 : decode cX12_init 375 = .ok (.putfield 104, 3) := by decide +kernel
theorem dX12_init_378 : decode cX12_init 378 = .ok (.aload_n 0, 1) := by decide +kernel
theorem dX12_init_379 : decode cX12_init 379 = .ok (.bipush 10, 2) := by decide +kernel
theorem dX12_init_381 : decode cX12_init 381 = .ok (.newarray .int, 2) := by decide +kernel
theorem dX12_init_383 : decode cX12_init 383 = .ok (.putfield 107, 3) := by decide +kernel
theorem dX12_init_386 : decode cX12_init 386 = .ok (.aload_n 0, 1) := by decide +kernel
theorem dX12_init_387 : decode cX12_init 387 = .ok (.bipush 10, 2) := by decide +kernel
theorem dX12_init_389 : decode cX12_init 389 = .ok (.newarray .int, 2) := by decide +kernel
theorem dX12_init_391 : decode cX12_init 391 = .ok (.putfield 110, 3) := by decide +kernel
theorem dX12_init_394 : decode cX12_init 394 = .ok (.aload_n 0, 1) := by decide +kernel
theorem dX12_init_395 : decode cX12_init 395 = .ok (.bipush 10, 2) := by decide +kernel
theorem dX12_init_397 : decode cX12_init 397 = .ok (.newarray .int, 2) := by decide +kernel
theorem dX12_init_399 : decode cX12_init 399 = .ok (.putfield 113, 3) := by decide +kernel
theorem dX12_init_402 : decode cX12_init 402 = .ok (.aload_n 0, 1) := by decide +kernel
theorem dX12_init_403 : decode cX12_init 403 = .ok (.iconst 3, 1) := by decide +kernel
theorem dX12_init_404 : decode cX12_init 404 = .ok (.newarray .int, 2) := by decide +kernel
theorem dX12_init_406 : decode cX12_init 406 = .ok (.putfield 116, 3) := by decide +kernel
theorem dX12_init_409 : decode cX12_init 409 = .ok (.aload_n 0, 1) := by decide +kernel
theorem dX12_init_410 : decode cX12_init 410 = .ok (.bipush 10, 2) := by decide +kernel
theorem dX12_init_412 : decode cX12_init 412 = .ok (.newarray .boolean, 2) := by decide +kernel
theorem dX12_init_414 : decode cX12_init 414 = .ok (.putfield 119, 3) := by decide +kernel
theorem dX12_init_417 : decode cX12_init 417 = .ok (.return_, 1) := by decide +kernel
theorem dX12_thrown_0 : decode cX12_thrown 0 = .ok (.aload_n 0, 1) := by decide +kernel
theorem dX12_thrown_1 : decode cX12_thrown 1 = .ok (.getfield 122, 3) := by decide +kernel
theorem dX12_thrown_4 : decode cX12_thrown 4 = .ok (.ireturn, 1) := by decide +kernel
theorem dX12_fail_0 : decode cX12_fail 0 = .ok (.aload_n 0, 1) := by decide +kernel
theorem dX12_fail_1 : decode cX12_fail 1 = .ok (.iload_n 1, 1) := by decide +kernel
theorem dX12_fail_2 : decode cX12_fail 2 = .ok (.putfield 122, 3) := by decide +kernel
theorem dX12_fail_5 : decode cX12_fail 5 = .ok (.iconst 0, 1) := by decide +kernel
theorem dX12_fail_6 : decode cX12_fail 6 = .ok (.ireturn, 1) := by decide +kernel
theorem dX12_isIn_0 : decode cX12_isIn 0 = .ok (.iload_n 0, 1) := by decide +kernel
theorem dX12_isIn_1 : decode cX12_isIn 1 = .ok (.iload_n 1, 1) := by decide +kernel
theorem dX12_isIn_2 : decode cX12_isIn 2 = .ok (.if_icmp .lt 12, 3) := by decide +kernel
theorem dX12_isIn_5 : decode cX12_isIn 5 = .ok (.iload_n 0, 1) := by decide +kernel
theorem dX12_isIn_6 : decode cX12_isIn 6 = .ok (.iload_n 2, 1) := by decide +kernel
theorem dX12_isIn_7 : decode cX12_isIn 7 = .ok (.if_icmp .gt 7, 3) := by decide +kernel
theorem dX12_isIn_10 : decode cX12_isIn 10 = .ok (.iconst 1, 1) := by decide +kernel
theorem dX12_isIn_11 : decode cX12_isIn 11 = .ok (.goto 4, 3) := by decide +kernel
theorem dX12_isIn_14 : decode cX12_isIn 14 = .ok (.iconst 0, 1) := by decide +kernel
theorem dX12_isIn_15 : decode cX12_isIn 15 = .ok (.ireturn, 1) := by decide +kernel
theorem dX12_isBook_0 : decode cX12_isBook 0 = .ok (.iload_n 1, 1) := by decide +kernel
theorem dX12_isBook_1 : decode cX12_isBook 1 = .ok (.iconst 0, 1) := by decide +kernel
theorem dX12_isBook_2 : decode cX12_isBook 2 = .ok (.aload_n 0, 1) := by decide +kernel
theorem dX12_isBook_3 : decode cX12_isBook 3 = .ok (.getfield 23, 3) := by decide +kernel
theorem dX12_isBook_6 : decode cX12_isBook 6 = .ok (.iconst 0, 1) := by decide +kernel
theorem dX12_isBook_7 : decode cX12_isBook 7 = .ok (.iaload, 1) := by decide +kernel
theorem dX12_isBook_8 : decode cX12_isBook 8 = .ok (.iconst 1, 1) := by decide +kernel
theorem dX12_isBook_9 : decode cX12_isBook 9 = .ok (.isub, 1) := by decide +kernel
theorem dX12_isBook_10 : decode cX12_isBook 10 = .ok (.invokestatic 125, 3) := by decide +kernel
theorem dX12_isBook_13 : decode cX12_isBook 13 = .ok (.ireturn, 1) := by decide +kernel
theorem dX12_isWalker_0 : decode cX12_isWalker 0 = .ok (.iload_n 1, 1) := by decide +kernel
theorem dX12_isWalker_1 : decode cX12_isWalker 1 = .ok (.iconst 0, 1) := by decide +kernel
theorem dX12_isWalker_2 : decode cX12_isWalker 2 = .ok (.aload_n 0, 1) := by decide +kernel
theorem dX12_isWalker_3 : decode cX12_isWalker 3 = .ok (.getfield 23, 3) := by decide +kernel
theorem dX12_isWalker_6 : decode cX12_isWalker 6 = .ok (.iconst 2, 1) := by decide +kernel
theorem dX12_isWalker_7 : decode cX12_isWalker 7 = .ok (.iaload, 1) := by decide +kernel
theorem dX12_isWalker_8 : decode cX12_isWalker 8 = .ok (.iconst 1, 1) := by decide +kernel
theorem dX12_isWalker_9 : decode cX12_isWalker 9 = .ok (.isub, 1) := by decide +kernel
theorem dX12_isWalker_10 : decode cX12_isWalker 10 = .ok (.invokestatic 125, 3) := by decide +kernel
theorem dX12_isWalker_13 : decode cX12_isWalker 13 = .ok (.ireturn, 1) := by decide +kernel
theorem dX12_isDay_0 : decode cX12_isDay 0 = .ok (.iload_n 0, 1) := by decide +kernel
theorem dX12_isDay_1 : decode cX12_isDay 1 = .ok (.iconst 0, 1) := by decide +kernel
theorem dX12_isDay_2 : decode cX12_isDay 2 = .ok (.bipush 99, 2) := by decide +kernel
theorem dX12_isDay_4 : decode cX12_isDay 4 = .ok (.invokestatic 125, 3) := by decide +kernel
theorem dX12_isDay_7 : decode cX12_isDay 7 = .ok (.ireturn, 1) := by decide +kernel
theorem dX12_feed_0 : decode cX12_feed 0 = .ok (.aload_n 0, 1) := by decide +kernel
theorem dX12_feed_1 : decode cX12_feed 1 = .ok (.iconst 0, 1) := by decide +kernel
theorem dX12_feed_2 : decode cX12_feed 2 = .ok (.putfield 122, 3) := by decide +kernel
theorem dX12_feed_5 : decode cX12_feed 5 = .ok (.aload_n 0, 1) := by decide +kernel
theorem dX12_feed_6 : decode cX12_feed 6 = .ok (.getfield 129, 3) := by decide +kernel
theorem dX12_feed_9 : decode cX12_feed 9 = .ok (.bipush 20, 2) := by decide +kernel
theorem dX12_feed_11 : decode cX12_feed 11 = .ok (.iadd, 1) := by decide +kernel
theorem dX12_feed_12 : decode cX12_feed 12 = .ok (.sipush 500, 3) := by decide +kernel
theorem dX12_feed_15 : decode cX12_feed 15 = .ok (.if_icmp .le 5, 3) := by decide +kernel
theorem dX12_feed_18 : decode cX12_feed 18 = .ok (.iconst (-1), 1) := by decide +kernel
theorem dX12_feed_19 : decode cX12_feed 19 = .ok (.ireturn, 1) := by decide +kernel
theorem dX12_feed_20 : decode cX12_feed 20 = .ok (.iconst 0, 1) := by decide +kernel
theorem dX12_feed_21 : decode cX12_feed 21 = .ok (.istore 6, 2) := by decide +kernel
theorem dX12_feed_23 : decode cX12_feed 23 = .ok (.iload 6, 2) := by decide +kernel
theorem dX12_feed_25 : decode cX12_feed 25 = .ok (.bipush 20, 2) := by decide +kernel
theorem dX12_feed_27 : decode cX12_feed 27 = .ok (.if_icmp .ge 93, 3) := by decide +kernel
theorem dX12_feed_30 : decode cX12_feed 30 = .ok (.iload 6, 2) := by decide +kernel
theorem dX12_feed_32 : decode cX12_feed 32 = .ok (.iconst 4, 1) := by decide +kernel
theorem dX12_feed_33 : decode cX12_feed 33 = .ok (.if_icmp .ge 7, 3) := by decide +kernel
theorem dX12_feed_36 : decode cX12_feed 36 = .ok (.iload_n 1, 1) := by decide +kernel
theorem dX12_feed_37 : decode cX12_feed 37 = .ok (.goto 39, 3) := by decide +kernel
theorem dX12_feed_40 : decode cX12_feed 40 = .ok (.iload 6, 2) := by decide +kernel
theorem dX12_feed_42 : decode cX12_feed 42 = .ok (.bipush 8, 2) := by decide +kernel
theorem dX12_feed_44 : decode cX12_feed 44 = .ok (.if_icmp .ge 7, 3) := by decide +kernel
theorem dX12_feed_47 : decode cX12_feed 47 = .ok (.iload_n 2, 1) := by decide +kernel
theorem dX12_feed_48 : decode cX12_feed 48 = .ok (.goto 28, 3) := by decide +kernel
theorem dX12_feed_51 : decode cX12_feed 51 = .ok (.iload 6, 2) := by decide +kernel
theorem dX12_feed_53 : decode cX12_feed 53 = .ok (.bipush 12, 2) := by decide +kernel
theorem dX12_feed_55 : decode cX12_feed 55 = .ok (.if_icmp .ge 7, 3) := by decide +kernel
theorem dX12_feed_58 : decode cX12_feed 58 = .ok (.iload_n 3, 1) := by decide +kernel
theorem dX12_feed_59 : decode cX12_feed 59 = .ok (.goto 17, 3) := by decide +kernel
theorem dX12_feed_62 : decode cX12_feed 62 = .ok (.iload 6, 2) := by decide +kernel
theorem dX12_feed_64 : decode cX12_feed 64 = .ok (.bipush 16, 2) := by decide +kernel
theorem dX12_feed_66 : decode cX12_feed 66 = .ok (.if_icmp .ge 8, 3) := by decide +kernel
theorem dX12_feed_69 : decode cX12_feed 69 = .ok (.iload 4, 2) := by decide +kernel
theorem dX12_feed_71 : decode cX12_feed 71 = .ok (.goto 5, 3) := by decide +kernel
theorem dX12_feed_74 : decode cX12_feed 74 = .ok (.iload 5, 2) := by decide +kernel
theorem dX12_feed_76 : decode cX12_feed 76 = .ok (.istore 7, 2) := by decide +kernel
theorem dX12_feed_78 : decode cX12_feed 78 = .ok (.aload_n 0, 1) := by decide +kernel
theorem dX12_feed_79 : decode cX12_feed 79 = .ok (.getfield 63, 3) := by decide +kernel
theorem dX12_feed_82 : decode cX12_feed 82 = .ok (.aload_n 0, 1) := by decide +kernel
theorem dX12_feed_83 : decode cX12_feed 83 = .ok (.getfield 129, 3) := by decide +kernel
theorem dX12_feed_86 : decode cX12_feed 86 = .ok (.iload 7, 2) := by decide +kernel
theorem dX12_feed_88 : decode cX12_feed 88 = .ok (.bipush 24, 2) := by decide +kernel
theorem dX12_feed_90 : decode cX12_feed 90 = .ok (.bipush 8, 2) := by decide +kernel
theorem dX12_feed_92 : decode cX12_feed 92 = .ok (.iload 6, 2) := by decide +kernel
theorem dX12_feed_94 : decode cX12_feed 94 = .ok (.iconst 4, 1) := by decide +kernel
theorem dX12_feed_95 : decode cX12_feed 95 = .ok (.irem, 1) := by decide +kernel
theorem dX12_feed_96 : decode cX12_feed 96 = .ok (.imul, 1) := by decide +kernel
theorem dX12_feed_97 : decode cX12_feed 97 = .ok (.isub, 1) := by decide +kernel
theorem dX12_feed_98 : decode cX12_feed 98 = .ok (.ishr, 1) := by decide +kernel
theorem dX12_feed_99 : decode cX12_feed 99 = .ok (.sipush 255, 3) := by decide +kernel
theorem dX12_feed_102 : decode cX12_feed 102 = .ok (.iand, 1) := by decide +kernel
theorem dX12_feed_103 : decode cX12_feed 103 = .ok (.iastore, 1) := by decide +kernel
theorem dX12_feed_104 : decode cX12_feed 104 = .ok (.aload_n 0, 1) := by decide +kernel
theorem dX12_feed_105 : decode cX12_feed 105 = .ok (.dup, 1) := by decide +kernel
theorem dX12_feed_106 : decode cX12_feed 106 = .ok (.getfield 129, 3) := by decide +kernel
theorem dX12_feed_109 : decode cX12_feed 109 = .ok (.iconst 1, 1) := by decide +kernel
theorem dX12_feed_110 : decode cX12_feed 110 = .ok (.iadd, 1) := by decide +kernel
theorem dX12_feed_111 : decode cX12_feed 111 = .ok (.putfield 129, 3) := by decide +kernel
theorem dX12_feed_114 : decode cX12_feed 114 = .ok (.iinc 6 1, 3) := by decide +kernel
theorem dX12_feed_117 : decode cX12_feed 117 = .ok (.goto (-94), 3) := by decide +kernel
theorem dX12_feed_120 : decode cX12_feed 120 = .ok (.aload_n 0, 1) := by decide +kernel
theorem dX12_feed_121 : decode cX12_feed 121 = .ok (.getfield 129, 3) := by decide +kernel
theorem dX12_feed_124 : decode cX12_feed 124 = .ok (.ireturn, 1) := by decide +kernel
theorem dX12_byteAt_0 : decode cX12_byteAt 0 = .ok (.iload_n 1, 1) := by decide +kernel
theorem dX12_byteAt_1 : decode cX12_byteAt 1 = .ok (.aload_n 0, 1) := by decide +kernel
theorem dX12_byteAt_2 : decode cX12_byteAt 2 = .ok (.getfield 132, 3) := by decide +kernel
theorem dX12_byteAt_5 : decode cX12_byteAt 5 = .ok (.if_icmp .ge 12, 3) := by decide +kernel
theorem dX12_byteAt_8 : decode cX12_byteAt 8 = .ok (.aload_n 0, 1) := by decide +kernel
theorem dX12_byteAt_9 : decode cX12_byteAt 9 = .ok (.getfield 63, 3) := by decide +kernel
theorem dX12_byteAt_12 : decode cX12_byteAt 12 = .ok (.iload_n 1, 1) := by decide +kernel
theorem dX12_byteAt_13 : decode cX12_byteAt 13 = .ok (.iaload, 1) := by decide +kernel
theorem dX12_byteAt_14 : decode cX12_byteAt 14 = .ok (.goto 4, 3) := by decide +kernel
theorem dX12_byteAt_17 : decode cX12_byteAt 17 = .ok (.iconst (-1), 1) := by decide +kernel
theorem dX12_byteAt_18 : decode cX12_byteAt 18 = .ok (.ireturn, 1) := by decide +kernel
theorem dX12_isLetter_0 : decode cX12_isLetter 0 = .ok (.iload_n 0, 1) := by decide +kernel
theorem dX12_isLetter_1 : decode cX12_isLetter 1 = .ok (.bipush 97, 2) := by decide +kernel
theorem dX12_isLetter_3 : decode cX12_isLetter 3 = .ok (.if_icmp .lt 13, 3) := by decide +kernel
theorem dX12_isLetter_6 : decode cX12_isLetter 6 = .ok (.iload_n 0, 1) := by decide +kernel
theorem dX12_isLetter_7 : decode cX12_isLetter 7 = .ok (.bipush 122, 2) := by decide +kernel
theorem dX12_isLetter_9 : decode cX12_isLetter 9 = .ok (.if_icmp .gt 7, 3) := by decide +kernel
theorem dX12_isLetter_12 : decode cX12_isLetter 12 = .ok (.iconst 1, 1) := by decide +kernel
theorem dX12_isLetter_13 : decode cX12_isLetter 13 = .ok (.goto 4, 3) := by decide +kernel
theorem dX12_isLetter_16 : decode cX12_isLetter 16 = .ok (.iconst 0, 1) := by decide +kernel
theorem dX12_isLetter_17 : decode cX12_isLetter 17 = .ok (.ireturn, 1) := by decide +kernel
theorem dX12_isDigit_0 : decode cX12_isDigit 0 = .ok (.iload_n 0, 1) := by decide +kernel
theorem dX12_isDigit_1 : decode cX12_isDigit 1 = .ok (.bipush 48, 2) := by decide +kernel
theorem dX12_isDigit_3 : decode cX12_isDigit 3 = .ok (.if_icmp .lt 13, 3) := by decide +kernel
theorem dX12_isDigit_6 : decode cX12_isDigit 6 = .ok (.iload_n 0, 1) := by decide +kernel
theorem dX12_isDigit_7 : decode cX12_isDigit 7 = .ok (.bipush 57, 2) := by decide +kernel
theorem dX12_isDigit_9 : decode cX12_isDigit 9 = .ok (.if_icmp .gt 7, 3) := by decide +kernel
theorem dX12_isDigit_12 : decode cX12_isDigit 12 = .ok (.iconst 1, 1) := by decide +kernel
theorem dX12_isDigit_13 : decode cX12_isDigit 13 = .ok (.goto 4, 3) := by decide +kernel
theorem dX12_isDigit_16 : decode cX12_isDigit 16 = .ok (.iconst 0, 1) := by decide +kernel
theorem dX12_isDigit_17 : decode cX12_isDigit 17 = .ok (.ireturn, 1) := by decide +kernel
theorem dX12_stepOn_0 : decode cX12_stepOn 0 = .ok (.aload_n 0, 1) := by decide +kernel
theorem dX12_stepOn_1 : decode cX12_stepOn 1 = .ok (.aload_n 0, 1) := by decide +kernel
theorem dX12_stepOn_2 : decode cX12_stepOn 2 = .ok (.getfield 135, 3) := by decide +kernel
theorem dX12_stepOn_5 : decode cX12_stepOn 5 = .ok (.invokevirtual 138, 3) := by decide +kernel
theorem dX12_stepOn_8 : decode cX12_stepOn 8 = .ok (.bipush 32, 2) := by decide +kernel
theorem dX12_stepOn_10 : decode cX12_stepOn 10 = .ok (.if_icmp .eq 16, 3) := by decide +kernel
theorem dX12_stepOn_13 : decode cX12_stepOn 13 = .ok (.aload_n 0, 1) := by decide +kernel
theorem dX12_stepOn_14 : decode cX12_stepOn 14 = .ok (.aload_n 0, 1) := by decide +kernel
theorem dX12_stepOn_15 : decode cX12_stepOn 15 = .ok (.getfield 135, 3) := by decide +kernel
theorem dX12_stepOn_18 : decode cX12_stepOn 18 = .ok (.invokevirtual 138, 3) := by decide +kernel
theorem dX12_stepOn_21 : decode cX12_stepOn 21 = .ok (.bipush 10, 2) := by decide +kernel
theorem dX12_stepOn_23 : decode cX12_stepOn 23 = .ok (.if_icmp .ne 16, 3) := by decide +kernel
theorem dX12_stepOn_26 : decode cX12_stepOn 26 = .ok (.aload_n 0, 1) := by decide +kernel
theorem dX12_stepOn_27 : decode cX12_stepOn 27 = .ok (.dup, 1) := by decide +kernel
theorem dX12_stepOn_28 : decode cX12_stepOn 28 = .ok (.getfield 135, 3) := by decide +kernel
theorem dX12_stepOn_31 : decode cX12_stepOn 31 = .ok (.iconst 1, 1) := by decide +kernel
theorem dX12_stepOn_32 : decode cX12_stepOn 32 = .ok (.iadd, 1) := by decide +kernel
theorem dX12_stepOn_33 : decode cX12_stepOn 33 = .ok (.putfield 135, 3) := by decide +kernel
theorem dX12_stepOn_36 : decode cX12_stepOn 36 = .ok (.goto (-36), 3) := by decide +kernel
theorem dX12_stepOn_39 : decode cX12_stepOn 39 = .ok (.aload_n 0, 1) := by decide +kernel
theorem dX12_stepOn_40 : decode cX12_stepOn 40 = .ok (.aload_n 0, 1) := by decide +kernel
theorem dX12_stepOn_41 : decode cX12_stepOn 41 = .ok (.getfield 135, 3) := by decide +kernel
theorem dX12_stepOn_44 : decode cX12_stepOn 44 = .ok (.putfield 142, 3) := by decide +kernel
theorem dX12_stepOn_47 : decode cX12_stepOn 47 = .ok (.aload_n 0, 1) := by decide +kernel
theorem dX12_stepOn_48 : decode cX12_stepOn 48 = .ok (.aload_n 0, 1) := by decide +kernel
theorem dX12_stepOn_49 : decode cX12_stepOn 49 = .ok (.getfield 135, 3) := by decide +kernel
theorem dX12_stepOn_52 : decode cX12_stepOn 52 = .ok (.invokevirtual 138, 3) := by decide +kernel
theorem dX12_stepOn_55 : decode cX12_stepOn 55 = .ok (.istore_n 1, 1) := by decide +kernel
theorem dX12_stepOn_56 : decode cX12_stepOn 56 = .ok (.iload_n 1, 1) := by decide +kernel
theorem dX12_stepOn_57 : decode cX12_stepOn 57 = .ok (.iconst (-1), 1) := by decide +kernel
theorem dX12_stepOn_58 : decode cX12_stepOn 58 = .ok (.if_icmp .ne 11, 3) := by decide +kernel
theorem dX12_stepOn_61 : decode cX12_stepOn 61 = .ok (.aload_n 0, 1) := by decide +kernel
theorem dX12_stepOn_62 : decode cX12_stepOn 62 = .ok (.iconst 0, 1) := by decide +kernel
theorem dX12_stepOn_63 : decode cX12_stepOn 63 = .ok (.putfield 145, 3) := by decide +kernel
theorem dX12_stepOn_66 : decode cX12_stepOn 66 = .ok (.goto 146, 3) := by decide +kernel
theorem dX12_stepOn_69 : decode cX12_stepOn 69 = .ok (.iload_n 1, 1) := by decide +kernel
theorem dX12_stepOn_70 : decode cX12_stepOn 70 = .ok (.invokestatic 148, 3) := by decide +kernel
theorem dX12_stepOn_73 : decode cX12_stepOn 73 = .ok (.ifCond .eq 38, 3) := by decide +kernel
theorem dX12_stepOn_76 : decode cX12_stepOn 76 = .ok (.aload_n 0, 1) := by decide +kernel
theorem dX12_stepOn_77 : decode cX12_stepOn 77 = .ok (.aload_n 0, 1) := by decide +kernel
theorem dX12_stepOn_78 : decode cX12_stepOn 78 = .ok (.getfield 135, 3) := by decide +kernel
theorem dX12_stepOn_81 : decode cX12_stepOn 81 = .ok (.invokevirtual 138, 3) := by decide +kernel
theorem dX12_stepOn_84 : decode cX12_stepOn 84 = .ok (.invokestatic 148, 3) := by decide +kernel
theorem dX12_stepOn_87 : decode cX12_stepOn 87 = .ok (.ifCond .eq 16, 3) := by decide +kernel
theorem dX12_stepOn_90 : decode cX12_stepOn 90 = .ok (.aload_n 0, 1) := by decide +kernel
theorem dX12_stepOn_91 : decode cX12_stepOn 91 = .ok (.dup, 1) := by decide +kernel
theorem dX12_stepOn_92 : decode cX12_stepOn 92 = .ok (.getfield 135, 3) := by decide +kernel
theorem dX12_stepOn_95 : decode cX12_stepOn 95 = .ok (.iconst 1, 1) := by decide +kernel
theorem dX12_stepOn_96 : decode cX12_stepOn 96 = .ok (.iadd, 1) := by decide +kernel
theorem dX12_stepOn_97 : decode cX12_stepOn 97 = .ok (.putfield 135, 3) := by decide +kernel
theorem dX12_stepOn_100 : decode cX12_stepOn 100 = .ok (.goto (-24), 3) := by decide +kernel
theorem dX12_stepOn_103 : decode cX12_stepOn 103 = .ok (.aload_n 0, 1) := by decide +kernel
theorem dX12_stepOn_104 : decode cX12_stepOn 104 = .ok (.iconst 1, 1) := by decide +kernel
theorem dX12_stepOn_105 : decode cX12_stepOn 105 = .ok (.putfield 145, 3) := by decide +kernel
theorem dX12_stepOn_108 : decode cX12_stepOn 108 = .ok (.goto 104, 3) := by decide +kernel
theorem dX12_stepOn_111 : decode cX12_stepOn 111 = .ok (.iload_n 1, 1) := by decide +kernel
theorem dX12_stepOn_112 : decode cX12_stepOn 112 = .ok (.invokestatic 152, 3) := by decide +kernel
theorem dX12_stepOn_115 : decode cX12_stepOn 115 = .ok (.ifCond .eq 72, 3) := by decide +kernel
theorem dX12_stepOn_118 : decode cX12_stepOn 118 = .ok (.aload_n 0, 1) := by decide +kernel
theorem dX12_stepOn_119 : decode cX12_stepOn 119 = .ok (.iconst 0, 1) := by decide +kernel
theorem dX12_stepOn_120 : decode cX12_stepOn 120 = .ok (.putfield 155, 3) := by decide +kernel
theorem dX12_stepOn_123 : decode cX12_stepOn 123 = .ok (.aload_n 0, 1) := by decide +kernel
theorem dX12_stepOn_124 : decode cX12_stepOn 124 = .ok (.aload_n 0, 1) := by decide +kernel
theorem dX12_stepOn_125 : decode cX12_stepOn 125 = .ok (.getfield 135, 3) := by decide +kernel
theorem dX12_stepOn_128 : decode cX12_stepOn 128 = .ok (.invokevirtual 138, 3) := by decide +kernel
theorem dX12_stepOn_131 : decode cX12_stepOn 131 = .ok (.invokestatic 152, 3) := by decide +kernel
theorem dX12_stepOn_134 : decode cX12_stepOn 134 = .ok (.ifCond .eq 45, 3) := by decide +kernel
theorem dX12_stepOn_137 : decode cX12_stepOn 137 = .ok (.aload_n 0, 1) := by decide +kernel
theorem dX12_stepOn_138 : decode cX12_stepOn 138 = .ok (.sipush 10000, 3) := by decide +kernel
theorem dX12_stepOn_141 : decode cX12_stepOn 141 = .ok (.bipush 10, 2) := by decide +kernel
theorem dX12_stepOn_143 : decode cX12_stepOn 143 = .ok (.aload_n 0, 1) := by decide +kernel
theorem dX12_stepOn_144 : decode cX12_stepOn 144 = .ok (.getfield 155, 3) := by decide +kernel
theorem dX12_stepOn_147 : decode cX12_stepOn 147 = .ok (.imul, 1) := by decide +kernel
theorem dX12_stepOn_148 : decode cX12_stepOn 148 = .ok (.aload_n 0, 1) := by decide +kernel
theorem dX12_stepOn_149 : decode cX12_stepOn 149 = .ok (.aload_n 0, 1) := by decide +kernel
theorem dX12_stepOn_150 : decode cX12_stepOn 150 = .ok (.getfield 135, 3) := by decide +kernel
theorem dX12_stepOn_153 : decode cX12_stepOn 153 = .ok (.invokevirtual 138, 3) := by decide +kernel
theorem dX12_stepOn_156 : decode cX12_stepOn 156 = .ok (.iadd, 1) := by decide +kernel
theorem dX12_stepOn_157 : decode cX12_stepOn 157 = .ok (.bipush 48, 2) := by decide +kernel
theorem dX12_stepOn_159 : decode cX12_stepOn 159 = .ok (.isub, 1) := by decide +kernel
theorem dX12_stepOn_160 : decode cX12_stepOn 160 = .ok (.invokestatic 158, 3) := by decide +kernel
theorem dX12_stepOn_163 : decode cX12_stepOn 163 = .ok (.putfield 155, 3) := by decide +kernel
theorem dX12_stepOn_166 : decode cX12_stepOn 166 = .ok (.aload_n 0, 1) := by decide +kernel
theorem dX12_stepOn_167 : decode cX12_stepOn 167 = .ok (.dup, 1) := by decide +kernel
theorem dX12_stepOn_168 : decode cX12_stepOn 168 = .ok (.getfield 135, 3) := by decide +kernel
theorem dX12_stepOn_171 : decode cX12_stepOn 171 = .ok (.iconst 1, 1) := by decide +kernel
theorem dX12_stepOn_172 : decode cX12_stepOn 172 = .ok (.iadd, 1) := by decide +kernel
theorem dX12_stepOn_173 : decode cX12_stepOn 173 = .ok (.putfield 135, 3) := by decide +kernel
theorem dX12_stepOn_176 : decode cX12_stepOn 176 = .ok (.goto (-53), 3) := by decide +kernel
theorem dX12_stepOn_179 : decode cX12_stepOn 179 = .ok (.aload_n 0, 1) := by decide +kernel
theorem dX12_stepOn_180 : decode cX12_stepOn 180 = .ok (.iconst 2, 1) := by decide +kernel
theorem dX12_stepOn_181 : decode cX12_stepOn 181 = .ok (.putfield 145, 3) := by decide +kernel
theorem dX12_stepOn_184 : decode cX12_stepOn 184 = .ok (.goto 28, 3) := by decide +kernel
theorem dX12_stepOn_187 : decode cX12_stepOn 187 = .ok (.aload_n 0, 1) := by decide +kernel
theorem dX12_stepOn_188 : decode cX12_stepOn 188 = .ok (.dup, 1) := by decide +kernel
theorem dX12_stepOn_189 : decode cX12_stepOn 189 = .ok (.getfield 135, 3) := by decide +kernel
theorem dX12_stepOn_192 : decode cX12_stepOn 192 = .ok (.iconst 1, 1) := by decide +kernel
theorem dX12_stepOn_193 : decode cX12_stepOn 193 = .ok (.iadd, 1) := by decide +kernel
theorem dX12_stepOn_194 : decode cX12_stepOn 194 = .ok (.putfield 135, 3) := by decide +kernel
theorem dX12_stepOn_197 : decode cX12_stepOn 197 = .ok (.aload_n 0, 1) := by decide +kernel
theorem dX12_stepOn_198 : decode cX12_stepOn 198 = .ok (.iload_n 1, 1) := by decide +kernel
theorem dX12_stepOn_199 : decode cX12_stepOn 199 = .ok (.bipush 59, 2) := by decide +kernel
theorem dX12_stepOn_201 : decode cX12_stepOn 201 = .ok (.if_icmp .ne 7, 3) := by decide +kernel
theorem dX12_stepOn_204 : decode cX12_stepOn 204 = .ok (.iconst 3, 1) := by decide +kernel
theorem dX12_stepOn_205 : decode cX12_stepOn 205 = .ok (.goto 4, 3) := by decide +kernel
theorem dX12_stepOn_208 : decode cX12_stepOn 208 = .ok (.iconst 4, 1) := by decide +kernel
theorem dX12_stepOn_209 : decode cX12_stepOn 209 = .ok (.putfield 145, 3) := by decide +kernel
theorem dX12_stepOn_212 : decode cX12_stepOn 212 = .ok (.aload_n 0, 1) := by decide +kernel
theorem dX12_stepOn_213 : decode cX12_stepOn 213 = .ok (.aload_n 0, 1) := by decide +kernel
theorem dX12_stepOn_214 : decode cX12_stepOn 214 = .ok (.getfield 135, 3) := by decide +kernel
theorem dX12_stepOn_217 : decode cX12_stepOn 217 = .ok (.putfield 164, 3) := by decide +kernel
theorem dX12_stepOn_220 : decode cX12_stepOn 220 = .ok (.return_, 1) := by decide +kernel
theorem dX12_wrong_0 : decode cX12_wrong 0 = .ok (.aload_n 0, 1) := by decide +kernel
theorem dX12_wrong_1 : decode cX12_wrong 1 = .ok (.getfield 167, 3) := by decide +kernel
theorem dX12_wrong_4 : decode cX12_wrong 4 = .ok (.ifCond .eq 4, 3) := by decide +kernel
theorem dX12_wrong_7 : decode cX12_wrong 7 = .ok (.return_, 1) := by decide +kernel
theorem dX12_wrong_8 : decode cX12_wrong 8 = .ok (.aload_n 0, 1) := by decide +kernel
theorem dX12_wrong_9 : decode cX12_wrong 9 = .ok (.iload_n 1, 1) := by decide +kernel
theorem dX12_wrong_10 : decode cX12_wrong 10 = .ok (.putfield 167, 3) := by decide +kernel
theorem dX12_wrong_13 : decode cX12_wrong 13 = .ok (.aload_n 0, 1) := by decide +kernel
theorem dX12_wrong_14 : decode cX12_wrong 14 = .ok (.aload_n 0, 1) := by decide +kernel
theorem dX12_wrong_15 : decode cX12_wrong 15 = .ok (.getfield 142, 3) := by decide +kernel
theorem dX12_wrong_18 : decode cX12_wrong 18 = .ok (.putfield 170, 3) := by decide +kernel
theorem dX12_wrong_21 : decode cX12_wrong 21 = .ok (.return_, 1) := by decide +kernel
theorem dX12_is_0 : decode cX12_is 0 = .ok (.aload_n 0, 1) := by decide +kernel
theorem dX12_is_1 : decode cX12_is 1 = .ok (.getfield 167, 3) := by decide +kernel
theorem dX12_is_4 : decode cX12_is 4 = .ok (.ifCond .ne 31, 3) := by decide +kernel
theorem dX12_is_7 : decode cX12_is 7 = .ok (.aload_n 0, 1) := by decide +kernel
theorem dX12_is_8 : decode cX12_is 8 = .ok (.getfield 145, 3) := by decide +kernel
theorem dX12_is_11 : decode cX12_is 11 = .ok (.iconst 1, 1) := by decide +kernel
theorem dX12_is_12 : decode cX12_is 12 = .ok (.if_icmp .ne 23, 3) := by decide +kernel
theorem dX12_is_15 : decode cX12_is 15 = .ok (.aload_n 1, 1) := by decide +kernel
theorem dX12_is_16 : decode cX12_is 16 = .ok (.invokevirtual 173, 3) := by decide +kernel
theorem dX12_is_19 : decode cX12_is 19 = .ok (.aload_n 0, 1) := by decide +kernel
theorem dX12_is_20 : decode cX12_is 20 = .ok (.getfield 164, 3) := by decide +kernel
theorem dX12_is_23 : decode cX12_is 23 = .ok (.aload_n 0, 1) := by decide +kernel
theorem dX12_is_24 : decode cX12_is 24 = .ok (.getfield 142, 3) := by decide +kernel
theorem dX12_is_27 : decode cX12_is 27 = .ok (.isub, 1) := by decide +kernel
theorem dX12_is_28 : decode cX12_is 28 = .ok (.if_icmp .ne 7, 3) := by decide +kernel
theorem dX12_is_31 : decode cX12_is 31 = .ok (.iconst 1, 1) := by decide +kernel
theorem dX12_is_32 : decode cX12_is 32 = .ok (.goto 4, 3) := by decide +kernel
theorem dX12_is_35 : decode cX12_is 35 = .ok (.iconst 0, 1) := by decide +kernel
theorem dX12_is_36 : decode cX12_is 36 = .ok (.istore_n 2, 1) := by decide +kernel
theorem dX12_is_37 : decode cX12_is 37 = .ok (.iconst 0, 1) := by decide +kernel
theorem dX12_is_38 : decode cX12_is 38 = .ok (.istore_n 3, 1) := by decide +kernel
theorem dX12_is_39 : decode cX12_is 39 = .ok (.iload_n 2, 1) := by decide +kernel
theorem dX12_is_40 : decode cX12_is 40 = .ok (.ifCond .eq 42, 3) := by decide +kernel
theorem dX12_is_43 : decode cX12_is 43 = .ok (.iload_n 3, 1) := by decide +kernel
theorem dX12_is_44 : decode cX12_is 44 = .ok (.aload_n 1, 1) := by decide +kernel
theorem dX12_is_45 : decode cX12_is 45 = .ok (.invokevirtual 173, 3) := by decide +kernel
theorem dX12_is_48 : decode cX12_is 48 = .ok (.if_icmp .ge 34, 3) := by decide +kernel
theorem dX12_is_51 : decode cX12_is 51 = .ok (.aload_n 1, 1) := by decide +kernel
theorem dX12_is_52 : decode cX12_is 52 = .ok (.iload_n 3, 1) := by decide +kernel
theorem dX12_is_53 : decode cX12_is 53 = .ok (.invokevirtual 176, 3) := by decide +kernel
theorem dX12_is_56 : decode cX12_is 56 = .ok (.aload_n 0, 1) := by decide +kernel
theorem dX12_is_57 : decode cX12_is 57 = .ok (.getfield 63, 3) := by decide +kernel
theorem dX12_is_60 : decode cX12_is 60 = .ok (.aload_n 0, 1) := by decide +kernel
theorem dX12_is_61 : decode cX12_is 61 = .ok (.getfield 142, 3) := by decide +kernel
theorem dX12_is_64 : decode cX12_is 64 = .ok (.iload_n 3, 1) := by decide +kernel
theorem dX12_is_65 : decode cX12_is 65 = .ok (.iadd, 1) := by decide +kernel
theorem dX12_is_66 : decode cX12_is 66 = .ok (.iaload, 1) := by decide +kernel
theorem dX12_is_67 : decode cX12_is 67 = .ok (.if_icmp .ne 7, 3) := by decide +kernel
theorem dX12_is_70 : decode cX12_is 70 = .ok (.iconst 1, 1) := by decide +kernel
theorem dX12_is_71 : decode cX12_is 71 = .ok (.goto 4, 3) := by decide +kernel
theorem dX12_is_74 : decode cX12_is 74 = .ok (.iconst 0, 1) := by decide +kernel
theorem dX12_is_75 : decode cX12_is 75 = .ok (.istore_n 2, 1) := by decide +kernel
theorem dX12_is_76 : decode cX12_is 76 = .ok (.iinc 3 1, 3) := by decide +kernel
theorem dX12_is_79 : decode cX12_is 79 = .ok (.goto (-40), 3) := by decide +kernel
theorem dX12_is_82 : decode cX12_is 82 = .ok (.iload_n 2, 1) := by decide +kernel
theorem dX12_is_83 : decode cX12_is 83 = .ok (.ireturn, 1) := by decide +kernel
theorem dX12_numberNow_0 : decode cX12_numberNow 0 = .ok (.aload_n 0, 1) := by decide +kernel
theorem dX12_numberNow_1 : decode cX12_numberNow 1 = .ok (.getfield 167, 3) := by decide +kernel
theorem dX12_numberNow_4 : decode cX12_numberNow 4 = .ok (.ifCond .eq 5, 3) := by decide +kernel
theorem dX12_numberNow_7 : decode cX12_numberNow 7 = .ok (.iconst 0, 1) := by decide +kernel
theorem dX12_numberNow_8 : decode cX12_numberNow 8 = .ok (.ireturn, 1) := by decide +kernel
theorem dX12_numberNow_9 : decode cX12_numberNow 9 = .ok (.aload_n 0, 1) := by decide +kernel
theorem dX12_numberNow_10 : decode cX12_numberNow 10 = .ok (.getfield 145, 3) := by decide +kernel
theorem dX12_numberNow_13 : decode cX12_numberNow 13 = .ok (.iconst 2, 1) := by decide +kernel
theorem dX12_numberNow_14 : decode cX12_numberNow 14 = .ok (.if_icmp .eq 11, 3) := by decide +kernel
theorem dX12_numberNow_17 : decode cX12_numberNow 17 = .ok (.aload_n 0, 1) := by decide +kernel
theorem dX12_numberNow_18 : decode cX12_numberNow 18 = .ok (.iconst 1, 1) := by decide +kernel
theorem dX12_numberNow_19 : decode cX12_numberNow 19 = .ok (.invokevirtual 180, 3) := by decide +kernel
theorem dX12_numberNow_22 : decode cX12_numberNow 22 = .ok (.goto 37, 3) := by decide +kernel
theorem dX12_numberNow_25 : decode cX12_numberNow 25 = .ok (.aload_n 0, 1) := by decide +kernel
theorem dX12_numberNow_26 : decode cX12_numberNow 26 = .ok (.getfield 164, 3) := by decide +kernel
theorem dX12_numberNow_29 : decode cX12_numberNow 29 = .ok (.aload_n 0, 1) := by decide +kernel
theorem dX12_numberNow_30 : decode cX12_numberNow 30 = .ok (.getfield 142, 3) := by decide +kernel
theorem dX12_numberNow_33 : decode cX12_numberNow 33 = .ok (.isub, 1) := by decide +kernel
theorem dX12_numberNow_34 : decode cX12_numberNow 34 = .ok (.iconst 3, 1) := by decide +kernel
theorem dX12_numberNow_35 : decode cX12_numberNow 35 = .ok (.if_icmp .gt 19, 3) := by decide +kernel
theorem dX12_numberNow_38 : decode cX12_numberNow 38 = .ok (.aload_n 0, 1) := by decide +kernel
theorem dX12_numberNow_39 : decode cX12_numberNow 39 = .ok (.getfield 155, 3) := by decide +kernel
theorem dX12_numberNow_42 : decode cX12_numberNow 42 = .ok (.iload_n 1, 1) := by decide +kernel
theorem dX12_numberNow_43 : decode cX12_numberNow 43 = .ok (.if_icmp .lt 11, 3) := by decide +kernel
theorem dX12_numberNow_46 : decode cX12_numberNow 46 = .ok (.aload_n 0, 1) := by decide +kernel
theorem dX12_numberNow_47 : decode cX12_numberNow 47 = .ok (.getfield 155, 3) := by decide +kernel
theorem dX12_numberNow_50 : decode cX12_numberNow 50 = .ok (.iload_n 2, 1) := by decide +kernel
theorem dX12_numberNow_51 : decode cX12_numberNow 51 = .ok (.if_icmp .le 8, 3) := by decide +kernel
theorem dX12_numberNow_54 : decode cX12_numberNow 54 = .ok (.aload_n 0, 1) := by decide +kernel
theorem dX12_numberNow_55 : decode cX12_numberNow 55 = .ok (.iconst 2, 1) := by decide +kernel
theorem dX12_numberNow_56 : decode cX12_numberNow 56 = .ok (.invokevirtual 180, 3) := by decide +kernel
theorem dX12_numberNow_59 : decode cX12_numberNow 59 = .ok (.aload_n 0, 1) := by decide +kernel
theorem dX12_numberNow_60 : decode cX12_numberNow 60 = .ok (.getfield 167, 3) := by decide +kernel
theorem dX12_numberNow_63 : decode cX12_numberNow 63 = .ok (.ifCond .ne 10, 3) := by decide +kernel
theorem dX12_numberNow_66 : decode cX12_numberNow 66 = .ok (.aload_n 0, 1) := by decide +kernel
theorem dX12_numberNow_67 : decode cX12_numberNow 67 = .ok (.getfield 155, 3) := by decide +kernel
theorem dX12_numberNow_70 : decode cX12_numberNow 70 = .ok (.goto 4, 3) := by decide +kernel
theorem dX12_numberNow_73 : decode cX12_numberNow 73 = .ok (.iconst 0, 1) := by decide +kernel
theorem dX12_numberNow_74 : decode cX12_numberNow 74 = .ok (.ireturn, 1) := by decide +kernel
theorem dX12_readNumber_0 : decode cX12_readNumber 0 = .ok (.aload_n 0, 1) := by decide +kernel
theorem dX12_readNumber_1 : decode cX12_readNumber 1 = .ok (.iload_n 1, 1) := by decide +kernel
theorem dX12_readNumber_2 : decode cX12_readNumber 2 = .ok (.iload_n 2, 1) := by decide +kernel
theorem dX12_readNumber_3 : decode cX12_readNumber 3 = .ok (.invokevirtual 184, 3) := by decide +kernel
theorem dX12_readNumber_6 : decode cX12_readNumber 6 = .ok (.istore_n 3, 1) := by decide +kernel
theorem dX12_readNumber_7 : decode cX12_readNumber 7 = .ok (.aload_n 0, 1) := by decide +kernel
theorem dX12_readNumber_8 : decode cX12_readNumber 8 = .ok (.getfield 167, 3) := by decide +kernel
theorem dX12_readNumber_11 : decode cX12_readNumber 11 = .ok (.ifCond .ne 7, 3) := by decide +kernel
theorem dX12_readNumber_14 : decode cX12_readNumber 14 = .ok (.aload_n 0, 1) := by decide +kernel
theorem dX12_readNumber_15 : decode cX12_readNumber 15 = .ok (.invokevirtual 187, 3) := by decide +kernel
theorem dX12_readNumber_18 : decode cX12_readNumber 18 = .ok (.iload_n 3, 1) := by decide +kernel
theorem dX12_readNumber_19 : decode cX12_readNumber 19 = .ok (.ireturn, 1) := by decide +kernel
theorem dX12_open_0 : decode cX12_open 0 = .ok (.aload_n 0, 1) := by decide +kernel
theorem dX12_open_1 : decode cX12_open 1 = .ok (.getfield 23, 3) := by decide +kernel
theorem dX12_open_4 : decode cX12_open 4 = .ok (.bipush 6, 2) := by decide +kernel
theorem dX12_open_6 : decode cX12_open 6 = .ok (.iload_n 1, 1) := by decide +kernel
theorem dX12_open_7 : decode cX12_open 7 = .ok (.iadd, 1) := by decide +kernel
theorem dX12_open_8 : decode cX12_open 8 = .ok (.iaload, 1) := by decide +kernel
theorem dX12_open_9 : decode cX12_open 9 = .ok (.iload_n 2, 1) := by decide +kernel
theorem dX12_open_10 : decode cX12_open 10 = .ok (.if_icmp .ne 8, 3) := by decide +kernel
theorem dX12_open_13 : decode cX12_open 13 = .ok (.aload_n 0, 1) := by decide +kernel
theorem dX12_open_14 : decode cX12_open 14 = .ok (.iconst 2, 1) := by decide +kernel
theorem dX12_open_15 : decode cX12_open 15 = .ok (.invokevirtual 180, 3) := by decide +kernel
theorem dX12_open_18 : decode cX12_open 18 = .ok (.aload_n 0, 1) := by decide +kernel
theorem dX12_open_19 : decode cX12_open 19 = .ok (.getfield 167, 3) := by decide +kernel
theorem dX12_open_22 : decode cX12_open 22 = .ok (.ifCond .eq 5, 3) := by decide +kernel
theorem dX12_open_25 : decode cX12_open 25 = .ok (.iconst 0, 1) := by decide +kernel
theorem dX12_open_26 : decode cX12_open 26 = .ok (.ireturn, 1) := by decide +kernel
theorem dX12_open_27 : decode cX12_open 27 = .ok (.aload_n 0, 1) := by decide +kernel
theorem dX12_open_28 : decode cX12_open 28 = .ok (.invokevirtual 187, 3) := by decide +kernel
theorem dX12_open_31 : decode cX12_open 31 = .ok (.iconst 1, 1) := by decide +kernel
theorem dX12_open_32 : decode cX12_open 32 = .ok (.ireturn, 1) := by decide +kernel
theorem dX12_readCase_0 : decode cX12_readCase 0 = .ok (.aload_n 0, 1) := by decide +kernel
theorem dX12_readCase_1 : decode cX12_readCase 1 = .ok (.iconst 1, 1) := by decide +kernel
theorem dX12_readCase_2 : decode cX12_readCase 2 = .ok (.bipush 7, 2) := by decide +kernel
theorem dX12_readCase_4 : decode cX12_readCase 4 = .ok (.invokevirtual 190, 3) := by decide +kernel
theorem dX12_readCase_7 : decode cX12_readCase 7 = .ok (.ifCond .ne 4, 3) := by decide +kernel
theorem dX12_readCase_10 : decode cX12_readCase 10 = .ok (.return_, 1) := by decide +kernel
theorem dX12_readCase_11 : decode cX12_readCase 11 = .ok (.bipush 7, 2) := by decide +kernel
theorem dX12_readCase_13 : decode cX12_readCase 13 = .ok (.aload_n 0, 1) := by decide +kernel
theorem dX12_readCase_14 : decode cX12_readCase 14 = .ok (.getfield 23, 3) := by decide +kernel
theorem dX12_readCase_17 : decode cX12_readCase 17 = .ok (.bipush 7, 2) := by decide +kernel
theorem dX12_readCase_19 : decode cX12_readCase 19 = .ok (.iaload, 1) := by decide +kernel
theorem dX12_readCase_20 : decode cX12_readCase 20 = .ok (.iadd, 1) := by decide +kernel
theorem dX12_readCase_21 : decode cX12_readCase 21 = .ok (.istore_n 1, 1) := by decide +kernel
theorem dX12_readCase_22 : decode cX12_readCase 22 = .ok (.aload_n 0, 1) := by decide +kernel
theorem dX12_readCase_23 : decode cX12_readCase 23 = .ok (.getfield 30, 3) := by decide +kernel
theorem dX12_readCase_26 : decode cX12_readCase 26 = .ok (.iload_n 1, 1) := by decide +kernel
theorem dX12_readCase_27 : decode cX12_readCase 27 = .ok (.aload_n 0, 1) := by decide +kernel
theorem dX12_readCase_28 : decode cX12_readCase 28 = .ok (.iconst 0, 1) := by decide +kernel
theorem dX12_readCase_29 : decode cX12_readCase 29 = .ok (.iconst 1, 1) := by decide +kernel
theorem dX12_readCase_30 : decode cX12_readCase 30 = .ok (.invokevirtual 194, 3) := by decide +kernel
theorem dX12_readCase_33 : decode cX12_readCase 33 = .ok (.iastore, 1) := by decide +kernel
theorem dX12_readCase_34 : decode cX12_readCase 34 = .ok (.aload_n 0, 1) := by decide +kernel
theorem dX12_readCase_35 : decode cX12_readCase 35 = .ok (.getfield 33, 3) := by decide +kernel
theorem dX12_readCase_38 : decode cX12_readCase 38 = .ok (.iload_n 1, 1) := by decide +kernel
theorem dX12_readCase_39 : decode cX12_readCase 39 = .ok (.aload_n 0, 1) := by decide +kernel
theorem dX12_readCase_40 : decode cX12_readCase 40 = .ok (.iconst 1, 1) := by decide +kernel
theorem dX12_readCase_41 : decode cX12_readCase 41 = .ok (.bipush 9, 2) := by decide +kernel
theorem dX12_readCase_43 : decode cX12_readCase 43 = .ok (.invokevirtual 194, 3) := by decide +kernel
theorem dX12_readCase_46 : decode cX12_readCase 46 = .ok (.iastore, 1) := by decide +kernel
theorem dX12_readCase_47 : decode cX12_readCase 47 = .ok (.aload_n 0, 1) := by decide +kernel
theorem dX12_readCase_48 : decode cX12_readCase 48 = .ok (.getfield 36, 3) := by decide +kernel
theorem dX12_readCase_51 : decode cX12_readCase 51 = .ok (.iload_n 1, 1) := by decide +kernel
theorem dX12_readCase_52 : decode cX12_readCase 52 = .ok (.iconst 0, 1) := by decide +kernel
theorem dX12_readCase_53 : decode cX12_readCase 53 = .ok (.iastore, 1) := by decide +kernel
theorem dX12_readCase_54 : decode cX12_readCase 54 = .ok (.aload_n 0, 1) := by decide +kernel
theorem dX12_readCase_55 : decode cX12_readCase 55 = .ok (.iconst 0, 1) := by decide +kernel
theorem dX12_readCase_56 : decode cX12_readCase 56 = .ok (.sipush 999, 3) := by decide +kernel
theorem dX12_readCase_59 : decode cX12_readCase 59 = .ok (.invokevirtual 184, 3) := by decide +kernel
theorem dX12_readCase_62 : decode cX12_readCase 62 = .ok (.istore_n 2, 1) := by decide +kernel
theorem dX12_readCase_63 : decode cX12_readCase 63 = .ok (.aload_n 0, 1) := by decide +kernel
theorem dX12_readCase_64 : decode cX12_readCase 64 = .ok (.getfield 167, 3) := by decide +kernel
theorem dX12_readCase_67 : decode cX12_readCase 67 = .ok (.ifCond .ne 22, 3) := by decide +kernel
theorem dX12_readCase_70 : decode cX12_readCase 70 = .ok (.iload_n 2, 1) := by decide +kernel
theorem dX12_readCase_71 : decode cX12_readCase 71 = .ok (.aload_n 0, 1) := by decide +kernel
theorem dX12_readCase_72 : decode cX12_readCase 72 = .ok (.getfield 23, 3) := by decide +kernel
theorem dX12_readCase_75 : decode cX12_readCase 75 = .ok (.bipush 6, 2) := by decide +kernel
theorem dX12_readCase_77 : decode cX12_readCase 77 = .ok (.iaload, 1) := by decide +kernel
theorem dX12_readCase_78 : decode cX12_readCase 78 = .ok (.if_icmp .lt 11, 3) := by decide +kernel
theorem dX12_readCase_81 : decode cX12_readCase 81 = .ok (.aload_n 0, 1) := by decide +kernel
theorem dX12_readCase_82 : decode cX12_readCase 82 = .ok (.iconst 3, 1) := by decide +kernel
theorem dX12_readCase_83 : decode cX12_readCase 83 = .ok (.invokevirtual 180, 3) := by decide +kernel
theorem dX12_readCase_86 : decode cX12_readCase 86 = .ok (.goto 29, 3) := by decide +kernel
theorem dX12_readCase_89 : decode cX12_readCase 89 = .ok (.aload_n 0, 1) := by decide +kernel
theorem dX12_readCase_90 : decode cX12_readCase 90 = .ok (.getfield 167, 3) := by decide +kernel
theorem dX12_readCase_93 : decode cX12_readCase 93 = .ok (.ifCond .ne 22, 3) := by decide +kernel
theorem dX12_readCase_96 : decode cX12_readCase 96 = .ok (.aload_n 0, 1) := by decide +kernel
theorem dX12_readCase_97 : decode cX12_readCase 97 = .ok (.getfield 36, 3) := by decide +kernel
theorem dX12_readCase_100 : decode cX12_readCase 100 = .ok (.iload_n 1, 1) := by decide +kernel
theorem dX12_readCase_101 : decode cX12_readCase 101 = .ok (.iaload, 1) := by decide +kernel
theorem dX12_readCase_102 : decode cX12_readCase 102 = .ok (.iload_n 2, 1) := by decide +kernel
theorem dX12_readCase_103 : decode cX12_readCase 103 = .ok (.ishr, 1) := by decide +kernel
theorem dX12_readCase_104 : decode cX12_readCase 104 = .ok (.iconst 1, 1) := by decide +kernel
theorem dX12_readCase_105 : decode cX12_readCase 105 = .ok (.iand, 1) := by decide +kernel
theorem dX12_readCase_106 : decode cX12_readCase 106 = .ok (.iconst 1, 1) := by decide +kernel
theorem dX12_readCase_107 : decode cX12_readCase 107 = .ok (.if_icmp .ne 8, 3) := by decide +kernel
theorem dX12_readCase_110 : decode cX12_readCase 110 = .ok (.aload_n 0, 1) := by decide +kernel
theorem dX12_readCase_111 : decode cX12_readCase 111 = .ok (.iconst 4, 1) := by decide +kernel
theorem dX12_readCase_112 : decode cX12_readCase 112 = .ok (.invokevirtual 180, 3) := by decide +kernel
theorem dX12_readCase_115 : decode cX12_readCase 115 = .ok (.aload_n 0, 1) := by decide +kernel
theorem dX12_readCase_116 : decode cX12_readCase 116 = .ok (.getfield 167, 3) := by decide +kernel
theorem dX12_readCase_119 : decode cX12_readCase 119 = .ok (.ifCond .eq 4, 3) := by decide +kernel
theorem dX12_readCase_122 : decode cX12_readCase 122 = .ok (.return_, 1) := by decide +kernel
theorem dX12_readCase_123 : decode cX12_readCase 123 = .ok (.aload_n 0, 1) := by decide +kernel
theorem dX12_readCase_124 : decode cX12_readCase 124 = .ok (.getfield 36, 3) := by decide +kernel
theorem dX12_readCase_127 : decode cX12_readCase 127 = .ok (.iload_n 1, 1) := by decide +kernel
theorem dX12_readCase_128 : decode cX12_readCase 128 = .ok (.dup2, 1) := by decide +kernel
theorem dX12_readCase_129 : decode cX12_readCase 129 = .ok (.iaload, 1) := by decide +kernel
theorem dX12_readCase_130 : decode cX12_readCase 130 = .ok (.iconst 1, 1) := by decide +kernel
theorem dX12_readCase_131 : decode cX12_readCase 131 = .ok (.iload_n 2, 1) := by decide +kernel
theorem dX12_readCase_132 : decode cX12_readCase 132 = .ok (.ishl, 1) := by decide +kernel
theorem dX12_readCase_133 : decode cX12_readCase 133 = .ok (.ior, 1) := by decide +kernel
theorem dX12_readCase_134 : decode cX12_readCase 134 = .ok (.iastore, 1) := by decide +kernel
theorem dX12_readCase_135 : decode cX12_readCase 135 = .ok (.aload_n 0, 1) := by decide +kernel
theorem dX12_readCase_136 : decode cX12_readCase 136 = .ok (.invokevirtual 187, 3) := by decide +kernel
theorem dX12_readCase_139 : decode cX12_readCase 139 = .ok (.aload_n 0, 1) := by decide +kernel
theorem dX12_readCase_140 : decode cX12_readCase 140 = .ok (.getfield 145, 3) := by decide +kernel
theorem dX12_readCase_143 : decode cX12_readCase 143 = .ok (.iconst 2, 1) := by decide +kernel
theorem dX12_readCase_144 : decode cX12_readCase 144 = .ok (.if_icmp .eq (-90), 3) := by decide +kernel
theorem dX12_readCase_147 : decode cX12_readCase 147 = .ok (.aload_n 0, 1) := by decide +kernel
theorem dX12_readCase_148 : decode cX12_readCase 148 = .ok (.getfield 23, 3) := by decide +kernel
theorem dX12_readCase_151 : decode cX12_readCase 151 = .ok (.bipush 7, 2) := by decide +kernel
theorem dX12_readCase_153 : decode cX12_readCase 153 = .ok (.dup2, 1) := by decide +kernel
theorem dX12_readCase_154 : decode cX12_readCase 154 = .ok (.iaload, 1) := by decide +kernel
theorem dX12_readCase_155 : decode cX12_readCase 155 = .ok (.iconst 1, 1) := by decide +kernel
theorem dX12_readCase_156 : decode cX12_readCase 156 = .ok (.iadd, 1) := by decide +kernel
theorem dX12_readCase_157 : decode cX12_readCase 157 = .ok (.iastore, 1) := by decide +kernel
theorem dX12_readCase_158 : decode cX12_readCase 158 = .ok (.return_, 1) := by decide +kernel
theorem dX12_readWalker_0 : decode cX12_readWalker 0 = .ok (.aload_n 0, 1) := by decide +kernel
theorem dX12_readWalker_1 : decode cX12_readWalker 1 = .ok (.iconst 2, 1) := by decide +kernel
theorem dX12_readWalker_2 : decode cX12_readWalker 2 = .ok (.iconst 5, 1) := by decide +kernel
theorem dX12_readWalker_3 : decode cX12_readWalker 3 = .ok (.invokevirtual 190, 3) := by decide +kernel
theorem dX12_readWalker_6 : decode cX12_readWalker 6 = .ok (.ifCond .ne 4, 3) := by decide +kernel
theorem dX12_readWalker_9 : decode cX12_readWalker 9 = .ok (.return_, 1) := by decide +kernel
theorem dX12_readWalker_10 : decode cX12_readWalker 10 = .ok (.iconst 5, 1) := by decide +kernel
theorem dX12_readWalker_11 : decode cX12_readWalker 11 = .ok (.aload_n 0, 1) := by decide +kernel
theorem dX12_readWalker_12 : decode cX12_readWalker 12 = .ok (.getfield 23, 3) := by decide +kernel
theorem dX12_readWalker_15 : decode cX12_readWalker 15 = .ok (.bipush 8, 2) := by decide +kernel
theorem dX12_readWalker_17 : decode cX12_readWalker 17 = .ok (.iaload, 1) := by decide +kernel
theorem dX12_readWalker_18 : decode cX12_readWalker 18 = .ok (.iadd, 1) := by decide +kernel
theorem dX12_readWalker_19 : decode cX12_readWalker 19 = .ok (.istore_n 2, 1) := by decide +kernel
theorem dX12_readWalker_20 : decode cX12_readWalker 20 = .ok (.aload_n 0, 1) := by decide +kernel
theorem dX12_readWalker_21 : decode cX12_readWalker 21 = .ok (.getfield 39, 3) := by decide +kernel
theorem dX12_readWalker_24 : decode cX12_readWalker 24 = .ok (.iload_n 2, 1) := by decide +kernel
theorem dX12_readWalker_25 : decode cX12_readWalker 25 = .ok (.iload_n 1, 1) := by decide +kernel
theorem dX12_readWalker_26 : decode cX12_readWalker 26 = .ok (.iastore, 1) := by decide +kernel
theorem dX12_readWalker_27 : decode cX12_readWalker 27 = .ok (.aload_n 0, 1) := by decide +kernel
theorem dX12_readWalker_28 : decode cX12_readWalker 28 = .ok (.getfield 42, 3) := by decide +kernel
theorem dX12_readWalker_31 : decode cX12_readWalker 31 = .ok (.iload_n 2, 1) := by decide +kernel
theorem dX12_readWalker_32 : decode cX12_readWalker 32 = .ok (.aload_n 0, 1) := by decide +kernel
theorem dX12_readWalker_33 : decode cX12_readWalker 33 = .ok (.iconst 0, 1) := by decide +kernel
theorem dX12_readWalker_34 : decode cX12_readWalker 34 = .ok (.iconst 1, 1) := by decide +kernel
theorem dX12_readWalker_35 : decode cX12_readWalker 35 = .ok (.invokevirtual 194, 3) := by decide +kernel
theorem dX12_readWalker_38 : decode cX12_readWalker 38 = .ok (.iastore, 1) := by decide +kernel
theorem dX12_readWalker_39 : decode cX12_readWalker 39 = .ok (.aload_n 0, 1) := by decide +kernel
theorem dX12_readWalker_40 : decode cX12_readWalker 40 = .ok (.getfield 45, 3) := by decide +kernel
theorem dX12_readWalker_43 : decode cX12_readWalker 43 = .ok (.iload_n 2, 1) := by decide +kernel
theorem dX12_readWalker_44 : decode cX12_readWalker 44 = .ok (.aload_n 0, 1) := by decide +kernel
theorem dX12_readWalker_45 : decode cX12_readWalker 45 = .ok (.iconst 0, 1) := by decide +kernel
theorem dX12_readWalker_46 : decode cX12_readWalker 46 = .ok (.bipush 6, 2) := by decide +kernel
theorem dX12_readWalker_48 : decode cX12_readWalker 48 = .ok (.invokevirtual 194, 3) := by decide +kernel
theorem dX12_readWalker_51 : decode cX12_readWalker 51 = .ok (.iastore, 1) := by decide +kernel
theorem dX12_readWalker_52 : decode cX12_readWalker 52 = .ok (.aload_n 0, 1) := by decide +kernel
theorem dX12_readWalker_53 : decode cX12_readWalker 53 = .ok (.getfield 48, 3) := by decide +kernel
theorem dX12_readWalker_56 : decode cX12_readWalker 56 = .ok (.iload_n 2, 1) := by decide +kernel
theorem dX12_readWalker_57 : decode cX12_readWalker 57 = .ok (.aload_n 0, 1) := by decide +kernel
theorem dX12_readWalker_58 : decode cX12_readWalker 58 = .ok (.iconst 0, 1) := by decide +kernel
theorem dX12_readWalker_59 : decode cX12_readWalker 59 = .ok (.bipush 20, 2) := by decide +kernel
theorem dX12_readWalker_61 : decode cX12_readWalker 61 = .ok (.invokevirtual 194, 3) := by decide +kernel
theorem dX12_readWalker_64 : decode cX12_readWalker 64 = .ok (.iastore, 1) := by decide +kernel
theorem dX12_readWalker_65 : decode cX12_readWalker 65 = .ok (.aload_n 0, 1) := by decide +kernel
theorem dX12_readWalker_66 : decode cX12_readWalker 66 = .ok (.getfield 51, 3) := by decide +kernel
theorem dX12_readWalker_69 : decode cX12_readWalker 69 = .ok (.iload_n 2, 1) := by decide +kernel
theorem dX12_readWalker_70 : decode cX12_readWalker 70 = .ok (.aload_n 0, 1) := by decide +kernel
theorem dX12_readWalker_71 : decode cX12_readWalker 71 = .ok (.iconst 0, 1) := by decide +kernel
theorem dX12_readWalker_72 : decode cX12_readWalker 72 = .ok (.bipush 63, 2) := by decide +kernel
theorem dX12_readWalker_74 : decode cX12_readWalker 74 = .ok (.invokevirtual 194, 3) := by decide +kernel
theorem dX12_readWalker_77 : decode cX12_readWalker 77 = .ok (.iastore, 1) := by decide +kernel
theorem dX12_readWalker_78 : decode cX12_readWalker 78 = .ok (.aload_n 0, 1) := by decide +kernel
theorem dX12_readWalker_79 : decode cX12_readWalker 79 = .ok (.getfield 54, 3) := by decide +kernel
theorem dX12_readWalker_82 : decode cX12_readWalker 82 = .ok (.iload_n 2, 1) := by decide +kernel
theorem dX12_readWalker_83 : decode cX12_readWalker 83 = .ok (.aload_n 0, 1) := by decide +kernel
theorem dX12_readWalker_84 : decode cX12_readWalker 84 = .ok (.aload_n 0, 1) := by decide +kernel
theorem dX12_readWalker_85 : decode cX12_readWalker 85 = .ok (.getfield 51, 3) := by decide +kernel
theorem dX12_readWalker_88 : decode cX12_readWalker 88 = .ok (.iload_n 2, 1) := by decide +kernel
theorem dX12_readWalker_89 : decode cX12_readWalker 89 = .ok (.iaload, 1) := by decide +kernel
theorem dX12_readWalker_90 : decode cX12_readWalker 90 = .ok (.bipush 63, 2) := by decide +kernel
theorem dX12_readWalker_92 : decode cX12_readWalker 92 = .ok (.invokevirtual 194, 3) := by decide +kernel
theorem dX12_readWalker_95 : decode cX12_readWalker 95 = .ok (.iastore, 1) := by decide +kernel
theorem dX12_readWalker_96 : decode cX12_readWalker 96 = .ok (.aload_n 0, 1) := by decide +kernel
theorem dX12_readWalker_97 : decode cX12_readWalker 97 = .ok (.getfield 23, 3) := by decide +kernel
theorem dX12_readWalker_100 : decode cX12_readWalker 100 = .ok (.bipush 8, 2) := by decide +kernel
theorem dX12_readWalker_102 : decode cX12_readWalker 102 = .ok (.dup2, 1) := by decide +kernel
theorem dX12_readWalker_103 : decode cX12_readWalker 103 = .ok (.iaload, 1) := by decide +kernel
theorem dX12_readWalker_104 : decode cX12_readWalker 104 = .ok (.iconst 1, 1) := by decide +kernel
theorem dX12_readWalker_105 : decode cX12_readWalker 105 = .ok (.iadd, 1) := by decide +kernel
theorem dX12_readWalker_106 : decode cX12_readWalker 106 = .ok (.iastore, 1) := by decide +kernel
theorem dX12_readWalker_107 : decode cX12_readWalker 107 = .ok (.return_, 1) := by decide +kernel
theorem dX12_readFlood_0 : decode cX12_readFlood 0 = .ok (.aload_n 0, 1) := by decide +kernel
theorem dX12_readFlood_1 : decode cX12_readFlood 1 = .ok (.iconst 3, 1) := by decide +kernel
theorem dX12_readFlood_2 : decode cX12_readFlood 2 = .ok (.iconst 5, 1) := by decide +kernel
theorem dX12_readFlood_3 : decode cX12_readFlood 3 = .ok (.invokevirtual 190, 3) := by decide +kernel
theorem dX12_readFlood_6 : decode cX12_readFlood 6 = .ok (.ifCond .ne 4, 3) := by decide +kernel
theorem dX12_readFlood_9 : decode cX12_readFlood 9 = .ok (.return_, 1) := by decide +kernel
theorem dX12_readFlood_10 : decode cX12_readFlood 10 = .ok (.aload_n 0, 1) := by decide +kernel
theorem dX12_readFlood_11 : decode cX12_readFlood 11 = .ok (.iconst 0, 1) := by decide +kernel
theorem dX12_readFlood_12 : decode cX12_readFlood 12 = .ok (.bipush 63, 2) := by decide +kernel
theorem dX12_readFlood_14 : decode cX12_readFlood 14 = .ok (.invokevirtual 184, 3) := by decide +kernel
theorem dX12_readFlood_17 : decode cX12_readFlood 17 = .ok (.istore_n 1, 1) := by decide +kernel
theorem dX12_readFlood_18 : decode cX12_readFlood 18 = .ok (.iconst 0, 1) := by decide +kernel
theorem dX12_readFlood_19 : decode cX12_readFlood 19 = .ok (.istore_n 2, 1) := by decide +kernel
theorem dX12_readFlood_20 : decode cX12_readFlood 20 = .ok (.iload_n 2, 1) := by decide +kernel
theorem dX12_readFlood_21 : decode cX12_readFlood 21 = .ok (.aload_n 0, 1) := by decide +kernel
theorem dX12_readFlood_22 : decode cX12_readFlood 22 = .ok (.getfield 23, 3) := by decide +kernel
theorem dX12_readFlood_25 : decode cX12_readFlood 25 = .ok (.bipush 9, 2) := by decide +kernel
theorem dX12_readFlood_27 : decode cX12_readFlood 27 = .ok (.iaload, 1) := by decide +kernel
theorem dX12_readFlood_28 : decode cX12_readFlood 28 = .ok (.if_icmp .ge 33, 3) := by decide +kernel
theorem dX12_readFlood_31 : decode cX12_readFlood 31 = .ok (.aload_n 0, 1) := by decide +kernel
theorem dX12_readFlood_32 : decode cX12_readFlood 32 = .ok (.getfield 167, 3) := by decide +kernel
theorem dX12_readFlood_35 : decode cX12_readFlood 35 = .ok (.ifCond .ne 26, 3) := by decide +kernel
theorem dX12_readFlood_38 : decode cX12_readFlood 38 = .ok (.aload_n 0, 1) := by decide +kernel
theorem dX12_readFlood_39 : decode cX12_readFlood 39 = .ok (.getfield 57, 3) := by decide +kernel
theorem dX12_readFlood_42 : decode cX12_readFlood 42 = .ok (.iconst 5, 1) := by decide +kernel
theorem dX12_readFlood_43 : decode cX12_readFlood 43 = .ok (.iload_n 2, 1) := by decide +kernel
theorem dX12_readFlood_44 : decode cX12_readFlood 44 = .ok (.iadd, 1) := by decide +kernel
theorem dX12_readFlood_45 : decode cX12_readFlood 45 = .ok (.iaload, 1) := by decide +kernel
theorem dX12_readFlood_46 : decode cX12_readFlood 46 = .ok (.iload_n 1, 1) := by decide +kernel
theorem dX12_readFlood_47 : decode cX12_readFlood 47 = .ok (.if_icmp .ne 8, 3) := by decide +kernel
theorem dX12_readFlood_50 : decode cX12_readFlood 50 = .ok (.aload_n 0, 1) := by decide +kernel
theorem dX12_readFlood_51 : decode cX12_readFlood 51 = .ok (.iconst 4, 1) := by decide +kernel
theorem dX12_readFlood_52 : decode cX12_readFlood 52 = .ok (.invokevirtual 180, 3) := by decide +kernel
theorem dX12_readFlood_55 : decode cX12_readFlood 55 = .ok (.iinc 2 1, 3) := by decide +kernel
theorem dX12_readFlood_58 : decode cX12_readFlood 58 = .ok (.goto (-38), 3) := by decide +kernel
theorem dX12_readFlood_61 : decode cX12_readFlood 61 = .ok (.aload_n 0, 1) := by decide +kernel
theorem dX12_readFlood_62 : decode cX12_readFlood 62 = .ok (.getfield 167, 3) := by decide +kernel
theorem dX12_readFlood_65 : decode cX12_readFlood 65 = .ok (.ifCond .eq 4, 3) := by decide +kernel
theorem dX12_readFlood_68 : decode cX12_readFlood 68 = .ok (.return_, 1) := by decide +kernel
theorem dX12_readFlood_69 : decode cX12_readFlood 69 = .ok (.aload_n 0, 1) := by decide +kernel
theorem dX12_readFlood_70 : decode cX12_readFlood 70 = .ok (.getfield 57, 3) := by decide +kernel
theorem dX12_readFlood_73 : decode cX12_readFlood 73 = .ok (.iconst 5, 1) := by decide +kernel
theorem dX12_readFlood_74 : decode cX12_readFlood 74 = .ok (.aload_n 0, 1) := by decide +kernel
theorem dX12_readFlood_75 : decode cX12_readFlood 75 = .ok (.getfield 23, 3) := by decide +kernel
theorem dX12_readFlood_78 : decode cX12_readFlood 78 = .ok (.bipush 9, 2) := by decide +kernel
theorem dX12_readFlood_80 : decode cX12_readFlood 80 = .ok (.iaload, 1) := by decide +kernel
theorem dX12_readFlood_81 : decode cX12_readFlood 81 = .ok (.iadd, 1) := by decide +kernel
theorem dX12_readFlood_82 : decode cX12_readFlood 82 = .ok (.iload_n 1, 1) := by decide +kernel
theorem dX12_readFlood_83 : decode cX12_readFlood 83 = .ok (.iastore, 1) := by decide +kernel
theorem dX12_readFlood_84 : decode cX12_readFlood 84 = .ok (.aload_n 0, 1) := by decide +kernel
theorem dX12_readFlood_85 : decode cX12_readFlood 85 = .ok (.getfield 23, 3) := by decide +kernel
theorem dX12_readFlood_88 : decode cX12_readFlood 88 = .ok (.bipush 9, 2) := by decide +kernel
theorem dX12_readFlood_90 : decode cX12_readFlood 90 = .ok (.dup2, 1) := by decide +kernel
theorem dX12_readFlood_91 : decode cX12_readFlood 91 = .ok (.iaload, 1) := by decide +kernel
theorem dX12_readFlood_92 : decode cX12_readFlood 92 = .ok (.iconst 1, 1) := by decide +kernel
theorem dX12_readFlood_93 : decode cX12_readFlood 93 = .ok (.iadd, 1) := by decide +kernel
theorem dX12_readFlood_94 : decode cX12_readFlood 94 = .ok (.iastore, 1) := by decide +kernel
theorem dX12_readFlood_95 : decode cX12_readFlood 95 = .ok (.aload_n 0, 1) := by decide +kernel
theorem dX12_readFlood_96 : decode cX12_readFlood 96 = .ok (.invokevirtual 187, 3) := by decide +kernel
theorem dX12_readFlood_99 : decode cX12_readFlood 99 = .ok (.return_, 1) := by decide +kernel
theorem dX12_readLine_0 : decode cX12_readLine 0 = .ok (.iconst (-1), 1) := by decide +kernel
theorem dX12_readLine_1 : decode cX12_readLine 1 = .ok (.istore_n 2, 1) := by decide +kernel
theorem dX12_readLine_2 : decode cX12_readLine 2 = .ok (.iconst 0, 1) := by decide +kernel
theorem dX12_readLine_3 : decode cX12_readLine 3 = .ok (.istore_n 3, 1) := by decide +kernel
theorem dX12_readLine_4 : decode cX12_readLine 4 = .ok (.iload_n 3, 1) := by decide +kernel
theorem dX12_readLine_5 : decode cX12_readLine 5 = .ok (.aload_n 0, 1) := by decide +kernel
theorem dX12_readLine_6 : decode cX12_readLine 6 = .ok (.getfield 17, 3) := by decide +kernel
theorem dX12_readLine_9 : decode cX12_readLine 9 = .ok (.arraylength, 1) := by decide +kernel
theorem dX12_readLine_10 : decode cX12_readLine 10 = .ok (.if_icmp .ge 24, 3) := by decide +kernel
theorem dX12_readLine_13 : decode cX12_readLine 13 = .ok (.aload_n 0, 1) := by decide +kernel
theorem dX12_readLine_14 : decode cX12_readLine 14 = .ok (.aload_n 0, 1) := by decide +kernel
theorem dX12_readLine_15 : decode cX12_readLine 15 = .ok (.getfield 17, 3) := by decide +kernel
theorem dX12_readLine_18 : decode cX12_readLine 18 = .ok (.iload_n 3, 1) := by decide +kernel
theorem dX12_readLine_19 : decode cX12_readLine 19 = .ok (.aaload, 1) := by decide +kernel
theorem dX12_readLine_20 : decode cX12_readLine 20 = .ok (.invokevirtual 197, 3) := by decide +kernel
theorem dX12_readLine_23 : decode cX12_readLine 23 = .ok (.ifCond .eq 5, 3) := by decide +kernel
theorem dX12_readLine_26 : decode cX12_readLine 26 = .ok (.iload_n 3, 1) := by decide +kernel
theorem dX12_readLine_27 : decode cX12_readLine 27 = .ok (.istore_n 2, 1) := by decide +kernel
theorem dX12_readLine_28 : decode cX12_readLine 28 = .ok (.iinc 3 1, 3) := by decide +kernel
theorem dX12_readLine_31 : decode cX12_readLine 31 = .ok (.goto (-27), 3) := by decide +kernel
theorem dX12_readLine_34 : decode cX12_readLine 34 = .ok (.aload_n 0, 1) := by decide +kernel
theorem dX12_readLine_35 : decode cX12_readLine 35 = .ok (.ldc 201, 2) := by decide +kernel
theorem dX12_readLine_37 : decode cX12_readLine 37 = .ok (.invokevirtual 197, 3) := by decide +kernel
theorem dX12_readLine_40 : decode cX12_readLine 40 = .ok (.ifCond .eq 7, 3) := by decide +kernel
theorem dX12_readLine_43 : decode cX12_readLine 43 = .ok (.iconst 1, 1) := by decide +kernel
theorem dX12_readLine_44 : decode cX12_readLine 44 = .ok (.goto 17, 3) := by decide +kernel
theorem dX12_readLine_47 : decode cX12_readLine 47 = .ok (.aload_n 0, 1) := by decide +kernel
theorem dX12_readLine_48 : decode cX12_readLine 48 = .ok (.ldc 203, 2) := by decide +kernel
theorem dX12_readLine_50 : decode cX12_readLine 50 = .ok (.invokevirtual 197, 3) := by decide +kernel
theorem dX12_readLine_53 : decode cX12_readLine 53 = .ok (.ifCond .eq 7, 3) := by decide +kernel
theorem dX12_readLine_56 : decode cX12_readLine 56 = .ok (.iconst 2, 1) := by decide +kernel
theorem dX12_readLine_57 : decode cX12_readLine 57 = .ok (.goto 4, 3) := by decide +kernel
theorem dX12_readLine_60 : decode cX12_readLine 60 = .ok (.iconst 4, 1) := by decide +kernel
theorem dX12_readLine_61 : decode cX12_readLine 61 = .ok (.istore_n 3, 1) := by decide +kernel
theorem dX12_readLine_62 : decode cX12_readLine 62 = .ok (.iload_n 3, 1) := by decide +kernel
theorem dX12_readLine_63 : decode cX12_readLine 63 = .ok (.iconst 4, 1) := by decide +kernel
theorem dX12_readLine_64 : decode cX12_readLine 64 = .ok (.if_icmp .ge 14, 3) := by decide +kernel
theorem dX12_readLine_67 : decode cX12_readLine 67 = .ok (.iload_n 1, 1) := by decide +kernel
theorem dX12_readLine_68 : decode cX12_readLine 68 = .ok (.iload_n 3, 1) := by decide +kernel
theorem dX12_readLine_69 : decode cX12_readLine 69 = .ok (.iand, 1) := by decide +kernel
theorem dX12_readLine_70 : decode cX12_readLine 70 = .ok (.ifCond .eq 8, 3) := by decide +kernel
theorem dX12_readLine_73 : decode cX12_readLine 73 = .ok (.aload_n 0, 1) := by decide +kernel
theorem dX12_readLine_74 : decode cX12_readLine 74 = .ok (.iconst 5, 1) := by decide +kernel
theorem dX12_readLine_75 : decode cX12_readLine 75 = .ok (.invokevirtual 180, 3) := by decide +kernel
theorem dX12_readLine_78 : decode cX12_readLine 78 = .ok (.aload_n 0, 1) := by decide +kernel
theorem dX12_readLine_79 : decode cX12_readLine 79 = .ok (.getfield 167, 3) := by decide +kernel
theorem dX12_readLine_82 : decode cX12_readLine 82 = .ok (.ifCond .eq 5, 3) := by decide +kernel
theorem dX12_readLine_85 : decode cX12_readLine 85 = .ok (.iload_n 1, 1) := by decide +kernel
theorem dX12_readLine_86 : decode cX12_readLine 86 = .ok (.ireturn, 1) := by decide +kernel
theorem dX12_readLine_87 : decode cX12_readLine 87 = .ok (.iload_n 2, 1) := by decide +kernel
theorem dX12_readLine_88 : decode cX12_readLine 88 = .ok (.iconst (-1), 1) := by decide +kernel
theorem dX12_readLine_89 : decode cX12_readLine 89 = .ok (.if_icmp .eq 11, 3) := by decide +kernel
theorem dX12_readLine_92 : decode cX12_readLine 92 = .ok (.aload_n 0, 1) := by decide +kernel
theorem dX12_readLine_93 : decode cX12_readLine 93 = .ok (.iload_n 2, 1) := by decide +kernel
theorem dX12_readLine_94 : decode cX12_readLine 94 = .ok (.invokevirtual 205, 3) := by decide +kernel
theorem dX12_readLine_97 : decode cX12_readLine 97 = .ok (.goto 137, 3) := by decide +kernel
theorem dX12_readLine_100 : decode cX12_readLine 100 = .ok (.iload_n 3, 1) := by decide +kernel
theorem dX12_readLine_101 : decode cX12_readLine 101 = .ok (.iconst 4, 1) := by decide +kernel
theorem dX12_readLine_102 : decode cX12_readLine 102 = .ok (.if_icmp .ge 36, 3) := by decide +kernel
theorem dX12_readLine_105 : decode cX12_readLine 105 = .ok (.aload_n 0, 1) := by decide +kernel
theorem dX12_readLine_106 : decode cX12_readLine 106 = .ok (.invokevirtual 187, 3) := by decide +kernel
theorem dX12_readLine_109 : decode cX12_readLine 109 = .ok (.aload_n 0, 1) := by decide +kernel
theorem dX12_readLine_110 : decode cX12_readLine 110 = .ok (.getfield 23, 3) := by decide +kernel
theorem dX12_readLine_113 : decode cX12_readLine 113 = .ok (.bipush 9, 2) := by decide +kernel
theorem dX12_readLine_115 : decode cX12_readLine 115 = .ok (.iload_n 3, 1) := by decide +kernel
theorem dX12_readLine_116 : decode cX12_readLine 116 = .ok (.iadd, 1) := by decide +kernel
theorem dX12_readLine_117 : decode cX12_readLine 117 = .ok (.aload_n 0, 1) := by decide +kernel
theorem dX12_readLine_118 : decode cX12_readLine 118 = .ok (.iconst 0, 1) := by decide +kernel
theorem dX12_readLine_119 : decode cX12_readLine 119 = .ok (.iload_n 3, 1) := by decide +kernel
theorem dX12_readLine_120 : decode cX12_readLine 120 = .ok (.iconst 1, 1) := by decide +kernel
theorem dX12_readLine_121 : decode cX12_readLine 121 = .ok (.if_icmp .ne 8, 3) := by decide +kernel
theorem dX12_readLine_124 : decode cX12_readLine 124 = .ok (.bipush 99, 2) := by decide +kernel
theorem dX12_readLine_126 : decode cX12_readLine 126 = .ok (.goto 5, 3) := by decide +kernel
theorem dX12_readLine_129 : decode cX12_readLine 129 = .ok (.bipush 9, 2) := by decide +kernel
theorem dX12_readLine_131 : decode cX12_readLine 131 = .ok (.invokevirtual 194, 3) := by decide +kernel
theorem dX12_readLine_134 : decode cX12_readLine 134 = .ok (.iastore, 1) := by decide +kernel
theorem dX12_readLine_135 : decode cX12_readLine 135 = .ok (.goto 99, 3) := by decide +kernel
theorem dX12_readLine_138 : decode cX12_readLine 138 = .ok (.aload_n 0, 1) := by decide +kernel
theorem dX12_readLine_139 : decode cX12_readLine 139 = .ok (.ldc 208, 2) := by decide +kernel
theorem dX12_readLine_141 : decode cX12_readLine 141 = .ok (.invokevirtual 197, 3) := by decide +kernel
theorem dX12_readLine_144 : decode cX12_readLine 144 = .ok (.ifCond .eq 49, 3) := by decide +kernel
theorem dX12_readLine_147 : decode cX12_readLine 147 = .ok (.aload_n 0, 1) := by decide +kernel
theorem dX12_readLine_148 : decode cX12_readLine 148 = .ok (.iconst 0, 1) := by decide +kernel
theorem dX12_readLine_149 : decode cX12_readLine 149 = .ok (.bipush 10, 2) := by decide +kernel
theorem dX12_readLine_151 : decode cX12_readLine 151 = .ok (.invokevirtual 190, 3) := by decide +kernel
theorem dX12_readLine_154 : decode cX12_readLine 154 = .ok (.ifCond .eq 80, 3) := by decide +kernel
theorem dX12_readLine_157 : decode cX12_readLine 157 = .ok (.aload_n 0, 1) := by decide +kernel
theorem dX12_readLine_158 : decode cX12_readLine 158 = .ok (.getfield 27, 3) := by decide +kernel
theorem dX12_readLine_161 : decode cX12_readLine 161 = .ok (.bipush 10, 2) := by decide +kernel
theorem dX12_readLine_163 : decode cX12_readLine 163 = .ok (.aload_n 0, 1) := by decide +kernel
theorem dX12_readLine_164 : decode cX12_readLine 164 = .ok (.getfield 23, 3) := by decide +kernel
theorem dX12_readLine_167 : decode cX12_readLine 167 = .ok (.bipush 6, 2) := by decide +kernel
theorem dX12_readLine_169 : decode cX12_readLine 169 = .ok (.iaload, 1) := by decide +kernel
theorem dX12_readLine_170 : decode cX12_readLine 170 = .ok (.iadd, 1) := by decide +kernel
theorem dX12_readLine_171 : decode cX12_readLine 171 = .ok (.aload_n 0, 1) := by decide +kernel
theorem dX12_readLine_172 : decode cX12_readLine 172 = .ok (.iconst 1, 1) := by decide +kernel
theorem dX12_readLine_173 : decode cX12_readLine 173 = .ok (.bipush 20, 2) := by decide +kernel
theorem dX12_readLine_175 : decode cX12_readLine 175 = .ok (.invokevirtual 194, 3) := by decide +kernel
theorem dX12_readLine_178 : decode cX12_readLine 178 = .ok (.iastore, 1) := by decide +kernel
theorem dX12_readLine_179 : decode cX12_readLine 179 = .ok (.aload_n 0, 1) := by decide +kernel
theorem dX12_readLine_180 : decode cX12_readLine 180 = .ok (.getfield 23, 3) := by decide +kernel
theorem dX12_readLine_183 : decode cX12_readLine 183 = .ok (.bipush 6, 2) := by decide +kernel
theorem dX12_readLine_185 : decode cX12_readLine 185 = .ok (.dup2, 1) := by decide +kernel
theorem dX12_readLine_186 : decode cX12_readLine 186 = .ok (.iaload, 1) := by decide +kernel
theorem dX12_readLine_187 : decode cX12_readLine 187 = .ok (.iconst 1, 1) := by decide +kernel
theorem dX12_readLine_188 : decode cX12_readLine 188 = .ok (.iadd, 1) := by decide +kernel
theorem dX12_readLine_189 : decode cX12_readLine 189 = .ok (.iastore, 1) := by decide +kernel
theorem dX12_readLine_190 : decode cX12_readLine 190 = .ok (.goto 44, 3) := by decide +kernel
theorem dX12_readLine_193 : decode cX12_readLine 193 = .ok (.aload_n 0, 1) := by decide +kernel
theorem dX12_readLine_194 : decode cX12_readLine 194 = .ok (.ldc 210, 2) := by decide +kernel
theorem dX12_readLine_196 : decode cX12_readLine 196 = .ok (.invokevirtual 197, 3) := by decide +kernel
theorem dX12_readLine_199 : decode cX12_readLine 199 = .ok (.ifCond .eq 10, 3) := by decide +kernel
theorem dX12_readLine_202 : decode cX12_readLine 202 = .ok (.aload_n 0, 1) := by decide +kernel
theorem dX12_readLine_203 : decode cX12_readLine 203 = .ok (.invokevirtual 212, 3) := by decide +kernel
theorem dX12_readLine_206 : decode cX12_readLine 206 = .ok (.goto 28, 3) := by decide +kernel
theorem dX12_readLine_209 : decode cX12_readLine 209 = .ok (.aload_n 0, 1) := by decide +kernel
theorem dX12_readLine_210 : decode cX12_readLine 210 = .ok (.ldc 215, 2) := by decide +kernel
theorem dX12_readLine_212 : decode cX12_readLine 212 = .ok (.invokevirtual 197, 3) := by decide +kernel
theorem dX12_readLine_215 : decode cX12_readLine 215 = .ok (.ifCond .ne 8, 3) := by decide +kernel
theorem dX12_readLine_218 : decode cX12_readLine 218 = .ok (.aload_n 0, 1) := by decide +kernel
theorem dX12_readLine_219 : decode cX12_readLine 219 = .ok (.iconst 1, 1) := by decide +kernel
theorem dX12_readLine_220 : decode cX12_readLine 220 = .ok (.invokevirtual 180, 3) := by decide +kernel
theorem dX12_readLine_223 : decode cX12_readLine 223 = .ok (.aload_n 0, 1) := by decide +kernel
theorem dX12_readLine_224 : decode cX12_readLine 224 = .ok (.getfield 167, 3) := by decide +kernel
theorem dX12_readLine_227 : decode cX12_readLine 227 = .ok (.ifCond .ne 7, 3) := by decide +kernel
theorem dX12_readLine_230 : decode cX12_readLine 230 = .ok (.aload_n 0, 1) := by decide +kernel
theorem dX12_readLine_231 : decode cX12_readLine 231 = .ok (.invokevirtual 216, 3) := by decide +kernel
theorem dX12_readLine_234 : decode cX12_readLine 234 = .ok (.aload_n 0, 1) := by decide +kernel
theorem dX12_readLine_235 : decode cX12_readLine 235 = .ok (.getfield 167, 3) := by decide +kernel
theorem dX12_readLine_238 : decode cX12_readLine 238 = .ok (.ifCond .ne 16, 3) := by decide +kernel
theorem dX12_readLine_241 : decode cX12_readLine 241 = .ok (.aload_n 0, 1) := by decide +kernel
theorem dX12_readLine_242 : decode cX12_readLine 242 = .ok (.getfield 145, 3) := by decide +kernel
theorem dX12_readLine_245 : decode cX12_readLine 245 = .ok (.iconst 3, 1) := by decide +kernel
theorem dX12_readLine_246 : decode cX12_readLine 246 = .ok (.if_icmp .eq 8, 3) := by decide +kernel
theorem dX12_readLine_249 : decode cX12_readLine 249 = .ok (.aload_n 0, 1) := by decide +kernel
theorem dX12_readLine_250 : decode cX12_readLine 250 = .ok (.iconst 1, 1) := by decide +kernel
theorem dX12_readLine_251 : decode cX12_readLine 251 = .ok (.invokevirtual 180, 3) := by decide +kernel
theorem dX12_readLine_254 : decode cX12_readLine 254 = .ok (.aload_n 0, 1) := by decide +kernel
theorem dX12_readLine_255 : decode cX12_readLine 255 = .ok (.getfield 167, 3) := by decide +kernel
theorem dX12_readLine_258 : decode cX12_readLine 258 = .ok (.ifCond .ne 7, 3) := by decide +kernel
theorem dX12_readLine_261 : decode cX12_readLine 261 = .ok (.aload_n 0, 1) := by decide +kernel
theorem dX12_readLine_262 : decode cX12_readLine 262 = .ok (.invokevirtual 187, 3) := by decide +kernel
theorem dX12_readLine_265 : decode cX12_readLine 265 = .ok (.iload_n 1, 1) := by decide +kernel
theorem dX12_readLine_266 : decode cX12_readLine 266 = .ok (.iload_n 3, 1) := by decide +kernel
theorem dX12_readLine_267 : decode cX12_readLine 267 = .ok (.ior, 1) := by decide +kernel
theorem dX12_readLine_268 : decode cX12_readLine 268 = .ok (.ireturn, 1) := by decide +kernel
theorem dX12_river_0 : decode cX12_river 0 = .ok (.aload_n 0, 1) := by decide +kernel
theorem dX12_river_1 : decode cX12_river 1 = .ok (.iconst 0, 1) := by decide +kernel
theorem dX12_river_2 : decode cX12_river 2 = .ok (.putfield 122, 3) := by decide +kernel
theorem dX12_river_5 : decode cX12_river 5 = .ok (.iload_n 1, 1) := by decide +kernel
theorem dX12_river_6 : decode cX12_river 6 = .ok (.ifCond .lt 11, 3) := by decide +kernel
theorem dX12_river_9 : decode cX12_river 9 = .ok (.iload_n 1, 1) := by decide +kernel
theorem dX12_river_10 : decode cX12_river 10 = .ok (.aload_n 0, 1) := by decide +kernel
theorem dX12_river_11 : decode cX12_river 11 = .ok (.getfield 129, 3) := by decide +kernel
theorem dX12_river_14 : decode cX12_river 14 = .ok (.if_icmp .le 9, 3) := by decide +kernel
theorem dX12_river_17 : decode cX12_river 17 = .ok (.aload_n 0, 1) := by decide +kernel
theorem dX12_river_18 : decode cX12_river 18 = .ok (.iconst 1, 1) := by decide +kernel
theorem dX12_river_19 : decode cX12_river 19 = .ok (.invokevirtual 219, 3) := by decide +kernel
theorem dX12_river_22 : decode cX12_river 22 = .ok (.ireturn, 1) := by decide +kernel
theorem dX12_river_23 : decode cX12_river 23 = .ok (.aload_n 0, 1) := by decide +kernel
theorem dX12_river_24 : decode cX12_river 24 = .ok (.iconst 0, 1) := by decide +kernel
theorem dX12_river_25 : decode cX12_river 25 = .ok (.putfield 129, 3) := by decide +kernel
theorem dX12_river_28 : decode cX12_river 28 = .ok (.aload_n 0, 1) := by decide +kernel
theorem dX12_river_29 : decode cX12_river 29 = .ok (.iload_n 1, 1) := by decide +kernel
theorem dX12_river_30 : decode cX12_river 30 = .ok (.putfield 132, 3) := by decide +kernel
theorem dX12_river_33 : decode cX12_river 33 = .ok (.aload_n 0, 1) := by decide +kernel
theorem dX12_river_34 : decode cX12_river 34 = .ok (.iconst 0, 1) := by decide +kernel
theorem dX12_river_35 : decode cX12_river 35 = .ok (.putfield 135, 3) := by decide +kernel
theorem dX12_river_38 : decode cX12_river 38 = .ok (.aload_n 0, 1) := by decide +kernel
theorem dX12_river_39 : decode cX12_river 39 = .ok (.iconst 0, 1) := by decide +kernel
theorem dX12_river_40 : decode cX12_river 40 = .ok (.putfield 167, 3) := by decide +kernel
theorem dX12_river_43 : decode cX12_river 43 = .ok (.aload_n 0, 1) := by decide +kernel
theorem dX12_river_44 : decode cX12_river 44 = .ok (.iconst (-1), 1) := by decide +kernel
theorem dX12_river_45 : decode cX12_river 45 = .ok (.putfield 66, 3) := by decide +kernel
theorem dX12_river_48 : decode cX12_river 48 = .ok (.iconst 0, 1) := by decide +kernel
theorem dX12_river_49 : decode cX12_river 49 = .ok (.istore_n 2, 1) := by decide +kernel
theorem dX12_river_50 : decode cX12_river 50 = .ok (.iload_n 2, 1) := by decide +kernel
theorem dX12_river_51 : decode cX12_river 51 = .ok (.bipush 6, 2) := by decide +kernel
theorem dX12_river_53 : decode cX12_river 53 = .ok (.if_icmp .ge 28, 3) := by decide +kernel
theorem dX12_river_56 : decode cX12_river 56 = .ok (.aload_n 0, 1) := by decide +kernel
theorem dX12_river_57 : decode cX12_river 57 = .ok (.getfield 23, 3) := by decide +kernel
theorem dX12_river_60 : decode cX12_river 60 = .ok (.bipush 6, 2) := by decide +kernel
theorem dX12_river_62 : decode cX12_river 62 = .ok (.iload_n 2, 1) := by decide +kernel
theorem dX12_river_63 : decode cX12_river 63 = .ok (.iadd, 1) := by decide +kernel
theorem dX12_river_64 : decode cX12_river 64 = .ok (.iload_n 2, 1) := by decide +kernel
theorem dX12_river_65 : decode cX12_river 65 = .ok (.iconst 4, 1) := by decide +kernel
theorem dX12_river_66 : decode cX12_river 66 = .ok (.if_icmp .ne 7, 3) := by decide +kernel
theorem dX12_river_69 : decode cX12_river 69 = .ok (.iconst 1, 1) := by decide +kernel
theorem dX12_river_70 : decode cX12_river 70 = .ok (.goto 4, 3) := by decide +kernel
theorem dX12_river_73 : decode cX12_river 73 = .ok (.iconst 0, 1) := by decide +kernel
theorem dX12_river_74 : decode cX12_river 74 = .ok (.iastore, 1) := by decide +kernel
theorem dX12_river_75 : decode cX12_river 75 = .ok (.iinc 2 1, 3) := by decide +kernel
theorem dX12_river_78 : decode cX12_river 78 = .ok (.goto (-28), 3) := by decide +kernel
theorem dX12_river_81 : decode cX12_river 81 = .ok (.aload_n 0, 1) := by decide +kernel
theorem dX12_river_82 : decode cX12_river 82 = .ok (.invokevirtual 187, 3) := by decide +kernel
theorem dX12_river_85 : decode cX12_river 85 = .ok (.iconst 0, 1) := by decide +kernel
theorem dX12_river_86 : decode cX12_river 86 = .ok (.istore_n 2, 1) := by decide +kernel
theorem dX12_river_87 : decode cX12_river 87 = .ok (.aload_n 0, 1) := by decide +kernel
theorem dX12_river_88 : decode cX12_river 88 = .ok (.getfield 167, 3) := by decide +kernel
theorem dX12_river_91 : decode cX12_river 91 = .ok (.ifCond .ne 19, 3) := by decide +kernel
theorem dX12_river_94 : decode cX12_river 94 = .ok (.aload_n 0, 1) := by decide +kernel
theorem dX12_river_95 : decode cX12_river 95 = .ok (.getfield 145, 3) := by decide +kernel
theorem dX12_river_98 : decode cX12_river 98 = .ok (.ifCond .eq 12, 3) := by decide +kernel
theorem dX12_river_101 : decode cX12_river 101 = .ok (.aload_n 0, 1) := by decide +kernel
theorem dX12_river_102 : decode cX12_river 102 = .ok (.iload_n 2, 1) := by decide +kernel
theorem dX12_river_103 : decode cX12_river 103 = .ok (.invokevirtual 222, 3) := by decide +kernel
theorem dX12_river_106 : decode cX12_river 106 = .ok (.istore_n 2, 1) := by decide +kernel
theorem dX12_river_107 : decode cX12_river 107 = .ok (.goto (-20), 3) := by decide +kernel
theorem dX12_river_110 : decode cX12_river 110 = .ok (.aload_n 0, 1) := by decide +kernel
theorem dX12_river_111 : decode cX12_river 111 = .ok (.getfield 167, 3) := by decide +kernel
theorem dX12_river_114 : decode cX12_river 114 = .ok (.ifCond .eq 26, 3) := by decide +kernel
theorem dX12_river_117 : decode cX12_river 117 = .ok (.aload_n 0, 1) := by decide +kernel
theorem dX12_river_118 : decode cX12_river 118 = .ok (.aload_n 0, 1) := by decide +kernel
theorem dX12_river_119 : decode cX12_river 119 = .ok (.getfield 170, 3) := by decide +kernel
theorem dX12_river_122 : decode cX12_river 122 = .ok (.putfield 66, 3) := by decide +kernel
theorem dX12_river_125 : decode cX12_river 125 = .ok (.aload_n 0, 1) := by decide +kernel
theorem dX12_river_126 : decode cX12_river 126 = .ok (.getfield 60, 3) := by decide +kernel
theorem dX12_river_129 : decode cX12_river 129 = .ok (.iconst 0, 1) := by decide +kernel
theorem dX12_river_130 : decode cX12_river 130 = .ok (.dup2, 1) := by decide +kernel
theorem dX12_river_131 : decode cX12_river 131 = .ok (.iaload, 1) := by decide +kernel
theorem dX12_river_132 : decode cX12_river 132 = .ok (.iconst 1, 1) := by decide +kernel
theorem dX12_river_133 : decode cX12_river 133 = .ok (.iadd, 1) := by decide +kernel
theorem dX12_river_134 : decode cX12_river 134 = .ok (.iastore, 1) := by decide +kernel
theorem dX12_river_135 : decode cX12_river 135 = .ok (.aload_n 0, 1) := by decide +kernel
theorem dX12_river_136 : decode cX12_river 136 = .ok (.getfield 167, 3) := by decide +kernel
theorem dX12_river_139 : decode cX12_river 139 = .ok (.ireturn, 1) := by decide +kernel
theorem dX12_river_140 : decode cX12_river 140 = .ok (.aload_n 0, 1) := by decide +kernel
theorem dX12_river_141 : decode cX12_river 141 = .ok (.invokevirtual 225, 3) := by decide +kernel
theorem dX12_river_144 : decode cX12_river 144 = .ok (.iconst 0, 1) := by decide +kernel
theorem dX12_river_145 : decode cX12_river 145 = .ok (.ireturn, 1) := by decide +kernel
theorem dX12_takeHalf_0 : decode cX12_takeHalf 0 = .ok (.iconst 0, 1) := by decide +kernel
theorem dX12_takeHalf_1 : decode cX12_takeHalf 1 = .ok (.istore_n 1, 1) := by decide +kernel
theorem dX12_takeHalf_2 : decode cX12_takeHalf 2 = .ok (.iload_n 1, 1) := by decide +kernel
theorem dX12_takeHalf_3 : decode cX12_takeHalf 3 = .ok (.aload_n 0, 1) := by decide +kernel
theorem dX12_takeHalf_4 : decode cX12_takeHalf 4 = .ok (.arraylength, 1) := by decide +kernel
theorem dX12_takeHalf_5 : decode cX12_takeHalf 5 = .ok (.iconst 2, 1) := by decide +kernel
theorem dX12_takeHalf_6 : decode cX12_takeHalf 6 = .ok (.idiv, 1) := by decide +kernel
theorem dX12_takeHalf_7 : decode cX12_takeHalf 7 = .ok (.if_icmp .ge 20, 3) := by decide +kernel
theorem dX12_takeHalf_10 : decode cX12_takeHalf 10 = .ok (.aload_n 0, 1) := by decide +kernel
theorem dX12_takeHalf_11 : decode cX12_takeHalf 11 = .ok (.iload_n 1, 1) := by decide +kernel
theorem dX12_takeHalf_12 : decode cX12_takeHalf 12 = .ok (.aload_n 0, 1) := by decide +kernel
theorem dX12_takeHalf_13 : decode cX12_takeHalf 13 = .ok (.aload_n 0, 1) := by decide +kernel
theorem dX12_takeHalf_14 : decode cX12_takeHalf 14 = .ok (.arraylength, 1) := by decide +kernel
theorem dX12_takeHalf_15 : decode cX12_takeHalf 15 = .ok (.iconst 2, 1) := by decide +kernel
theorem dX12_takeHalf_16 : decode cX12_takeHalf 16 = .ok (.idiv, 1) := by decide +kernel
theorem dX12_takeHalf_17 : decode cX12_takeHalf 17 = .ok (.iload_n 1, 1) := by decide +kernel
theorem dX12_takeHalf_18 : decode cX12_takeHalf 18 = .ok (.iadd, 1) := by decide +kernel
theorem dX12_takeHalf_19 : decode cX12_takeHalf 19 = .ok (.iaload, 1) := by decide +kernel
theorem dX12_takeHalf_20 : decode cX12_takeHalf 20 = .ok (.iastore, 1) := by decide +kernel
theorem dX12_takeHalf_21 : decode cX12_takeHalf 21 = .ok (.iinc 1 1, 3) := by decide +kernel
theorem dX12_takeHalf_24 : decode cX12_takeHalf 24 = .ok (.goto (-22), 3) := by decide +kernel
theorem dX12_takeHalf_27 : decode cX12_takeHalf 27 = .ok (.return_, 1) := by decide +kernel
theorem dX12_take_0 : decode cX12_take 0 = .ok (.aload_n 0, 1) := by decide +kernel
theorem dX12_take_1 : decode cX12_take 1 = .ok (.getfield 23, 3) := by decide +kernel
theorem dX12_take_4 : decode cX12_take 4 = .ok (.invokestatic 228, 3) := by decide +kernel
theorem dX12_take_7 : decode cX12_take 7 = .ok (.aload_n 0, 1) := by decide +kernel
theorem dX12_take_8 : decode cX12_take 8 = .ok (.getfield 27, 3) := by decide +kernel
theorem dX12_take_11 : decode cX12_take 11 = .ok (.invokestatic 228, 3) := by decide +kernel
theorem dX12_take_14 : decode cX12_take 14 = .ok (.aload_n 0, 1) := by decide +kernel
theorem dX12_take_15 : decode cX12_take 15 = .ok (.getfield 30, 3) := by decide +kernel
theorem dX12_take_18 : decode cX12_take 18 = .ok (.invokestatic 228, 3) := by decide +kernel
theorem dX12_take_21 : decode cX12_take 21 = .ok (.aload_n 0, 1) := by decide +kernel
theorem dX12_take_22 : decode cX12_take 22 = .ok (.getfield 33, 3) := by decide +kernel
theorem dX12_take_25 : decode cX12_take 25 = .ok (.invokestatic 228, 3) := by decide +kernel
theorem dX12_take_28 : decode cX12_take 28 = .ok (.aload_n 0, 1) := by decide +kernel
theorem dX12_take_29 : decode cX12_take 29 = .ok (.getfield 36, 3) := by decide +kernel
theorem dX12_take_32 : decode cX12_take 32 = .ok (.invokestatic 228, 3) := by decide +kernel
theorem dX12_take_35 : decode cX12_take 35 = .ok (.aload_n 0, 1) := by decide +kernel
theorem dX12_take_36 : decode cX12_take 36 = .ok (.getfield 39, 3) := by decide +kernel
theorem dX12_take_39 : decode cX12_take 39 = .ok (.invokestatic 228, 3) := by decide +kernel
theorem dX12_take_42 : decode cX12_take 42 = .ok (.aload_n 0, 1) := by decide +kernel
theorem dX12_take_43 : decode cX12_take 43 = .ok (.getfield 42, 3) := by decide +kernel
theorem dX12_take_46 : decode cX12_take 46 = .ok (.invokestatic 228, 3) := by decide +kernel
theorem dX12_take_49 : decode cX12_take 49 = .ok (.aload_n 0, 1) := by decide +kernel
theorem dX12_take_50 : decode cX12_take 50 = .ok (.getfield 45, 3) := by decide +kernel
theorem dX12_take_53 : decode cX12_take 53 = .ok (.invokestatic 228, 3) := by decide +kernel
theorem dX12_take_56 : decode cX12_take 56 = .ok (.aload_n 0, 1) := by decide +kernel
theorem dX12_take_57 : decode cX12_take 57 = .ok (.getfield 48, 3) := by decide +kernel
theorem dX12_take_60 : decode cX12_take 60 = .ok (.invokestatic 228, 3) := by decide +kernel
theorem dX12_take_63 : decode cX12_take 63 = .ok (.aload_n 0, 1) := by decide +kernel
theorem dX12_take_64 : decode cX12_take 64 = .ok (.getfield 51, 3) := by decide +kernel
theorem dX12_take_67 : decode cX12_take 67 = .ok (.invokestatic 228, 3) := by decide +kernel
theorem dX12_take_70 : decode cX12_take 70 = .ok (.aload_n 0, 1) := by decide +kernel
theorem dX12_take_71 : decode cX12_take 71 = .ok (.getfield 54, 3) := by decide +kernel
theorem dX12_take_74 : decode cX12_take 74 = .ok (.invokestatic 228, 3) := by decide +kernel
theorem dX12_take_77 : decode cX12_take 77 = .ok (.aload_n 0, 1) := by decide +kernel
theorem dX12_take_78 : decode cX12_take 78 = .ok (.getfield 57, 3) := by decide +kernel
theorem dX12_take_81 : decode cX12_take 81 = .ok (.invokestatic 228, 3) := by decide +kernel
theorem dX12_take_84 : decode cX12_take 84 = .ok (.iconst 0, 1) := by decide +kernel
theorem dX12_take_85 : decode cX12_take 85 = .ok (.istore_n 1, 1) := by decide +kernel
theorem dX12_take_86 : decode cX12_take 86 = .ok (.iload_n 1, 1) := by decide +kernel
theorem dX12_take_87 : decode cX12_take 87 = .ok (.bipush 7, 2) := by decide +kernel
theorem dX12_take_89 : decode cX12_take 89 = .ok (.if_icmp .ge 16, 3) := by decide +kernel
theorem dX12_take_92 : decode cX12_take 92 = .ok (.aload_n 0, 1) := by decide +kernel
theorem dX12_take_93 : decode cX12_take 93 = .ok (.getfield 70, 3) := by decide +kernel
theorem dX12_take_96 : decode cX12_take 96 = .ok (.iload_n 1, 1) := by decide +kernel
theorem dX12_take_97 : decode cX12_take 97 = .ok (.iload_n 1, 1) := by decide +kernel
theorem dX12_take_98 : decode cX12_take 98 = .ok (.iastore, 1) := by decide +kernel
theorem dX12_take_99 : decode cX12_take 99 = .ok (.iinc 1 1, 3) := by decide +kernel
theorem dX12_take_102 : decode cX12_take 102 = .ok (.goto (-16), 3) := by decide +kernel
theorem dX12_take_105 : decode cX12_take 105 = .ok (.iconst 0, 1) := by decide +kernel
theorem dX12_take_106 : decode cX12_take 106 = .ok (.istore_n 1, 1) := by decide +kernel
theorem dX12_take_107 : decode cX12_take 107 = .ok (.iload_n 1, 1) := by decide +kernel
theorem dX12_take_108 : decode cX12_take 108 = .ok (.bipush 10, 2) := by decide +kernel
theorem dX12_take_110 : decode cX12_take 110 = .ok (.if_icmp .ge 16, 3) := by decide +kernel
theorem dX12_take_113 : decode cX12_take 113 = .ok (.aload_n 0, 1) := by decide +kernel
theorem dX12_take_114 : decode cX12_take 114 = .ok (.getfield 73, 3) := by decide +kernel
theorem dX12_take_117 : decode cX12_take 117 = .ok (.iload_n 1, 1) := by decide +kernel
theorem dX12_take_118 : decode cX12_take 118 = .ok (.iload_n 1, 1) := by decide +kernel
theorem dX12_take_119 : decode cX12_take 119 = .ok (.iastore, 1) := by decide +kernel
theorem dX12_take_120 : decode cX12_take 120 = .ok (.iinc 1 1, 3) := by decide +kernel
theorem dX12_take_123 : decode cX12_take 123 = .ok (.goto (-16), 3) := by decide +kernel
theorem dX12_take_126 : decode cX12_take 126 = .ok (.aload_n 0, 1) := by decide +kernel
theorem dX12_take_127 : decode cX12_take 127 = .ok (.iconst 0, 1) := by decide +kernel
theorem dX12_take_128 : decode cX12_take 128 = .ok (.putfield 232, 3) := by decide +kernel
theorem dX12_take_131 : decode cX12_take 131 = .ok (.aload_n 0, 1) := by decide +kernel
theorem dX12_take_132 : decode cX12_take 132 = .ok (.iconst 0, 1) := by decide +kernel
theorem dX12_take_133 : decode cX12_take 133 = .ok (.putfield 235, 3) := by decide +kernel
theorem dX12_take_136 : decode cX12_take 136 = .ok (.aload_n 0, 1) := by decide +kernel
theorem dX12_take_137 : decode cX12_take 137 = .ok (.iconst 0, 1) := by decide +kernel
theorem dX12_take_138 : decode cX12_take 138 = .ok (.putfield 239, 3) := by decide +kernel
theorem dX12_take_141 : decode cX12_take 141 = .ok (.return_, 1) := by decide +kernel
theorem dX12_fault_0 : decode cX12_fault 0 = .ok (.aload_n 0, 1) := by decide +kernel
theorem dX12_fault_1 : decode cX12_fault 1 = .ok (.iconst 0, 1) := by decide +kernel
theorem dX12_fault_2 : decode cX12_fault 2 = .ok (.putfield 122, 3) := by decide +kernel
theorem dX12_fault_5 : decode cX12_fault 5 = .ok (.aload_n 0, 1) := by decide +kernel
theorem dX12_fault_6 : decode cX12_fault 6 = .ok (.getfield 66, 3) := by decide +kernel
theorem dX12_fault_9 : decode cX12_fault 9 = .ok (.ireturn, 1) := by decide +kernel
theorem dX12_isHeard_0 : decode cX12_isHeard 0 = .ok (.aload_n 0, 1) := by decide +kernel
theorem dX12_isHeard_1 : decode cX12_isHeard 1 = .ok (.getfield 76, 3) := by decide +kernel
theorem dX12_isHeard_4 : decode cX12_isHeard 4 = .ok (.iload_n 1, 1) := by decide +kernel
theorem dX12_isHeard_5 : decode cX12_isHeard 5 = .ok (.iaload, 1) := by decide +kernel
theorem dX12_isHeard_6 : decode cX12_isHeard 6 = .ok (.iconst (-1), 1) := by decide +kernel
theorem dX12_isHeard_7 : decode cX12_isHeard 7 = .ok (.if_icmp .eq 34, 3) := by decide +kernel
theorem dX12_isHeard_10 : decode cX12_isHeard 10 = .ok (.iload_n 2, 1) := by decide +kernel
theorem dX12_isHeard_11 : decode cX12_isHeard 11 = .ok (.aload_n 0, 1) := by decide +kernel
theorem dX12_isHeard_12 : decode cX12_isHeard 12 = .ok (.getfield 76, 3) := by decide +kernel
theorem dX12_isHeard_15 : decode cX12_isHeard 15 = .ok (.iload_n 1, 1) := by decide +kernel
theorem dX12_isHeard_16 : decode cX12_isHeard 16 = .ok (.iaload, 1) := by decide +kernel
theorem dX12_isHeard_17 : decode cX12_isHeard 17 = .ok (.if_icmp .lt 24, 3) := by decide +kernel
theorem dX12_isHeard_20 : decode cX12_isHeard 20 = .ok (.iload_n 2, 1) := by decide +kernel
theorem dX12_isHeard_21 : decode cX12_isHeard 21 = .ok (.aload_n 0, 1) := by decide +kernel
theorem dX12_isHeard_22 : decode cX12_isHeard 22 = .ok (.getfield 76, 3) := by decide +kernel
theorem dX12_isHeard_25 : decode cX12_isHeard 25 = .ok (.iload_n 1, 1) := by decide +kernel
theorem dX12_isHeard_26 : decode cX12_isHeard 26 = .ok (.iaload, 1) := by decide +kernel
theorem dX12_isHeard_27 : decode cX12_isHeard 27 = .ok (.aload_n 0, 1) := by decide +kernel
theorem dX12_isHeard_28 : decode cX12_isHeard 28 = .ok (.getfield 33, 3) := by decide +kernel
theorem dX12_isHeard_31 : decode cX12_isHeard 31 = .ok (.iload_n 1, 1) := by decide +kernel
theorem dX12_isHeard_32 : decode cX12_isHeard 32 = .ok (.iaload, 1) := by decide +kernel
theorem dX12_isHeard_33 : decode cX12_isHeard 33 = .ok (.iadd, 1) := by decide +kernel
theorem dX12_isHeard_34 : decode cX12_isHeard 34 = .ok (.if_icmp .ge 7, 3) := by decide +kernel
theorem dX12_isHeard_37 : decode cX12_isHeard 37 = .ok (.iconst 1, 1) := by decide +kernel
theorem dX12_isHeard_38 : decode cX12_isHeard 38 = .ok (.goto 4, 3) := by decide +kernel
theorem dX12_isHeard_41 : decode cX12_isHeard 41 = .ok (.iconst 0, 1) := by decide +kernel
theorem dX12_isHeard_42 : decode cX12_isHeard 42 = .ok (.ireturn, 1) := by decide +kernel
theorem dX12_heardOn_0 : decode cX12_heardOn 0 = .ok (.iconst 0, 1) := by decide +kernel
theorem dX12_heardOn_1 : decode cX12_heardOn 1 = .ok (.istore_n 2, 1) := by decide +kernel
theorem dX12_heardOn_2 : decode cX12_heardOn 2 = .ok (.iconst 0, 1) := by decide +kernel
theorem dX12_heardOn_3 : decode cX12_heardOn 3 = .ok (.istore_n 3, 1) := by decide +kernel
theorem dX12_heardOn_4 : decode cX12_heardOn 4 = .ok (.iload_n 3, 1) := by decide +kernel
theorem dX12_heardOn_5 : decode cX12_heardOn 5 = .ok (.aload_n 0, 1) := by decide +kernel
theorem dX12_heardOn_6 : decode cX12_heardOn 6 = .ok (.getfield 23, 3) := by decide +kernel
theorem dX12_heardOn_9 : decode cX12_heardOn 9 = .ok (.iconst 1, 1) := by decide +kernel
theorem dX12_heardOn_10 : decode cX12_heardOn 10 = .ok (.iaload, 1) := by decide +kernel
theorem dX12_heardOn_11 : decode cX12_heardOn 11 = .ok (.if_icmp .ge 28, 3) := by decide +kernel
theorem dX12_heardOn_14 : decode cX12_heardOn 14 = .ok (.iload_n 2, 1) := by decide +kernel
theorem dX12_heardOn_15 : decode cX12_heardOn 15 = .ok (.aload_n 0, 1) := by decide +kernel
theorem dX12_heardOn_16 : decode cX12_heardOn 16 = .ok (.iload_n 3, 1) := by decide +kernel
theorem dX12_heardOn_17 : decode cX12_heardOn 17 = .ok (.iload_n 1, 1) := by decide +kernel
theorem dX12_heardOn_18 : decode cX12_heardOn 18 = .ok (.invokevirtual 242, 3) := by decide +kernel
theorem dX12_heardOn_21 : decode cX12_heardOn 21 = .ok (.ifCond .eq 9, 3) := by decide +kernel
theorem dX12_heardOn_24 : decode cX12_heardOn 24 = .ok (.iconst 1, 1) := by decide +kernel
theorem dX12_heardOn_25 : decode cX12_heardOn 25 = .ok (.iload_n 3, 1) := by decide +kernel
theorem dX12_heardOn_26 : decode cX12_heardOn 26 = .ok (.ishl, 1) := by decide +kernel
theorem dX12_heardOn_27 : decode cX12_heardOn 27 = .ok (.goto 4, 3) := by decide +kernel
theorem dX12_heardOn_30 : decode cX12_heardOn 30 = .ok (.iconst 0, 1) := by decide +kernel
theorem dX12_heardOn_31 : decode cX12_heardOn 31 = .ok (.ior, 1) := by decide +kernel
theorem dX12_heardOn_32 : decode cX12_heardOn 32 = .ok (.istore_n 2, 1) := by decide +kernel
theorem dX12_heardOn_33 : decode cX12_heardOn 33 = .ok (.iinc 3 1, 3) := by decide +kernel
theorem dX12_heardOn_36 : decode cX12_heardOn 36 = .ok (.goto (-32), 3) := by decide +kernel
theorem dX12_heardOn_39 : decode cX12_heardOn 39 = .ok (.iload_n 2, 1) := by decide +kernel
theorem dX12_heardOn_40 : decode cX12_heardOn 40 = .ok (.ireturn, 1) := by decide +kernel
theorem dX12_upOn_0 : decode cX12_upOn 0 = .ok (.iconst 0, 1) := by decide +kernel
theorem dX12_upOn_1 : decode cX12_upOn 1 = .ok (.istore_n 2, 1) := by decide +kernel
theorem dX12_upOn_2 : decode cX12_upOn 2 = .ok (.iconst 0, 1) := by decide +kernel
theorem dX12_upOn_3 : decode cX12_upOn 3 = .ok (.istore_n 3, 1) := by decide +kernel
theorem dX12_upOn_4 : decode cX12_upOn 4 = .ok (.iload_n 3, 1) := by decide +kernel
theorem dX12_upOn_5 : decode cX12_upOn 5 = .ok (.aload_n 0, 1) := by decide +kernel
theorem dX12_upOn_6 : decode cX12_upOn 6 = .ok (.getfield 23, 3) := by decide +kernel
theorem dX12_upOn_9 : decode cX12_upOn 9 = .ok (.iconst 1, 1) := by decide +kernel
theorem dX12_upOn_10 : decode cX12_upOn 10 = .ok (.iaload, 1) := by decide +kernel
theorem dX12_upOn_11 : decode cX12_upOn 11 = .ok (.if_icmp .ge 31, 3) := by decide +kernel
theorem dX12_upOn_14 : decode cX12_upOn 14 = .ok (.iload_n 2, 1) := by decide +kernel
theorem dX12_upOn_15 : decode cX12_upOn 15 = .ok (.aload_n 0, 1) := by decide +kernel
theorem dX12_upOn_16 : decode cX12_upOn 16 = .ok (.iload_n 3, 1) := by decide +kernel
theorem dX12_upOn_17 : decode cX12_upOn 17 = .ok (.iload_n 1, 1) := by decide +kernel
theorem dX12_upOn_18 : decode cX12_upOn 18 = .ok (.invokevirtual 242, 3) := by decide +kernel
theorem dX12_upOn_21 : decode cX12_upOn 21 = .ok (.ifCond .eq 12, 3) := by decide +kernel
theorem dX12_upOn_24 : decode cX12_upOn 24 = .ok (.aload_n 0, 1) := by decide +kernel
theorem dX12_upOn_25 : decode cX12_upOn 25 = .ok (.getfield 36, 3) := by decide +kernel
theorem dX12_upOn_28 : decode cX12_upOn 28 = .ok (.iload_n 3, 1) := by decide +kernel
theorem dX12_upOn_29 : decode cX12_upOn 29 = .ok (.iaload, 1) := by decide +kernel
theorem dX12_upOn_30 : decode cX12_upOn 30 = .ok (.goto 4, 3) := by decide +kernel
theorem dX12_upOn_33 : decode cX12_upOn 33 = .ok (.iconst 0, 1) := by decide +kernel
theorem dX12_upOn_34 : decode cX12_upOn 34 = .ok (.ior, 1) := by decide +kernel
theorem dX12_upOn_35 : decode cX12_upOn 35 = .ok (.istore_n 2, 1) := by decide +kernel
theorem dX12_upOn_36 : decode cX12_upOn 36 = .ok (.iinc 3 1, 3) := by decide +kernel
theorem dX12_upOn_39 : decode cX12_upOn 39 = .ok (.goto (-35), 3) := by decide +kernel
theorem dX12_upOn_42 : decode cX12_upOn 42 = .ok (.iload_n 2, 1) := by decide +kernel
theorem dX12_upOn_43 : decode cX12_upOn 43 = .ok (.ireturn, 1) := by decide +kernel
theorem dX12_canBegin_0 : decode cX12_canBegin 0 = .ok (.aload_n 0, 1) := by decide +kernel
theorem dX12_canBegin_1 : decode cX12_canBegin 1 = .ok (.getfield 76, 3) := by decide +kernel
theorem dX12_canBegin_4 : decode cX12_canBegin 4 = .ok (.iload_n 1, 1) := by decide +kernel
theorem dX12_canBegin_5 : decode cX12_canBegin 5 = .ok (.iaload, 1) := by decide +kernel
theorem dX12_canBegin_6 : decode cX12_canBegin 6 = .ok (.iconst (-1), 1) := by decide +kernel
theorem dX12_canBegin_7 : decode cX12_canBegin 7 = .ok (.if_icmp .ne 18, 3) := by decide +kernel
theorem dX12_canBegin_10 : decode cX12_canBegin 10 = .ok (.aload_n 0, 1) := by decide +kernel
theorem dX12_canBegin_11 : decode cX12_canBegin 11 = .ok (.iload_n 2, 1) := by decide +kernel
theorem dX12_canBegin_12 : decode cX12_canBegin 12 = .ok (.invokevirtual 245, 3) := by decide +kernel
theorem dX12_canBegin_15 : decode cX12_canBegin 15 = .ok (.aload_n 0, 1) := by decide +kernel
theorem dX12_canBegin_16 : decode cX12_canBegin 16 = .ok (.getfield 36, 3) := by decide +kernel
theorem dX12_canBegin_19 : decode cX12_canBegin 19 = .ok (.iload_n 1, 1) := by decide +kernel
theorem dX12_canBegin_20 : decode cX12_canBegin 20 = .ok (.iaload, 1) := by decide +kernel
theorem dX12_canBegin_21 : decode cX12_canBegin 21 = .ok (.iand, 1) := by decide +kernel
theorem dX12_canBegin_22 : decode cX12_canBegin 22 = .ok (.ifCond .eq 5, 3) := by decide +kernel
theorem dX12_canBegin_25 : decode cX12_canBegin 25 = .ok (.iconst 0, 1) := by decide +kernel
theorem dX12_canBegin_26 : decode cX12_canBegin 26 = .ok (.ireturn, 1) := by decide +kernel
theorem dX12_canBegin_27 : decode cX12_canBegin 27 = .ok (.iconst 0, 1) := by decide +kernel
theorem dX12_canBegin_28 : decode cX12_canBegin 28 = .ok (.istore_n 3, 1) := by decide +kernel
theorem dX12_canBegin_29 : decode cX12_canBegin 29 = .ok (.iload_n 3, 1) := by decide +kernel
theorem dX12_canBegin_30 : decode cX12_canBegin 30 = .ok (.aload_n 0, 1) := by decide +kernel
theorem dX12_canBegin_31 : decode cX12_canBegin 31 = .ok (.getfield 23, 3) := by decide +kernel
theorem dX12_canBegin_34 : decode cX12_canBegin 34 = .ok (.iconst 1, 1) := by decide +kernel
theorem dX12_canBegin_35 : decode cX12_canBegin 35 = .ok (.iaload, 1) := by decide +kernel
theorem dX12_canBegin_36 : decode cX12_canBegin 36 = .ok (.if_icmp .ge 35, 3) := by decide +kernel
theorem dX12_canBegin_39 : decode cX12_canBegin 39 = .ok (.aload_n 0, 1) := by decide +kernel
theorem dX12_canBegin_40 : decode cX12_canBegin 40 = .ok (.getfield 30, 3) := by decide +kernel
theorem dX12_canBegin_43 : decode cX12_canBegin 43 = .ok (.iload_n 3, 1) := by decide +kernel
theorem dX12_canBegin_44 : decode cX12_canBegin 44 = .ok (.iaload, 1) := by decide +kernel
theorem dX12_canBegin_45 : decode cX12_canBegin 45 = .ok (.aload_n 0, 1) := by decide +kernel
theorem dX12_canBegin_46 : decode cX12_canBegin 46 = .ok (.getfield 30, 3) := by decide +kernel
theorem dX12_canBegin_49 : decode cX12_canBegin 49 = .ok (.iload_n 1, 1) := by decide +kernel
theorem dX12_canBegin_50 : decode cX12_canBegin 50 = .ok (.iaload, 1) := by decide +kernel
theorem dX12_canBegin_51 : decode cX12_canBegin 51 = .ok (.if_icmp .ne 14, 3) := by decide +kernel
theorem dX12_canBegin_54 : decode cX12_canBegin 54 = .ok (.aload_n 0, 1) := by decide +kernel
theorem dX12_canBegin_55 : decode cX12_canBegin 55 = .ok (.iload_n 3, 1) := by decide +kernel
theorem dX12_canBegin_56 : decode cX12_canBegin 56 = .ok (.iload_n 2, 1) := by decide +kernel
theorem dX12_canBegin_57 : decode cX12_canBegin 57 = .ok (.invokevirtual 242, 3) := by decide +kernel
theorem dX12_canBegin_60 : decode cX12_canBegin 60 = .ok (.ifCond .eq 5, 3) := by decide +kernel
theorem dX12_canBegin_63 : decode cX12_canBegin 63 = .ok (.iconst 0, 1) := by decide +kernel
theorem dX12_canBegin_64 : decode cX12_canBegin 64 = .ok (.ireturn, 1) := by decide +kernel
theorem dX12_canBegin_65 : decode cX12_canBegin 65 = .ok (.iinc 3 1, 3) := by decide +kernel
theorem dX12_canBegin_68 : decode cX12_canBegin 68 = .ok (.goto (-39), 3) := by decide +kernel
theorem dX12_canBegin_71 : decode cX12_canBegin 71 = .ok (.iconst 1, 1) := by decide +kernel
theorem dX12_canBegin_72 : decode cX12_canBegin 72 = .ok (.ireturn, 1) := by decide +kernel
theorem dX12_tellTerm_0 : decode cX12_tellTerm 0 = .ok (.iconst 0, 1) := by decide +kernel
theorem dX12_tellTerm_1 : decode cX12_tellTerm 1 = .ok (.istore_n 2, 1) := by decide +kernel
theorem dX12_tellTerm_2 : decode cX12_tellTerm 2 = .ok (.iload_n 2, 1) := by decide +kernel
theorem dX12_tellTerm_3 : decode cX12_tellTerm 3 = .ok (.bipush 7, 2) := by decide +kernel
theorem dX12_tellTerm_5 : decode cX12_tellTerm 5 = .ok (.if_icmp .ge 16, 3) := by decide +kernel
theorem dX12_tellTerm_8 : decode cX12_tellTerm 8 = .ok (.aload_n 0, 1) := by decide +kernel
theorem dX12_tellTerm_9 : decode cX12_tellTerm 9 = .ok (.getfield 76, 3) := by decide +kernel
theorem dX12_tellTerm_12 : decode cX12_tellTerm 12 = .ok (.iload_n 2, 1) := by decide +kernel
theorem dX12_tellTerm_13 : decode cX12_tellTerm 13 = .ok (.iconst (-1), 1) := by decide +kernel
theorem dX12_tellTerm_14 : decode cX12_tellTerm 14 = .ok (.iastore, 1) := by decide +kernel
theorem dX12_tellTerm_15 : decode cX12_tellTerm 15 = .ok (.iinc 2 1, 3) := by decide +kernel
theorem dX12_tellTerm_18 : decode cX12_tellTerm 18 = .ok (.goto (-16), 3) := by decide +kernel
theorem dX12_tellTerm_21 : decode cX12_tellTerm 21 = .ok (.aload_n 0, 1) := by decide +kernel
theorem dX12_tellTerm_22 : decode cX12_tellTerm 22 = .ok (.iconst 0, 1) := by decide +kernel
theorem dX12_tellTerm_23 : decode cX12_tellTerm 23 = .ok (.putfield 248, 3) := by decide +kernel
theorem dX12_tellTerm_26 : decode cX12_tellTerm 26 = .ok (.aload_n 0, 1) := by decide +kernel
theorem dX12_tellTerm_27 : decode cX12_tellTerm 27 = .ok (.getfield 23, 3) := by decide +kernel
theorem dX12_tellTerm_30 : decode cX12_tellTerm 30 = .ok (.iconst 1, 1) := by decide +kernel
theorem dX12_tellTerm_31 : decode cX12_tellTerm 31 = .ok (.iaload, 1) := by decide +kernel
theorem dX12_tellTerm_32 : decode cX12_tellTerm 32 = .ok (.istore_n 2, 1) := by decide +kernel
theorem dX12_tellTerm_33 : decode cX12_tellTerm 33 = .ok (.iconst 0, 1) := by decide +kernel
theorem dX12_tellTerm_34 : decode cX12_tellTerm 34 = .ok (.istore_n 3, 1) := by decide +kernel
theorem dX12_tellTerm_35 : decode cX12_tellTerm 35 = .ok (.iload_n 2, 1) := by decide +kernel
theorem dX12_tellTerm_36 : decode cX12_tellTerm 36 = .ok (.ifCond .le 79, 3) := by decide +kernel
theorem dX12_tellTerm_39 : decode cX12_tellTerm 39 = .ok (.iconst 0, 1) := by decide +kernel
theorem dX12_tellTerm_40 : decode cX12_tellTerm 40 = .ok (.istore 4, 2) := by decide +kernel
theorem dX12_tellTerm_42 : decode cX12_tellTerm 42 = .ok (.iload 4, 2) := by decide +kernel
theorem dX12_tellTerm_44 : decode cX12_tellTerm 44 = .ok (.aload_n 0, 1) := by decide +kernel
theorem dX12_tellTerm_45 : decode cX12_tellTerm 45 = .ok (.getfield 23, 3) := by decide +kernel
theorem dX12_tellTerm_48 : decode cX12_tellTerm 48 = .ok (.iconst 1, 1) := by decide +kernel
theorem dX12_tellTerm_49 : decode cX12_tellTerm 49 = .ok (.iaload, 1) := by decide +kernel
theorem dX12_tellTerm_50 : decode cX12_tellTerm 50 = .ok (.if_icmp .ge 59, 3) := by decide +kernel
theorem dX12_tellTerm_53 : decode cX12_tellTerm 53 = .ok (.aload_n 1, 1) := by decide +kernel
theorem dX12_tellTerm_54 : decode cX12_tellTerm 54 = .ok (.iload 4, 2) := by decide +kernel
theorem dX12_tellTerm_56 : decode cX12_tellTerm 56 = .ok (.iaload, 1) := by decide +kernel
theorem dX12_tellTerm_57 : decode cX12_tellTerm 57 = .ok (.istore 5, 2) := by decide +kernel
theorem dX12_tellTerm_59 : decode cX12_tellTerm 59 = .ok (.aload_n 0, 1) := by decide +kernel
theorem dX12_tellTerm_60 : decode cX12_tellTerm 60 = .ok (.iload 5, 2) := by decide +kernel
theorem dX12_tellTerm_62 : decode cX12_tellTerm 62 = .ok (.iload_n 3, 1) := by decide +kernel
theorem dX12_tellTerm_63 : decode cX12_tellTerm 63 = .ok (.invokevirtual 251, 3) := by decide +kernel
theorem dX12_tellTerm_66 : decode cX12_tellTerm 66 = .ok (.ifCond .ne 6, 3) := by decide +kernel
theorem dX12_tellTerm_69 : decode cX12_tellTerm 69 = .ok (.goto 34, 3) := by decide +kernel
theorem dX12_tellTerm_72 : decode cX12_tellTerm 72 = .ok (.aload_n 0, 1) := by decide +kernel
theorem dX12_tellTerm_73 : decode cX12_tellTerm 73 = .ok (.getfield 76, 3) := by decide +kernel
theorem dX12_tellTerm_76 : decode cX12_tellTerm 76 = .ok (.iload 5, 2) := by decide +kernel
theorem dX12_tellTerm_78 : decode cX12_tellTerm 78 = .ok (.iload_n 3, 1) := by decide +kernel
theorem dX12_tellTerm_79 : decode cX12_tellTerm 79 = .ok (.iastore, 1) := by decide +kernel
theorem dX12_tellTerm_80 : decode cX12_tellTerm 80 = .ok (.aload_n 0, 1) := by decide +kernel
theorem dX12_tellTerm_81 : decode cX12_tellTerm 81 = .ok (.aload_n 0, 1) := by decide +kernel
theorem dX12_tellTerm_82 : decode cX12_tellTerm 82 = .ok (.getfield 248, 3) := by decide +kernel
theorem dX12_tellTerm_85 : decode cX12_tellTerm 85 = .ok (.iload_n 3, 1) := by decide +kernel
theorem dX12_tellTerm_86 : decode cX12_tellTerm 86 = .ok (.aload_n 0, 1) := by decide +kernel
theorem dX12_tellTerm_87 : decode cX12_tellTerm 87 = .ok (.getfield 33, 3) := by decide +kernel
theorem dX12_tellTerm_90 : decode cX12_tellTerm 90 = .ok (.iload 5, 2) := by decide +kernel
theorem dX12_tellTerm_92 : decode cX12_tellTerm 92 = .ok (.iaload, 1) := by decide +kernel
theorem dX12_tellTerm_93 : decode cX12_tellTerm 93 = .ok (.iadd, 1) := by decide +kernel
theorem dX12_tellTerm_94 : decode cX12_tellTerm 94 = .ok (.invokestatic 254, 3) := by decide +kernel
theorem dX12_tellTerm_97 : decode cX12_tellTerm 97 = .ok (.putfield 248, 3) := by decide +kernel
theorem dX12_tellTerm_100 : decode cX12_tellTerm 100 = .ok (.iinc 2 (-1), 3) := by decide +kernel
theorem dX12_tellTerm_103 : decode cX12_tellTerm 103 = .ok (.iinc 4 1, 3) := by decide +kernel
theorem dX12_tellTerm_106 : decode cX12_tellTerm 106 = .ok (.goto (-64), 3) := by decide +kernel
theorem dX12_tellTerm_109 : decode cX12_tellTerm 109 = .ok (.iinc 3 1, 3) := by decide +kernel
theorem dX12_tellTerm_112 : decode cX12_tellTerm 112 = .ok (.goto (-77), 3) := by decide +kernel
theorem dX12_tellTerm_115 : decode cX12_tellTerm 115 = .ok (.return_, 1) := by decide +kernel
theorem dX12_count_0 : decode cX12_count 0 = .ok (.aload_n 0, 1) := by decide +kernel
theorem dX12_count_1 : decode cX12_count 1 = .ok (.iconst 0, 1) := by decide +kernel
theorem dX12_count_2 : decode cX12_count 2 = .ok (.putfield 122, 3) := by decide +kernel
theorem dX12_count_5 : decode cX12_count 5 = .ok (.iload_n 1, 1) := by decide +kernel
theorem dX12_count_6 : decode cX12_count 6 = .ok (.iconst 0, 1) := by decide +kernel
theorem dX12_count_7 : decode cX12_count 7 = .ok (.iconst 5, 1) := by decide +kernel
theorem dX12_count_8 : decode cX12_count 8 = .ok (.invokestatic 125, 3) := by decide +kernel
theorem dX12_count_11 : decode cX12_count 11 = .ok (.ifCond .eq 10, 3) := by decide +kernel
theorem dX12_count_14 : decode cX12_count 14 = .ok (.aload_n 0, 1) := by decide +kernel
theorem dX12_count_15 : decode cX12_count 15 = .ok (.getfield 23, 3) := by decide +kernel
theorem dX12_count_18 : decode cX12_count 18 = .ok (.iload_n 1, 1) := by decide +kernel
theorem dX12_count_19 : decode cX12_count 19 = .ok (.iaload, 1) := by decide +kernel
theorem dX12_count_20 : decode cX12_count 20 = .ok (.ireturn, 1) := by decide +kernel
theorem dX12_count_21 : decode cX12_count 21 = .ok (.aload_n 0, 1) := by decide +kernel
theorem dX12_count_22 : decode cX12_count 22 = .ok (.aload_n 0, 1) := by decide +kernel
theorem dX12_count_23 : decode cX12_count 23 = .ok (.getfield 70, 3) := by decide +kernel
theorem dX12_count_26 : decode cX12_count 26 = .ok (.invokevirtual 257, 3) := by decide +kernel
theorem dX12_count_29 : decode cX12_count 29 = .ok (.iload_n 1, 1) := by decide +kernel
theorem dX12_count_30 : decode cX12_count 30 = .ok (.tableswitch 63 6 11 #[38, 43, 48, 53, 53, 53], 38) := by decide +kernel
theorem dX12_count_68 : decode cX12_count 68 = .ok (.aload_n 0, 1) := by decide +kernel
theorem dX12_count_69 : decode cX12_count 69 = .ok (.getfield 248, 3) := by decide +kernel
theorem dX12_count_72 : decode cX12_count 72 = .ok (.ireturn, 1) := by decide +kernel
theorem dX12_count_73 : decode cX12_count 73 = .ok (.aload_n 0, 1) := by decide +kernel
theorem dX12_count_74 : decode cX12_count 74 = .ok (.getfield 232, 3) := by decide +kernel
theorem dX12_count_77 : decode cX12_count 77 = .ok (.ireturn, 1) := by decide +kernel
theorem dX12_count_78 : decode cX12_count 78 = .ok (.aload_n 0, 1) := by decide +kernel
theorem dX12_count_79 : decode cX12_count 79 = .ok (.getfield 129, 3) := by decide +kernel
theorem dX12_count_82 : decode cX12_count 82 = .ok (.ireturn, 1) := by decide +kernel
theorem dX12_count_83 : decode cX12_count 83 = .ok (.aload_n 0, 1) := by decide +kernel
theorem dX12_count_84 : decode cX12_count 84 = .ok (.getfield 60, 3) := by decide +kernel
theorem dX12_count_87 : decode cX12_count 87 = .ok (.iload_n 1, 1) := by decide +kernel
theorem dX12_count_88 : decode cX12_count 88 = .ok (.bipush 9, 2) := by decide +kernel
theorem dX12_count_90 : decode cX12_count 90 = .ok (.isub, 1) := by decide +kernel
theorem dX12_count_91 : decode cX12_count 91 = .ok (.iaload, 1) := by decide +kernel
theorem dX12_count_92 : decode cX12_count 92 = .ok (.ireturn, 1) := by decide +kernel
theorem dX12_count_93 : decode cX12_count 93 = .ok (.aload_n 0, 1) := by decide +kernel
theorem dX12_count_94 : decode cX12_count 94 = .ok (.iconst 1, 1) := by decide +kernel
theorem dX12_count_95 : decode cX12_count 95 = .ok (.invokevirtual 219, 3) := by decide +kernel
theorem dX12_count_98 : decode cX12_count 98 = .ok (.ireturn, 1) := by decide +kernel
theorem dX12_book_0 : decode cX12_book 0 = .ok (.aload_n 0, 1) := by decide +kernel
theorem dX12_book_1 : decode cX12_book 1 = .ok (.iconst 0, 1) := by decide +kernel
theorem dX12_book_2 : decode cX12_book 2 = .ok (.putfield 122, 3) := by decide +kernel
theorem dX12_book_5 : decode cX12_book 5 = .ok (.aload_n 0, 1) := by decide +kernel
theorem dX12_book_6 : decode cX12_book 6 = .ok (.iload_n 1, 1) := by decide +kernel
theorem dX12_book_7 : decode cX12_book 7 = .ok (.invokevirtual 260, 3) := by decide +kernel
theorem dX12_book_10 : decode cX12_book 10 = .ok (.ifCond .eq 12, 3) := by decide +kernel
theorem dX12_book_13 : decode cX12_book 13 = .ok (.iload_n 2, 1) := by decide +kernel
theorem dX12_book_14 : decode cX12_book 14 = .ok (.iconst 0, 1) := by decide +kernel
theorem dX12_book_15 : decode cX12_book 15 = .ok (.iconst 2, 1) := by decide +kernel
theorem dX12_book_16 : decode cX12_book 16 = .ok (.invokestatic 125, 3) := by decide +kernel
theorem dX12_book_19 : decode cX12_book 19 = .ok (.ifCond .ne 9, 3) := by decide +kernel
theorem dX12_book_22 : decode cX12_book 22 = .ok (.aload_n 0, 1) := by decide +kernel
theorem dX12_book_23 : decode cX12_book 23 = .ok (.iconst 1, 1) := by decide +kernel
theorem dX12_book_24 : decode cX12_book 24 = .ok (.invokevirtual 219, 3) := by decide +kernel
theorem dX12_book_27 : decode cX12_book 27 = .ok (.ireturn, 1) := by decide +kernel
theorem dX12_book_28 : decode cX12_book 28 = .ok (.iconst 0, 1) := by decide +kernel
theorem dX12_book_29 : decode cX12_book 29 = .ok (.istore_n 3, 1) := by decide +kernel
theorem dX12_book_30 : decode cX12_book 30 = .ok (.aload_n 0, 1) := by decide +kernel
theorem dX12_book_31 : decode cX12_book 31 = .ok (.getfield 73, 3) := by decide +kernel
theorem dX12_book_34 : decode cX12_book 34 = .ok (.iload_n 3, 1) := by decide +kernel
theorem dX12_book_35 : decode cX12_book 35 = .ok (.iaload, 1) := by decide +kernel
theorem dX12_book_36 : decode cX12_book 36 = .ok (.iload_n 1, 1) := by decide +kernel
theorem dX12_book_37 : decode cX12_book 37 = .ok (.if_icmp .eq 9, 3) := by decide +kernel
theorem dX12_book_40 : decode cX12_book 40 = .ok (.iinc 3 1, 3) := by decide +kernel
theorem dX12_book_43 : decode cX12_book 43 = .ok (.goto (-13), 3) := by decide +kernel
theorem dX12_book_46 : decode cX12_book 46 = .ok (.iconst 0, 1) := by decide +kernel
theorem dX12_book_47 : decode cX12_book 47 = .ok (.istore 4, 2) := by decide +kernel
theorem dX12_book_49 : decode cX12_book 49 = .ok (.iconst 0, 1) := by decide +kernel
theorem dX12_book_50 : decode cX12_book 50 = .ok (.istore 5, 2) := by decide +kernel
theorem dX12_book_52 : decode cX12_book 52 = .ok (.iload 5, 2) := by decide +kernel
theorem dX12_book_54 : decode cX12_book 54 = .ok (.aload_n 0, 1) := by decide +kernel
theorem dX12_book_55 : decode cX12_book 55 = .ok (.getfield 23, 3) := by decide +kernel
theorem dX12_book_58 : decode cX12_book 58 = .ok (.iconst 1, 1) := by decide +kernel
theorem dX12_book_59 : decode cX12_book 59 = .ok (.iaload, 1) := by decide +kernel
theorem dX12_book_60 : decode cX12_book 60 = .ok (.if_icmp .ge 28, 3) := by decide +kernel
theorem dX12_book_63 : decode cX12_book 63 = .ok (.iload 4, 2) := by decide +kernel
theorem dX12_book_65 : decode cX12_book 65 = .ok (.aload_n 0, 1) := by decide +kernel
theorem dX12_book_66 : decode cX12_book 66 = .ok (.getfield 36, 3) := by decide +kernel
theorem dX12_book_69 : decode cX12_book 69 = .ok (.iload 5, 2) := by decide +kernel
theorem dX12_book_71 : decode cX12_book 71 = .ok (.iaload, 1) := by decide +kernel
theorem dX12_book_72 : decode cX12_book 72 = .ok (.iload_n 1, 1) := by decide +kernel
theorem dX12_book_73 : decode cX12_book 73 = .ok (.ishr, 1) := by decide +kernel
theorem dX12_book_74 : decode cX12_book 74 = .ok (.iconst 1, 1) := by decide +kernel
theorem dX12_book_75 : decode cX12_book 75 = .ok (.iand, 1) := by decide +kernel
theorem dX12_book_76 : decode cX12_book 76 = .ok (.iload 5, 2) := by decide +kernel
theorem dX12_book_78 : decode cX12_book 78 = .ok (.ishl, 1) := by decide +kernel
theorem dX12_book_79 : decode cX12_book 79 = .ok (.ior, 1) := by decide +kernel
theorem dX12_book_80 : decode cX12_book 80 = .ok (.istore 4, 2) := by decide +kernel
theorem dX12_book_82 : decode cX12_book 82 = .ok (.iinc 5 1, 3) := by decide +kernel
theorem dX12_book_85 : decode cX12_book 85 = .ok (.goto (-33), 3) := by decide +kernel
theorem dX12_book_88 : decode cX12_book 88 = .ok (.iload_n 2, 1) := by decide +kernel
theorem dX12_book_89 : decode cX12_book 89 = .ok (.ifCond .ne 12, 3) := by decide +kernel
theorem dX12_book_92 : decode cX12_book 92 = .ok (.aload_n 0, 1) := by decide +kernel
theorem dX12_book_93 : decode cX12_book 93 = .ok (.getfield 27, 3) := by decide +kernel
theorem dX12_book_96 : decode cX12_book 96 = .ok (.iload_n 1, 1) := by decide +kernel
theorem dX12_book_97 : decode cX12_book 97 = .ok (.iaload, 1) := by decide +kernel
theorem dX12_book_98 : decode cX12_book 98 = .ok (.goto 14, 3) := by decide +kernel
theorem dX12_book_101 : decode cX12_book 101 = .ok (.iload_n 2, 1) := by decide +kernel
theorem dX12_book_102 : decode cX12_book 102 = .ok (.iconst 1, 1) := by decide +kernel
theorem dX12_book_103 : decode cX12_book 103 = .ok (.if_icmp .ne 7, 3) := by decide +kernel
theorem dX12_book_106 : decode cX12_book 106 = .ok (.iload_n 3, 1) := by decide +kernel
theorem dX12_book_107 : decode cX12_book 107 = .ok (.goto 5, 3) := by decide +kernel
theorem dX12_book_110 : decode cX12_book 110 = .ok (.iload 4, 2) := by decide +kernel
theorem dX12_book_112 : decode cX12_book 112 = .ok (.ireturn, 1) := by decide +kernel
theorem dX12_hearing_0 : decode cX12_hearing 0 = .ok (.aload_n 0, 1) := by decide +kernel
theorem dX12_hearing_1 : decode cX12_hearing 1 = .ok (.iconst 0, 1) := by decide +kernel
theorem dX12_hearing_2 : decode cX12_hearing 2 = .ok (.putfield 122, 3) := by decide +kernel
theorem dX12_hearing_5 : decode cX12_hearing 5 = .ok (.iload_n 1, 1) := by decide +kernel
theorem dX12_hearing_6 : decode cX12_hearing 6 = .ok (.iconst 0, 1) := by decide +kernel
theorem dX12_hearing_7 : decode cX12_hearing 7 = .ok (.aload_n 0, 1) := by decide +kernel
theorem dX12_hearing_8 : decode cX12_hearing 8 = .ok (.getfield 23, 3) := by decide +kernel
theorem dX12_hearing_11 : decode cX12_hearing 11 = .ok (.iconst 1, 1) := by decide +kernel
theorem dX12_hearing_12 : decode cX12_hearing 12 = .ok (.iaload, 1) := by decide +kernel
theorem dX12_hearing_13 : decode cX12_hearing 13 = .ok (.iconst 1, 1) := by decide +kernel
theorem dX12_hearing_14 : decode cX12_hearing 14 = .ok (.isub, 1) := by decide +kernel
theorem dX12_hearing_15 : decode cX12_hearing 15 = .ok (.invokestatic 125, 3) := by decide +kernel
theorem dX12_hearing_18 : decode cX12_hearing 18 = .ok (.ifCond .eq 12, 3) := by decide +kernel
theorem dX12_hearing_21 : decode cX12_hearing 21 = .ok (.iload_n 2, 1) := by decide +kernel
theorem dX12_hearing_22 : decode cX12_hearing 22 = .ok (.iconst 0, 1) := by decide +kernel
theorem dX12_hearing_23 : decode cX12_hearing 23 = .ok (.iconst 4, 1) := by decide +kernel
theorem dX12_hearing_24 : decode cX12_hearing 24 = .ok (.invokestatic 125, 3) := by decide +kernel
theorem dX12_hearing_27 : decode cX12_hearing 27 = .ok (.ifCond .ne 9, 3) := by decide +kernel
theorem dX12_hearing_30 : decode cX12_hearing 30 = .ok (.aload_n 0, 1) := by decide +kernel
theorem dX12_hearing_31 : decode cX12_hearing 31 = .ok (.iconst 1, 1) := by decide +kernel
theorem dX12_hearing_32 : decode cX12_hearing 32 = .ok (.invokevirtual 219, 3) := by decide +kernel
theorem dX12_hearing_35 : decode cX12_hearing 35 = .ok (.ireturn, 1) := by decide +kernel
theorem dX12_hearing_36 : decode cX12_hearing 36 = .ok (.aload_n 0, 1) := by decide +kernel
theorem dX12_hearing_37 : decode cX12_hearing 37 = .ok (.aload_n 0, 1) := by decide +kernel
theorem dX12_hearing_38 : decode cX12_hearing 38 = .ok (.getfield 70, 3) := by decide +kernel
theorem dX12_hearing_41 : decode cX12_hearing 41 = .ok (.invokevirtual 257, 3) := by decide +kernel
theorem dX12_hearing_44 : decode cX12_hearing 44 = .ok (.iconst 0, 1) := by decide +kernel
theorem dX12_hearing_45 : decode cX12_hearing 45 = .ok (.istore_n 3, 1) := by decide +kernel
theorem dX12_hearing_46 : decode cX12_hearing 46 = .ok (.aload_n 0, 1) := by decide +kernel
theorem dX12_hearing_47 : decode cX12_hearing 47 = .ok (.getfield 70, 3) := by decide +kernel
theorem dX12_hearing_50 : decode cX12_hearing 50 = .ok (.iload_n 3, 1) := by decide +kernel
theorem dX12_hearing_51 : decode cX12_hearing 51 = .ok (.iaload, 1) := by decide +kernel
theorem dX12_hearing_52 : decode cX12_hearing 52 = .ok (.iload_n 1, 1) := by decide +kernel
theorem dX12_hearing_53 : decode cX12_hearing 53 = .ok (.if_icmp .eq 9, 3) := by decide +kernel
theorem dX12_hearing_56 : decode cX12_hearing 56 = .ok (.iinc 3 1, 3) := by decide +kernel
theorem dX12_hearing_59 : decode cX12_hearing 59 = .ok (.goto (-13), 3) := by decide +kernel
theorem dX12_hearing_62 : decode cX12_hearing 62 = .ok (.iload_n 2, 1) := by decide +kernel
theorem dX12_hearing_63 : decode cX12_hearing 63 = .ok (.ifCond .ne 12, 3) := by decide +kernel
theorem dX12_hearing_66 : decode cX12_hearing 66 = .ok (.aload_n 0, 1) := by decide +kernel
theorem dX12_hearing_67 : decode cX12_hearing 67 = .ok (.getfield 30, 3) := by decide +kernel
theorem dX12_hearing_70 : decode cX12_hearing 70 = .ok (.iload_n 1, 1) := by decide +kernel
theorem dX12_hearing_71 : decode cX12_hearing 71 = .ok (.iaload, 1) := by decide +kernel
theorem dX12_hearing_72 : decode cX12_hearing 72 = .ok (.goto 46, 3) := by decide +kernel
theorem dX12_hearing_75 : decode cX12_hearing 75 = .ok (.iload_n 2, 1) := by decide +kernel
theorem dX12_hearing_76 : decode cX12_hearing 76 = .ok (.iconst 1, 1) := by decide +kernel
theorem dX12_hearing_77 : decode cX12_hearing 77 = .ok (.if_icmp .ne 12, 3) := by decide +kernel
theorem dX12_hearing_80 : decode cX12_hearing 80 = .ok (.aload_n 0, 1) := by decide +kernel
theorem dX12_hearing_81 : decode cX12_hearing 81 = .ok (.getfield 33, 3) := by decide +kernel
theorem dX12_hearing_84 : decode cX12_hearing 84 = .ok (.iload_n 1, 1) := by decide +kernel
theorem dX12_hearing_85 : decode cX12_hearing 85 = .ok (.iaload, 1) := by decide +kernel
theorem dX12_hearing_86 : decode cX12_hearing 86 = .ok (.goto 32, 3) := by decide +kernel
theorem dX12_hearing_89 : decode cX12_hearing 89 = .ok (.iload_n 2, 1) := by decide +kernel
theorem dX12_hearing_90 : decode cX12_hearing 90 = .ok (.iconst 2, 1) := by decide +kernel
theorem dX12_hearing_91 : decode cX12_hearing 91 = .ok (.if_icmp .ne 12, 3) := by decide +kernel
theorem dX12_hearing_94 : decode cX12_hearing 94 = .ok (.aload_n 0, 1) := by decide +kernel
theorem dX12_hearing_95 : decode cX12_hearing 95 = .ok (.getfield 36, 3) := by decide +kernel
theorem dX12_hearing_98 : decode cX12_hearing 98 = .ok (.iload_n 1, 1) := by decide +kernel
theorem dX12_hearing_99 : decode cX12_hearing 99 = .ok (.iaload, 1) := by decide +kernel
theorem dX12_hearing_100 : decode cX12_hearing 100 = .ok (.goto 18, 3) := by decide +kernel
theorem dX12_hearing_103 : decode cX12_hearing 103 = .ok (.iload_n 2, 1) := by decide +kernel
theorem dX12_hearing_104 : decode cX12_hearing 104 = .ok (.iconst 3, 1) := by decide +kernel
theorem dX12_hearing_105 : decode cX12_hearing 105 = .ok (.if_icmp .ne 12, 3) := by decide +kernel
theorem dX12_hearing_108 : decode cX12_hearing 108 = .ok (.aload_n 0, 1) := by decide +kernel
theorem dX12_hearing_109 : decode cX12_hearing 109 = .ok (.getfield 76, 3) := by decide +kernel
theorem dX12_hearing_112 : decode cX12_hearing 112 = .ok (.iload_n 1, 1) := by decide +kernel
theorem dX12_hearing_113 : decode cX12_hearing 113 = .ok (.iaload, 1) := by decide +kernel
theorem dX12_hearing_114 : decode cX12_hearing 114 = .ok (.goto 4, 3) := by decide +kernel
theorem dX12_hearing_117 : decode cX12_hearing 117 = .ok (.iload_n 3, 1) := by decide +kernel
theorem dX12_hearing_118 : decode cX12_hearing 118 = .ok (.ireturn, 1) := by decide +kernel
theorem dX12_walker_0 : decode cX12_walker 0 = .ok (.aload_n 0, 1) := by decide +kernel
theorem dX12_walker_1 : decode cX12_walker 1 = .ok (.iconst 0, 1) := by decide +kernel
theorem dX12_walker_2 : decode cX12_walker 2 = .ok (.putfield 122, 3) := by decide +kernel
theorem dX12_walker_5 : decode cX12_walker 5 = .ok (.aload_n 0, 1) := by decide +kernel
theorem dX12_walker_6 : decode cX12_walker 6 = .ok (.iload_n 1, 1) := by decide +kernel
theorem dX12_walker_7 : decode cX12_walker 7 = .ok (.invokevirtual 263, 3) := by decide +kernel
theorem dX12_walker_10 : decode cX12_walker 10 = .ok (.ifCond .ne 9, 3) := by decide +kernel
theorem dX12_walker_13 : decode cX12_walker 13 = .ok (.aload_n 0, 1) := by decide +kernel
theorem dX12_walker_14 : decode cX12_walker 14 = .ok (.iconst 1, 1) := by decide +kernel
theorem dX12_walker_15 : decode cX12_walker 15 = .ok (.invokevirtual 219, 3) := by decide +kernel
theorem dX12_walker_18 : decode cX12_walker 18 = .ok (.ireturn, 1) := by decide +kernel
theorem dX12_walker_19 : decode cX12_walker 19 = .ok (.iload_n 2, 1) := by decide +kernel
theorem dX12_walker_20 : decode cX12_walker 20 = .ok (.tableswitch 82 0 5 #[40, 47, 54, 61, 68, 75], 40) := by decide +kernel
theorem dX12_walker_60 : decode cX12_walker 60 = .ok (.aload_n 0, 1) := by decide +kernel
theorem dX12_walker_61 : decode cX12_walker 61 = .ok (.getfield 39, 3) := by decide +kernel
theorem dX12_walker_64 : decode cX12_walker 64 = .ok (.iload_n 1, 1) := by decide +kernel
theorem dX12_walker_65 : decode cX12_walker 65 = .ok (.iaload, 1) := by decide +kernel
theorem dX12_walker_66 : decode cX12_walker 66 = .ok (.ireturn, 1) := by decide +kernel
theorem dX12_walker_67 : decode cX12_walker 67 = .ok (.aload_n 0, 1) := by decide +kernel
theorem dX12_walker_68 : decode cX12_walker 68 = .ok (.getfield 42, 3) := by decide +kernel
theorem dX12_walker_71 : decode cX12_walker 71 = .ok (.iload_n 1, 1) := by decide +kernel
theorem dX12_walker_72 : decode cX12_walker 72 = .ok (.iaload, 1) := by decide +kernel
theorem dX12_walker_73 : decode cX12_walker 73 = .ok (.ireturn, 1) := by decide +kernel
theorem dX12_walker_74 : decode cX12_walker 74 = .ok (.aload_n 0, 1) := by decide +kernel
theorem dX12_walker_75 : decode cX12_walker 75 = .ok (.getfield 45, 3) := by decide +kernel
theorem dX12_walker_78 : decode cX12_walker 78 = .ok (.iload_n 1, 1) := by decide +kernel
theorem dX12_walker_79 : decode cX12_walker 79 = .ok (.iaload, 1) := by decide +kernel
theorem dX12_walker_80 : decode cX12_walker 80 = .ok (.ireturn, 1) := by decide +kernel
theorem dX12_walker_81 : decode cX12_walker 81 = .ok (.aload_n 0, 1) := by decide +kernel
theorem dX12_walker_82 : decode cX12_walker 82 = .ok (.getfield 48, 3) := by decide +kernel
theorem dX12_walker_85 : decode cX12_walker 85 = .ok (.iload_n 1, 1) := by decide +kernel
theorem dX12_walker_86 : decode cX12_walker 86 = .ok (.iaload, 1) := by decide +kernel
theorem dX12_walker_87 : decode cX12_walker 87 = .ok (.ireturn, 1) := by decide +kernel
theorem dX12_walker_88 : decode cX12_walker 88 = .ok (.aload_n 0, 1) := by decide +kernel
theorem dX12_walker_89 : decode cX12_walker 89 = .ok (.getfield 51, 3) := by decide +kernel
theorem dX12_walker_92 : decode cX12_walker 92 = .ok (.iload_n 1, 1) := by decide +kernel
theorem dX12_walker_93 : decode cX12_walker 93 = .ok (.iaload, 1) := by decide +kernel
theorem dX12_walker_94 : decode cX12_walker 94 = .ok (.ireturn, 1) := by decide +kernel
theorem dX12_walker_95 : decode cX12_walker 95 = .ok (.aload_n 0, 1) := by decide +kernel
theorem dX12_walker_96 : decode cX12_walker 96 = .ok (.getfield 54, 3) := by decide +kernel
theorem dX12_walker_99 : decode cX12_walker 99 = .ok (.iload_n 1, 1) := by decide +kernel
theorem dX12_walker_100 : decode cX12_walker 100 = .ok (.iaload, 1) := by decide +kernel
theorem dX12_walker_101 : decode cX12_walker 101 = .ok (.ireturn, 1) := by decide +kernel
theorem dX12_walker_102 : decode cX12_walker 102 = .ok (.aload_n 0, 1) := by decide +kernel
theorem dX12_walker_103 : decode cX12_walker 103 = .ok (.iconst 1, 1) := by decide +kernel
theorem dX12_walker_104 : decode cX12_walker 104 = .ok (.invokevirtual 219, 3) := by decide +kernel
theorem dX12_walker_107 : decode cX12_walker 107 = .ok (.ireturn, 1) := by decide +kernel
theorem dX12_byFigures_0 : decode cX12_byFigures 0 = .ok (.lload_n 0, 1) := by decide +kernel
theorem dX12_byFigures_1 : decode cX12_byFigures 1 = .ok (.lstore 5, 2) := by decide +kernel
theorem dX12_byFigures_3 : decode cX12_byFigures 3 = .ok (.iconst 0, 1) := by decide +kernel
theorem dX12_byFigures_4 : decode cX12_byFigures 4 = .ok (.istore 7, 2) := by decide +kernel
theorem dX12_byFigures_6 : decode cX12_byFigures 6 = .ok (.iconst 0, 1) := by decide +kernel
theorem dX12_byFigures_7 : decode cX12_byFigures 7 = .ok (.istore 8, 2) := by decide +kernel
theorem dX12_byFigures_9 : decode cX12_byFigures 9 = .ok (.iload 8, 2) := by decide +kernel
theorem dX12_byFigures_11 : decode cX12_byFigures 11 = .ok (.iload_n 3, 1) := by decide +kernel
theorem dX12_byFigures_12 : decode cX12_byFigures 12 = .ok (.if_icmp .ge 58, 3) := by decide +kernel
theorem dX12_byFigures_15 : decode cX12_byFigures 15 = .ok (.lload_n 0, 1) := by decide +kernel
theorem dX12_byFigures_16 : decode cX12_byFigures 16 = .ok (.lconst 0, 1) := by decide +kernel
theorem dX12_byFigures_17 : decode cX12_byFigures 17 = .ok (.lcmp, 1) := by decide +kernel
theorem dX12_byFigures_18 : decode cX12_byFigures 18 = .ok (.ifCond .lt 52, 3) := by decide +kernel
theorem dX12_byFigures_21 : decode cX12_byFigures 21 = .ok (.lload 5, 2) := by decide +kernel
theorem dX12_byFigures_23 : decode cX12_byFigures 23 = .ok (.iload_n 2, 1) := by decide +kernel
theorem dX12_byFigures_24 : decode cX12_byFigures 24 = .ok (.i2l, 1) := by decide +kernel
theorem dX12_byFigures_25 : decode cX12_byFigures 25 = .ok (.lrem, 1) := by decide +kernel
theorem dX12_byFigures_26 : decode cX12_byFigures 26 = .ok (.l2i, 1) := by decide +kernel
theorem dX12_byFigures_27 : decode cX12_byFigures 27 = .ok (.istore 9, 2) := by decide +kernel
theorem dX12_byFigures_29 : decode cX12_byFigures 29 = .ok (.iload 9, 2) := by decide +kernel
theorem dX12_byFigures_31 : decode cX12_byFigures 31 = .ok (.iload_n 3, 1) := by decide +kernel
theorem dX12_byFigures_32 : decode cX12_byFigures 32 = .ok (.if_icmp .ge 14, 3) := by decide +kernel
theorem dX12_byFigures_35 : decode cX12_byFigures 35 = .ok (.iload 7, 2) := by decide +kernel
theorem dX12_byFigures_37 : decode cX12_byFigures 37 = .ok (.iload 9, 2) := by decide +kernel
theorem dX12_byFigures_39 : decode cX12_byFigures 39 = .ok (.ishr, 1) := by decide +kernel
theorem dX12_byFigures_40 : decode cX12_byFigures 40 = .ok (.iconst 1, 1) := by decide +kernel
theorem dX12_byFigures_41 : decode cX12_byFigures 41 = .ok (.iand, 1) := by decide +kernel
theorem dX12_byFigures_42 : decode cX12_byFigures 42 = .ok (.iconst 1, 1) := by decide +kernel
theorem dX12_byFigures_43 : decode cX12_byFigures 43 = .ok (.if_icmp .ne 5, 3) := by decide +kernel
theorem dX12_byFigures_46 : decode cX12_byFigures 46 = .ok (.iconst 0, 1) := by decide +kernel
theorem dX12_byFigures_47 : decode cX12_byFigures 47 = .ok (.ireturn, 1) := by decide +kernel
theorem dX12_byFigures_48 : decode cX12_byFigures 48 = .ok (.iload 7, 2) := by decide +kernel
theorem dX12_byFigures_50 : decode cX12_byFigures 50 = .ok (.iconst 1, 1) := by decide +kernel
theorem dX12_byFigures_51 : decode cX12_byFigures 51 = .ok (.iload 9, 2) := by decide +kernel
theorem dX12_byFigures_53 : decode cX12_byFigures 53 = .ok (.ishl, 1) := by decide +kernel
theorem dX12_byFigures_54 : decode cX12_byFigures 54 = .ok (.ior, 1) := by decide +kernel
theorem dX12_byFigures_55 : decode cX12_byFigures 55 = .ok (.istore 7, 2) := by decide +kernel
theorem dX12_byFigures_57 : decode cX12_byFigures 57 = .ok (.lload 5, 2) := by decide +kernel
theorem dX12_byFigures_59 : decode cX12_byFigures 59 = .ok (.iload_n 2, 1) := by decide +kernel
theorem dX12_byFigures_60 : decode cX12_byFigures 60 = .ok (.i2l, 1) := by decide +kernel
theorem dX12_byFigures_61 : decode cX12_byFigures 61 = .ok (.ldiv, 1) := by decide +kernel
theorem dX12_byFigures_62 : decode cX12_byFigures 62 = .ok (.lstore 5, 2) := by decide +kernel
theorem dX12_byFigures_64 : decode cX12_byFigures 64 = .ok (.iinc 8 1, 3) := by decide +kernel
theorem dX12_byFigures_67 : decode cX12_byFigures 67 = .ok (.goto (-58), 3) := by decide +kernel
theorem dX12_byFigures_70 : decode cX12_byFigures 70 = .ok (.lload_n 0, 1) := by decide +kernel
theorem dX12_byFigures_71 : decode cX12_byFigures 71 = .ok (.lconst 0, 1) := by decide +kernel
theorem dX12_byFigures_72 : decode cX12_byFigures 72 = .ok (.lcmp, 1) := by decide +kernel
theorem dX12_byFigures_73 : decode cX12_byFigures 73 = .ok (.ifCond .lt 10, 3) := by decide +kernel
theorem dX12_byFigures_76 : decode cX12_byFigures 76 = .ok (.lload 5, 2) := by decide +kernel
theorem dX12_byFigures_78 : decode cX12_byFigures 78 = .ok (.lconst 0, 1) := by decide +kernel
theorem dX12_byFigures_79 : decode cX12_byFigures 79 = .ok (.lcmp, 1) := by decide +kernel
theorem dX12_byFigures_80 : decode cX12_byFigures 80 = .ok (.ifCond .eq 5, 3) := by decide +kernel
theorem dX12_byFigures_83 : decode cX12_byFigures 83 = .ok (.iconst 0, 1) := by decide +kernel
theorem dX12_byFigures_84 : decode cX12_byFigures 84 = .ok (.ireturn, 1) := by decide +kernel
theorem dX12_byFigures_85 : decode cX12_byFigures 85 = .ok (.lload_n 0, 1) := by decide +kernel
theorem dX12_byFigures_86 : decode cX12_byFigures 86 = .ok (.lstore 5, 2) := by decide +kernel
theorem dX12_byFigures_88 : decode cX12_byFigures 88 = .ok (.iconst 0, 1) := by decide +kernel
theorem dX12_byFigures_89 : decode cX12_byFigures 89 = .ok (.istore 8, 2) := by decide +kernel
theorem dX12_byFigures_91 : decode cX12_byFigures 91 = .ok (.iload 8, 2) := by decide +kernel
theorem dX12_byFigures_93 : decode cX12_byFigures 93 = .ok (.iload_n 3, 1) := by decide +kernel
theorem dX12_byFigures_94 : decode cX12_byFigures 94 = .ok (.if_icmp .ge 27, 3) := by decide +kernel
theorem dX12_byFigures_97 : decode cX12_byFigures 97 = .ok (.aload 4, 2) := by decide +kernel
theorem dX12_byFigures_99 : decode cX12_byFigures 99 = .ok (.iload 8, 2) := by decide +kernel
theorem dX12_byFigures_101 : decode cX12_byFigures 101 = .ok (.lload 5, 2) := by decide +kernel
theorem dX12_byFigures_103 : decode cX12_byFigures 103 = .ok (.iload_n 2, 1) := by decide +kernel
theorem dX12_byFigures_104 : decode cX12_byFigures 104 = .ok (.i2l, 1) := by decide +kernel
theorem dX12_byFigures_105 : decode cX12_byFigures 105 = .ok (.lrem, 1) := by decide +kernel
theorem dX12_byFigures_106 : decode cX12_byFigures 106 = .ok (.l2i, 1) := by decide +kernel
theorem dX12_byFigures_107 : decode cX12_byFigures 107 = .ok (.iastore, 1) := by decide +kernel
theorem dX12_byFigures_108 : decode cX12_byFigures 108 = .ok (.lload 5, 2) := by decide +kernel
theorem dX12_byFigures_110 : decode cX12_byFigures 110 = .ok (.iload_n 2, 1) := by decide +kernel
theorem dX12_byFigures_111 : decode cX12_byFigures 111 = .ok (.i2l, 1) := by decide +kernel
theorem dX12_byFigures_112 : decode cX12_byFigures 112 = .ok (.ldiv, 1) := by decide +kernel
theorem dX12_byFigures_113 : decode cX12_byFigures 113 = .ok (.lstore 5, 2) := by decide +kernel
theorem dX12_byFigures_115 : decode cX12_byFigures 115 = .ok (.iinc 8 1, 3) := by decide +kernel
theorem dX12_byFigures_118 : decode cX12_byFigures 118 = .ok (.goto (-27), 3) := by decide +kernel
theorem dX12_byFigures_121 : decode cX12_byFigures 121 = .ok (.iconst 1, 1) := by decide +kernel
theorem dX12_byFigures_122 : decode cX12_byFigures 122 = .ok (.ireturn, 1) := by decide +kernel
theorem dX12_figures_0 : decode cX12_figures 0 = .ok (.lconst 0, 1) := by decide +kernel
theorem dX12_figures_1 : decode cX12_figures 1 = .ok (.lstore_n 3, 1) := by decide +kernel
theorem dX12_figures_2 : decode cX12_figures 2 = .ok (.iload_n 1, 1) := by decide +kernel
theorem dX12_figures_3 : decode cX12_figures 3 = .ok (.iconst 1, 1) := by decide +kernel
theorem dX12_figures_4 : decode cX12_figures 4 = .ok (.isub, 1) := by decide +kernel
theorem dX12_figures_5 : decode cX12_figures 5 = .ok (.istore 5, 2) := by decide +kernel
theorem dX12_figures_7 : decode cX12_figures 7 = .ok (.iload 5, 2) := by decide +kernel
theorem dX12_figures_9 : decode cX12_figures 9 = .ok (.ifCond .lt 20, 3) := by decide +kernel
theorem dX12_figures_12 : decode cX12_figures 12 = .ok (.lload_n 3, 1) := by decide +kernel
theorem dX12_figures_13 : decode cX12_figures 13 = .ok (.iload_n 2, 1) := by decide +kernel
theorem dX12_figures_14 : decode cX12_figures 14 = .ok (.i2l, 1) := by decide +kernel
theorem dX12_figures_15 : decode cX12_figures 15 = .ok (.lmul, 1) := by decide +kernel
theorem dX12_figures_16 : decode cX12_figures 16 = .ok (.aload_n 0, 1) := by decide +kernel
theorem dX12_figures_17 : decode cX12_figures 17 = .ok (.iload 5, 2) := by decide +kernel
theorem dX12_figures_19 : decode cX12_figures 19 = .ok (.iaload, 1) := by decide +kernel
theorem dX12_figures_20 : decode cX12_figures 20 = .ok (.i2l, 1) := by decide +kernel
theorem dX12_figures_21 : decode cX12_figures 21 = .ok (.ladd, 1) := by decide +kernel
theorem dX12_figures_22 : decode cX12_figures 22 = .ok (.lstore_n 3, 1) := by decide +kernel
theorem dX12_figures_23 : decode cX12_figures 23 = .ok (.iinc 5 (-1), 3) := by decide +kernel
theorem dX12_figures_26 : decode cX12_figures 26 = .ok (.goto (-19), 3) := by decide +kernel
theorem dX12_figures_29 : decode cX12_figures 29 = .ok (.lload_n 3, 1) := by decide +kernel
theorem dX12_figures_30 : decode cX12_figures 30 = .ok (.lreturn, 1) := by decide +kernel
theorem dX12_docket_0 : decode cX12_docket 0 = .ok (.aload_n 0, 1) := by decide +kernel
theorem dX12_docket_1 : decode cX12_docket 1 = .ok (.iconst 0, 1) := by decide +kernel
theorem dX12_docket_2 : decode cX12_docket 2 = .ok (.putfield 122, 3) := by decide +kernel
theorem dX12_docket_5 : decode cX12_docket 5 = .ok (.iload_n 1, 1) := by decide +kernel
theorem dX12_docket_6 : decode cX12_docket 6 = .ok (.i2l, 1) := by decide +kernel
theorem dX12_docket_7 : decode cX12_docket 7 = .ok (.bipush 8, 2) := by decide +kernel
theorem dX12_docket_9 : decode cX12_docket 9 = .ok (.aload_n 0, 1) := by decide +kernel
theorem dX12_docket_10 : decode cX12_docket 10 = .ok (.getfield 23, 3) := by decide +kernel
theorem dX12_docket_13 : decode cX12_docket 13 = .ok (.iconst 1, 1) := by decide +kernel
theorem dX12_docket_14 : decode cX12_docket 14 = .ok (.iaload, 1) := by decide +kernel
theorem dX12_docket_15 : decode cX12_docket 15 = .ok (.aload_n 0, 1) := by decide +kernel
theorem dX12_docket_16 : decode cX12_docket 16 = .ok (.getfield 70, 3) := by decide +kernel
theorem dX12_docket_19 : decode cX12_docket 19 = .ok (.invokestatic 266, 3) := by decide +kernel
theorem dX12_docket_22 : decode cX12_docket 22 = .ok (.istore_n 2, 1) := by decide +kernel
theorem dX12_docket_23 : decode cX12_docket 23 = .ok (.aload_n 0, 1) := by decide +kernel
