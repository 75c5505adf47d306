theorem dX12_docket_24 : decode cX12_docket 24 = .ok (.getfield 60, 3) := by decide +kernel
theorem dX12_docket_27 : decode cX12_docket 27 = .ok (.iconst 1, 1) := by decide +kernel
theorem dX12_docket_28 : decode cX12_docket 28 = .ok (.dup2, 1) := by decide +kernel
theorem dX12_docket_29 : decode cX12_docket 29 = .ok (.iaload, 1) := by decide +kernel
theorem dX12_docket_30 : decode cX12_docket 30 = .ok (.iload_n 2, 1) := by decide +kernel
theorem dX12_docket_31 : decode cX12_docket 31 = .ok (.ifCond .eq 7, 3) := by decide +kernel
theorem dX12_docket_34 : decode cX12_docket 34 = .ok (.iconst 0, 1) := by decide +kernel
theorem dX12_docket_35 : decode cX12_docket 35 = .ok (.goto 4, 3) := by decide +kernel
theorem dX12_docket_38 : decode cX12_docket 38 = .ok (.iconst 1, 1) := by decide +kernel
theorem dX12_docket_39 : decode cX12_docket 39 = .ok (.iadd, 1) := by decide +kernel
theorem dX12_docket_40 : decode cX12_docket 40 = .ok (.iastore, 1) := by decide +kernel
theorem dX12_docket_41 : decode cX12_docket 41 = .ok (.iload_n 2, 1) := by decide +kernel
theorem dX12_docket_42 : decode cX12_docket 42 = .ok (.ireturn, 1) := by decide +kernel
theorem dX12_lay_0 : decode cX12_lay 0 = .ok (.aload_n 0, 1) := by decide +kernel
theorem dX12_lay_1 : decode cX12_lay 1 = .ok (.iconst 0, 1) := by decide +kernel
theorem dX12_lay_2 : decode cX12_lay 2 = .ok (.putfield 122, 3) := by decide +kernel
theorem dX12_lay_5 : decode cX12_lay 5 = .ok (.lload_n 1, 1) := by decide +kernel
theorem dX12_lay_6 : decode cX12_lay 6 = .ok (.bipush 16, 2) := by decide +kernel
theorem dX12_lay_8 : decode cX12_lay 8 = .ok (.aload_n 0, 1) := by decide +kernel
theorem dX12_lay_9 : decode cX12_lay 9 = .ok (.getfield 23, 3) := by decide +kernel
theorem dX12_lay_12 : decode cX12_lay 12 = .ok (.iconst 0, 1) := by decide +kernel
theorem dX12_lay_13 : decode cX12_lay 13 = .ok (.iaload, 1) := by decide +kernel
theorem dX12_lay_14 : decode cX12_lay 14 = .ok (.aload_n 0, 1) := by decide +kernel
theorem dX12_lay_15 : decode cX12_lay 15 = .ok (.getfield 73, 3) := by decide +kernel
theorem dX12_lay_18 : decode cX12_lay 18 = .ok (.invokestatic 266, 3) := by decide +kernel
theorem dX12_lay_21 : decode cX12_lay 21 = .ok (.istore_n 3, 1) := by decide +kernel
theorem dX12_lay_22 : decode cX12_lay 22 = .ok (.aload_n 0, 1) := by decide +kernel
theorem dX12_lay_23 : decode cX12_lay 23 = .ok (.getfield 60, 3) := by decide +kernel
theorem dX12_lay_26 : decode cX12_lay 26 = .ok (.iconst 1, 1) := by decide +kernel
theorem dX12_lay_27 : decode cX12_lay 27 = .ok (.dup2, 1) := by decide +kernel
theorem dX12_lay_28 : decode cX12_lay 28 = .ok (.iaload, 1) := by decide +kernel
theorem dX12_lay_29 : decode cX12_lay 29 = .ok (.iload_n 3, 1) := by decide +kernel
theorem dX12_lay_30 : decode cX12_lay 30 = .ok (.ifCond .eq 7, 3) := by decide +kernel
theorem dX12_lay_33 : decode cX12_lay 33 = .ok (.iconst 0, 1) := by decide +kernel
theorem dX12_lay_34 : decode cX12_lay 34 = .ok (.goto 4, 3) := by decide +kernel
theorem dX12_lay_37 : decode cX12_lay 37 = .ok (.iconst 1, 1) := by decide +kernel
theorem dX12_lay_38 : decode cX12_lay 38 = .ok (.iadd, 1) := by decide +kernel
theorem dX12_lay_39 : decode cX12_lay 39 = .ok (.iastore, 1) := by decide +kernel
theorem dX12_lay_40 : decode cX12_lay 40 = .ok (.iload_n 3, 1) := by decide +kernel
theorem dX12_lay_41 : decode cX12_lay 41 = .ok (.ireturn, 1) := by decide +kernel
theorem dX12_up_0 : decode cX12_up 0 = .ok (.aload_n 0, 1) := by decide +kernel
theorem dX12_up_1 : decode cX12_up 1 = .ok (.iconst 0, 1) := by decide +kernel
theorem dX12_up_2 : decode cX12_up 2 = .ok (.putfield 122, 3) := by decide +kernel
theorem dX12_up_5 : decode cX12_up 5 = .ok (.iload_n 1, 1) := by decide +kernel
theorem dX12_up_6 : decode cX12_up 6 = .ok (.invokestatic 270, 3) := by decide +kernel
theorem dX12_up_9 : decode cX12_up 9 = .ok (.ifCond .eq 12, 3) := by decide +kernel
theorem dX12_up_12 : decode cX12_up 12 = .ok (.iload_n 2, 1) := by decide +kernel
theorem dX12_up_13 : decode cX12_up 13 = .ok (.ifCond .lt 8, 3) := by decide +kernel
theorem dX12_up_16 : decode cX12_up 16 = .ok (.iload_n 2, 1) := by decide +kernel
theorem dX12_up_17 : decode cX12_up 17 = .ok (.iconst 1, 1) := by decide +kernel
theorem dX12_up_18 : decode cX12_up 18 = .ok (.if_icmp .le 9, 3) := by decide +kernel
theorem dX12_up_21 : decode cX12_up 21 = .ok (.aload_n 0, 1) := by decide +kernel
theorem dX12_up_22 : decode cX12_up 22 = .ok (.iconst 1, 1) := by decide +kernel
theorem dX12_up_23 : decode cX12_up 23 = .ok (.invokevirtual 219, 3) := by decide +kernel
theorem dX12_up_26 : decode cX12_up 26 = .ok (.ireturn, 1) := by decide +kernel
theorem dX12_up_27 : decode cX12_up 27 = .ok (.aload_n 0, 1) := by decide +kernel
theorem dX12_up_28 : decode cX12_up 28 = .ok (.aload_n 0, 1) := by decide +kernel
theorem dX12_up_29 : decode cX12_up 29 = .ok (.getfield 70, 3) := by decide +kernel
theorem dX12_up_32 : decode cX12_up 32 = .ok (.invokevirtual 257, 3) := by decide +kernel
theorem dX12_up_35 : decode cX12_up 35 = .ok (.iload_n 2, 1) := by decide +kernel
theorem dX12_up_36 : decode cX12_up 36 = .ok (.ifCond .ne 11, 3) := by decide +kernel
theorem dX12_up_39 : decode cX12_up 39 = .ok (.aload_n 0, 1) := by decide +kernel
theorem dX12_up_40 : decode cX12_up 40 = .ok (.iload_n 1, 1) := by decide +kernel
theorem dX12_up_41 : decode cX12_up 41 = .ok (.invokevirtual 245, 3) := by decide +kernel
theorem dX12_up_44 : decode cX12_up 44 = .ok (.goto 8, 3) := by decide +kernel
theorem dX12_up_47 : decode cX12_up 47 = .ok (.aload_n 0, 1) := by decide +kernel
theorem dX12_up_48 : decode cX12_up 48 = .ok (.iload_n 1, 1) := by decide +kernel
theorem dX12_up_49 : decode cX12_up 49 = .ok (.invokevirtual 273, 3) := by decide +kernel
theorem dX12_up_52 : decode cX12_up 52 = .ok (.ireturn, 1) := by decide +kernel
theorem dX12_bears_0 : decode cX12_bears 0 = .ok (.iconst 0, 1) := by decide +kernel
theorem dX12_bears_1 : decode cX12_bears 1 = .ok (.istore_n 3, 1) := by decide +kernel
theorem dX12_bears_2 : decode cX12_bears 2 = .ok (.iconst 0, 1) := by decide +kernel
theorem dX12_bears_3 : decode cX12_bears 3 = .ok (.istore 4, 2) := by decide +kernel
theorem dX12_bears_5 : decode cX12_bears 5 = .ok (.iload 4, 2) := by decide +kernel
theorem dX12_bears_7 : decode cX12_bears 7 = .ok (.aload_n 0, 1) := by decide +kernel
theorem dX12_bears_8 : decode cX12_bears 8 = .ok (.getfield 23, 3) := by decide +kernel
theorem dX12_bears_11 : decode cX12_bears 11 = .ok (.iconst 0, 1) := by decide +kernel
theorem dX12_bears_12 : decode cX12_bears 12 = .ok (.iaload, 1) := by decide +kernel
theorem dX12_bears_13 : decode cX12_bears 13 = .ok (.if_icmp .ge 180, 3) := by decide +kernel
theorem dX12_bears_16 : decode cX12_bears 16 = .ok (.iconst 0, 1) := by decide +kernel
theorem dX12_bears_17 : decode cX12_bears 17 = .ok (.istore 5, 2) := by decide +kernel
theorem dX12_bears_19 : decode cX12_bears 19 = .ok (.iconst 0, 1) := by decide +kernel
theorem dX12_bears_20 : decode cX12_bears 20 = .ok (.istore 6, 2) := by decide +kernel
theorem dX12_bears_22 : decode cX12_bears 22 = .ok (.iconst 0, 1) := by decide +kernel
theorem dX12_bears_23 : decode cX12_bears 23 = .ok (.istore 7, 2) := by decide +kernel
theorem dX12_bears_25 : decode cX12_bears 25 = .ok (.iload 7, 2) := by decide +kernel
theorem dX12_bears_27 : decode cX12_bears 27 = .ok (.aload_n 0, 1) := by decide +kernel
theorem dX12_bears_28 : decode cX12_bears 28 = .ok (.getfield 23, 3) := by decide +kernel
theorem dX12_bears_31 : decode cX12_bears 31 = .ok (.iconst 1, 1) := by decide +kernel
theorem dX12_bears_32 : decode cX12_bears 32 = .ok (.iaload, 1) := by decide +kernel
theorem dX12_bears_33 : decode cX12_bears 33 = .ok (.if_icmp .ge 81, 3) := by decide +kernel
theorem dX12_bears_36 : decode cX12_bears 36 = .ok (.aload_n 0, 1) := by decide +kernel
theorem dX12_bears_37 : decode cX12_bears 37 = .ok (.getfield 36, 3) := by decide +kernel
theorem dX12_bears_40 : decode cX12_bears 40 = .ok (.iload 7, 2) := by decide +kernel
theorem dX12_bears_42 : decode cX12_bears 42 = .ok (.iaload, 1) := by decide +kernel
theorem dX12_bears_43 : decode cX12_bears 43 = .ok (.iload 4, 2) := by decide +kernel
theorem dX12_bears_45 : decode cX12_bears 45 = .ok (.ishr, 1) := by decide +kernel
theorem dX12_bears_46 : decode cX12_bears 46 = .ok (.iconst 1, 1) := by decide +kernel
theorem dX12_bears_47 : decode cX12_bears 47 = .ok (.iand, 1) := by decide +kernel
theorem dX12_bears_48 : decode cX12_bears 48 = .ok (.ifCond .ne 6, 3) := by decide +kernel
theorem dX12_bears_51 : decode cX12_bears 51 = .ok (.goto 57, 3) := by decide +kernel
theorem dX12_bears_54 : decode cX12_bears 54 = .ok (.iload 5, 2) := by decide +kernel
theorem dX12_bears_56 : decode cX12_bears 56 = .ok (.aload_n 0, 1) := by decide +kernel
theorem dX12_bears_57 : decode cX12_bears 57 = .ok (.getfield 76, 3) := by decide +kernel
theorem dX12_bears_60 : decode cX12_bears 60 = .ok (.iload 7, 2) := by decide +kernel
theorem dX12_bears_62 : decode cX12_bears 62 = .ok (.iaload, 1) := by decide +kernel
theorem dX12_bears_63 : decode cX12_bears 63 = .ok (.iload_n 2, 1) := by decide +kernel
theorem dX12_bears_64 : decode cX12_bears 64 = .ok (.if_icmp .gt 12, 3) := by decide +kernel
theorem dX12_bears_67 : decode cX12_bears 67 = .ok (.aload_n 0, 1) := by decide +kernel
theorem dX12_bears_68 : decode cX12_bears 68 = .ok (.getfield 23, 3) := by decide +kernel
theorem dX12_bears_71 : decode cX12_bears 71 = .ok (.iconst 5, 1) := by decide +kernel
theorem dX12_bears_72 : decode cX12_bears 72 = .ok (.iaload, 1) := by decide +kernel
theorem dX12_bears_73 : decode cX12_bears 73 = .ok (.goto 4, 3) := by decide +kernel
theorem dX12_bears_76 : decode cX12_bears 76 = .ok (.iconst 0, 1) := by decide +kernel
theorem dX12_bears_77 : decode cX12_bears 77 = .ok (.iadd, 1) := by decide +kernel
theorem dX12_bears_78 : decode cX12_bears 78 = .ok (.istore 5, 2) := by decide +kernel
theorem dX12_bears_80 : decode cX12_bears 80 = .ok (.iload 6, 2) := by decide +kernel
theorem dX12_bears_82 : decode cX12_bears 82 = .ok (.ifCond .ne 19, 3) := by decide +kernel
theorem dX12_bears_85 : decode cX12_bears 85 = .ok (.aload_n 0, 1) := by decide +kernel
theorem dX12_bears_86 : decode cX12_bears 86 = .ok (.getfield 30, 3) := by decide +kernel
theorem dX12_bears_89 : decode cX12_bears 89 = .ok (.iload 7, 2) := by decide +kernel
theorem dX12_bears_91 : decode cX12_bears 91 = .ok (.iaload, 1) := by decide +kernel
theorem dX12_bears_92 : decode cX12_bears 92 = .ok (.aload_n 0, 1) := by decide +kernel
theorem dX12_bears_93 : decode cX12_bears 93 = .ok (.getfield 42, 3) := by decide +kernel
theorem dX12_bears_96 : decode cX12_bears 96 = .ok (.iload_n 1, 1) := by decide +kernel
theorem dX12_bears_97 : decode cX12_bears 97 = .ok (.iaload, 1) := by decide +kernel
theorem dX12_bears_98 : decode cX12_bears 98 = .ok (.if_icmp .ne 7, 3) := by decide +kernel
theorem dX12_bears_101 : decode cX12_bears 101 = .ok (.iconst 1, 1) := by decide +kernel
theorem dX12_bears_102 : decode cX12_bears 102 = .ok (.goto 4, 3) := by decide +kernel
theorem dX12_bears_105 : decode cX12_bears 105 = .ok (.iconst 0, 1) := by decide +kernel
theorem dX12_bears_106 : decode cX12_bears 106 = .ok (.istore 6, 2) := by decide +kernel
theorem dX12_bears_108 : decode cX12_bears 108 = .ok (.iinc 7 1, 3) := by decide +kernel
theorem dX12_bears_111 : decode cX12_bears 111 = .ok (.goto (-86), 3) := by decide +kernel
theorem dX12_bears_114 : decode cX12_bears 114 = .ok (.aload_n 0, 1) := by decide +kernel
theorem dX12_bears_115 : decode cX12_bears 115 = .ok (.getfield 27, 3) := by decide +kernel
theorem dX12_bears_118 : decode cX12_bears 118 = .ok (.iload 4, 2) := by decide +kernel
theorem dX12_bears_120 : decode cX12_bears 120 = .ok (.iaload, 1) := by decide +kernel
theorem dX12_bears_121 : decode cX12_bears 121 = .ok (.iload 5, 2) := by decide +kernel
theorem dX12_bears_123 : decode cX12_bears 123 = .ok (.isub, 1) := by decide +kernel
theorem dX12_bears_124 : decode cX12_bears 124 = .ok (.aload_n 0, 1) := by decide +kernel
theorem dX12_bears_125 : decode cX12_bears 125 = .ok (.getfield 48, 3) := by decide +kernel
theorem dX12_bears_128 : decode cX12_bears 128 = .ok (.iload_n 1, 1) := by decide +kernel
theorem dX12_bears_129 : decode cX12_bears 129 = .ok (.iaload, 1) := by decide +kernel
theorem dX12_bears_130 : decode cX12_bears 130 = .ok (.aload_n 0, 1) := by decide +kernel
theorem dX12_bears_131 : decode cX12_bears 131 = .ok (.getfield 39, 3) := by decide +kernel
theorem dX12_bears_134 : decode cX12_bears 134 = .ok (.iload_n 1, 1) := by decide +kernel
theorem dX12_bears_135 : decode cX12_bears 135 = .ok (.iaload, 1) := by decide +kernel
theorem dX12_bears_136 : decode cX12_bears 136 = .ok (.iconst 2, 1) := by decide +kernel
theorem dX12_bears_137 : decode cX12_bears 137 = .ok (.if_icmp .ne 7, 3) := by decide +kernel
theorem dX12_bears_140 : decode cX12_bears 140 = .ok (.iconst 2, 1) := by decide +kernel
theorem dX12_bears_141 : decode cX12_bears 141 = .ok (.goto 4, 3) := by decide +kernel
theorem dX12_bears_144 : decode cX12_bears 144 = .ok (.iconst 1, 1) := by decide +kernel
theorem dX12_bears_145 : decode cX12_bears 145 = .ok (.imul, 1) := by decide +kernel
theorem dX12_bears_146 : decode cX12_bears 146 = .ok (.if_icmp .lt 22, 3) := by decide +kernel
theorem dX12_bears_149 : decode cX12_bears 149 = .ok (.aload_n 0, 1) := by decide +kernel
theorem dX12_bears_150 : decode cX12_bears 150 = .ok (.getfield 39, 3) := by decide +kernel
theorem dX12_bears_153 : decode cX12_bears 153 = .ok (.iload_n 1, 1) := by decide +kernel
theorem dX12_bears_154 : decode cX12_bears 154 = .ok (.iaload, 1) := by decide +kernel
theorem dX12_bears_155 : decode cX12_bears 155 = .ok (.iconst 3, 1) := by decide +kernel
theorem dX12_bears_156 : decode cX12_bears 156 = .ok (.if_icmp .ne 8, 3) := by decide +kernel
theorem dX12_bears_159 : decode cX12_bears 159 = .ok (.iload 6, 2) := by decide +kernel
theorem dX12_bears_161 : decode cX12_bears 161 = .ok (.ifCond .ne 7, 3) := by decide +kernel
theorem dX12_bears_164 : decode cX12_bears 164 = .ok (.iconst 1, 1) := by decide +kernel
theorem dX12_bears_165 : decode cX12_bears 165 = .ok (.goto 4, 3) := by decide +kernel
theorem dX12_bears_168 : decode cX12_bears 168 = .ok (.iconst 0, 1) := by decide +kernel
theorem dX12_bears_169 : decode cX12_bears 169 = .ok (.istore 7, 2) := by decide +kernel
theorem dX12_bears_171 : decode cX12_bears 171 = .ok (.iload_n 3, 1) := by decide +kernel
theorem dX12_bears_172 : decode cX12_bears 172 = .ok (.iload 7, 2) := by decide +kernel
theorem dX12_bears_174 : decode cX12_bears 174 = .ok (.ifCond .eq 10, 3) := by decide +kernel
theorem dX12_bears_177 : decode cX12_bears 177 = .ok (.iconst 1, 1) := by decide +kernel
theorem dX12_bears_178 : decode cX12_bears 178 = .ok (.iload 4, 2) := by decide +kernel
theorem dX12_bears_180 : decode cX12_bears 180 = .ok (.ishl, 1) := by decide +kernel
theorem dX12_bears_181 : decode cX12_bears 181 = .ok (.goto 4, 3) := by decide +kernel
theorem dX12_bears_184 : decode cX12_bears 184 = .ok (.iconst 0, 1) := by decide +kernel
theorem dX12_bears_185 : decode cX12_bears 185 = .ok (.ior, 1) := by decide +kernel
theorem dX12_bears_186 : decode cX12_bears 186 = .ok (.istore_n 3, 1) := by decide +kernel
theorem dX12_bears_187 : decode cX12_bears 187 = .ok (.iinc 4 1, 3) := by decide +kernel
theorem dX12_bears_190 : decode cX12_bears 190 = .ok (.goto (-185), 3) := by decide +kernel
theorem dX12_bears_193 : decode cX12_bears 193 = .ok (.iload_n 3, 1) := by decide +kernel
theorem dX12_bears_194 : decode cX12_bears 194 = .ok (.ireturn, 1) := by decide +kernel
theorem dX12_isFlood_0 : decode cX12_isFlood 0 = .ok (.iconst 0, 1) := by decide +kernel
theorem dX12_isFlood_1 : decode cX12_isFlood 1 = .ok (.istore_n 2, 1) := by decide +kernel
theorem dX12_isFlood_2 : decode cX12_isFlood 2 = .ok (.iload_n 2, 1) := by decide +kernel
theorem dX12_isFlood_3 : decode cX12_isFlood 3 = .ok (.aload_n 0, 1) := by decide +kernel
theorem dX12_isFlood_4 : decode cX12_isFlood 4 = .ok (.getfield 23, 3) := by decide +kernel
theorem dX12_isFlood_7 : decode cX12_isFlood 7 = .ok (.iconst 3, 1) := by decide +kernel
theorem dX12_isFlood_8 : decode cX12_isFlood 8 = .ok (.iaload, 1) := by decide +kernel
theorem dX12_isFlood_9 : decode cX12_isFlood 9 = .ok (.if_icmp .ge 21, 3) := by decide +kernel
theorem dX12_isFlood_12 : decode cX12_isFlood 12 = .ok (.aload_n 0, 1) := by decide +kernel
theorem dX12_isFlood_13 : decode cX12_isFlood 13 = .ok (.getfield 57, 3) := by decide +kernel
theorem dX12_isFlood_16 : decode cX12_isFlood 16 = .ok (.iload_n 2, 1) := by decide +kernel
theorem dX12_isFlood_17 : decode cX12_isFlood 17 = .ok (.iaload, 1) := by decide +kernel
theorem dX12_isFlood_18 : decode cX12_isFlood 18 = .ok (.iload_n 1, 1) := by decide +kernel
theorem dX12_isFlood_19 : decode cX12_isFlood 19 = .ok (.if_icmp .ne 5, 3) := by decide +kernel
theorem dX12_isFlood_22 : decode cX12_isFlood 22 = .ok (.iconst 1, 1) := by decide +kernel
theorem dX12_isFlood_23 : decode cX12_isFlood 23 = .ok (.ireturn, 1) := by decide +kernel
theorem dX12_isFlood_24 : decode cX12_isFlood 24 = .ok (.iinc 2 1, 3) := by decide +kernel
theorem dX12_isFlood_27 : decode cX12_isFlood 27 = .ok (.goto (-25), 3) := by decide +kernel
theorem dX12_isFlood_30 : decode cX12_isFlood 30 = .ok (.iconst 0, 1) := by decide +kernel
theorem dX12_isFlood_31 : decode cX12_isFlood 31 = .ok (.ireturn, 1) := by decide +kernel
theorem dX12_comesOver_0 : decode cX12_comesOver 0 = .ok (.iconst 0, 1) := by decide +kernel
theorem dX12_comesOver_1 : decode cX12_comesOver 1 = .ok (.aload_n 0, 1) := by decide +kernel
theorem dX12_comesOver_2 : decode cX12_comesOver 2 = .ok (.getfield 45, 3) := by decide +kernel
theorem dX12_comesOver_5 : decode cX12_comesOver 5 = .ok (.iload_n 1, 1) := by decide +kernel
theorem dX12_comesOver_6 : decode cX12_comesOver 6 = .ok (.iaload, 1) := by decide +kernel
theorem dX12_comesOver_7 : decode cX12_comesOver 7 = .ok (.aload_n 0, 1) := by decide +kernel
theorem dX12_comesOver_8 : decode cX12_comesOver 8 = .ok (.iload_n 2, 1) := by decide +kernel
theorem dX12_comesOver_9 : decode cX12_comesOver 9 = .ok (.invokevirtual 276, 3) := by decide +kernel
theorem dX12_comesOver_12 : decode cX12_comesOver 12 = .ok (.ifCond .eq 7, 3) := by decide +kernel
theorem dX12_comesOver_15 : decode cX12_comesOver 15 = .ok (.iconst 1, 1) := by decide +kernel
theorem dX12_comesOver_16 : decode cX12_comesOver 16 = .ok (.goto 4, 3) := by decide +kernel
theorem dX12_comesOver_19 : decode cX12_comesOver 19 = .ok (.iconst 0, 1) := by decide +kernel
theorem dX12_comesOver_20 : decode cX12_comesOver 20 = .ok (.isub, 1) := by decide +kernel
theorem dX12_comesOver_21 : decode cX12_comesOver 21 = .ok (.invokestatic 254, 3) := by decide +kernel
theorem dX12_comesOver_24 : decode cX12_comesOver 24 = .ok (.istore 4, 2) := by decide +kernel
theorem dX12_comesOver_26 : decode cX12_comesOver 26 = .ok (.aload_n 0, 1) := by decide +kernel
theorem dX12_comesOver_27 : decode cX12_comesOver 27 = .ok (.getfield 39, 3) := by decide +kernel
theorem dX12_comesOver_30 : decode cX12_comesOver 30 = .ok (.iload_n 1, 1) := by decide +kernel
theorem dX12_comesOver_31 : decode cX12_comesOver 31 = .ok (.iaload, 1) := by decide +kernel
theorem dX12_comesOver_32 : decode cX12_comesOver 32 = .ok (.iconst 1, 1) := by decide +kernel
theorem dX12_comesOver_33 : decode cX12_comesOver 33 = .ok (.if_icmp .ne 18, 3) := by decide +kernel
theorem dX12_comesOver_36 : decode cX12_comesOver 36 = .ok (.aload_n 0, 1) := by decide +kernel
theorem dX12_comesOver_37 : decode cX12_comesOver 37 = .ok (.iload_n 2, 1) := by decide +kernel
theorem dX12_comesOver_38 : decode cX12_comesOver 38 = .ok (.invokevirtual 276, 3) := by decide +kernel
theorem dX12_comesOver_41 : decode cX12_comesOver 41 = .ok (.ifCond .ne 10, 3) := by decide +kernel
theorem dX12_comesOver_44 : decode cX12_comesOver 44 = .ok (.iload 4, 2) := by decide +kernel
theorem dX12_comesOver_46 : decode cX12_comesOver 46 = .ok (.iconst 3, 1) := by decide +kernel
theorem dX12_comesOver_47 : decode cX12_comesOver 47 = .ok (.iadd, 1) := by decide +kernel
theorem dX12_comesOver_48 : decode cX12_comesOver 48 = .ok (.goto 5, 3) := by decide +kernel
theorem dX12_comesOver_51 : decode cX12_comesOver 51 = .ok (.iload 4, 2) := by decide +kernel
theorem dX12_comesOver_53 : decode cX12_comesOver 53 = .ok (.istore 5, 2) := by decide +kernel
theorem dX12_comesOver_55 : decode cX12_comesOver 55 = .ok (.aload_n 0, 1) := by decide +kernel
theorem dX12_comesOver_56 : decode cX12_comesOver 56 = .ok (.iconst 0, 1) := by decide +kernel
theorem dX12_comesOver_57 : decode cX12_comesOver 57 = .ok (.putfield 279, 3) := by decide +kernel
theorem dX12_comesOver_60 : decode cX12_comesOver 60 = .ok (.aload_n 0, 1) := by decide +kernel
theorem dX12_comesOver_61 : decode cX12_comesOver 61 = .ok (.iconst (-1), 1) := by decide +kernel
theorem dX12_comesOver_62 : decode cX12_comesOver 62 = .ok (.putfield 282, 3) := by decide +kernel
theorem dX12_comesOver_65 : decode cX12_comesOver 65 = .ok (.iconst 0, 1) := by decide +kernel
theorem dX12_comesOver_66 : decode cX12_comesOver 66 = .ok (.istore 6, 2) := by decide +kernel
theorem dX12_comesOver_68 : decode cX12_comesOver 68 = .ok (.iconst 0, 1) := by decide +kernel
theorem dX12_comesOver_69 : decode cX12_comesOver 69 = .ok (.istore 7, 2) := by decide +kernel
theorem dX12_comesOver_71 : decode cX12_comesOver 71 = .ok (.iload 7, 2) := by decide +kernel
theorem dX12_comesOver_73 : decode cX12_comesOver 73 = .ok (.aload_n 0, 1) := by decide +kernel
theorem dX12_comesOver_74 : decode cX12_comesOver 74 = .ok (.getfield 23, 3) := by decide +kernel
theorem dX12_comesOver_77 : decode cX12_comesOver 77 = .ok (.iconst 0, 1) := by decide +kernel
theorem dX12_comesOver_78 : decode cX12_comesOver 78 = .ok (.iaload, 1) := by decide +kernel
theorem dX12_comesOver_79 : decode cX12_comesOver 79 = .ok (.if_icmp .gt 102, 3) := by decide +kernel
theorem dX12_comesOver_82 : decode cX12_comesOver 82 = .ok (.aload_n 0, 1) := by decide +kernel
theorem dX12_comesOver_83 : decode cX12_comesOver 83 = .ok (.getfield 282, 3) := by decide +kernel
theorem dX12_comesOver_86 : decode cX12_comesOver 86 = .ok (.iconst (-1), 1) := by decide +kernel
theorem dX12_comesOver_87 : decode cX12_comesOver 87 = .ok (.if_icmp .ne 94, 3) := by decide +kernel
theorem dX12_comesOver_90 : decode cX12_comesOver 90 = .ok (.iload 7, 2) := by decide +kernel
theorem dX12_comesOver_92 : decode cX12_comesOver 92 = .ok (.aload_n 0, 1) := by decide +kernel
theorem dX12_comesOver_93 : decode cX12_comesOver 93 = .ok (.getfield 23, 3) := by decide +kernel
theorem dX12_comesOver_96 : decode cX12_comesOver 96 = .ok (.iconst 0, 1) := by decide +kernel
theorem dX12_comesOver_97 : decode cX12_comesOver 97 = .ok (.iaload, 1) := by decide +kernel
theorem dX12_comesOver_98 : decode cX12_comesOver 98 = .ok (.if_icmp .ge 23, 3) := by decide +kernel
theorem dX12_comesOver_101 : decode cX12_comesOver 101 = .ok (.iload_n 3, 1) := by decide +kernel
theorem dX12_comesOver_102 : decode cX12_comesOver 102 = .ok (.aload_n 0, 1) := by decide +kernel
theorem dX12_comesOver_103 : decode cX12_comesOver 103 = .ok (.getfield 73, 3) := by decide +kernel
theorem dX12_comesOver_106 : decode cX12_comesOver 106 = .ok (.iload 7, 2) := by decide +kernel
theorem dX12_comesOver_108 : decode cX12_comesOver 108 = .ok (.iaload, 1) := by decide +kernel
theorem dX12_comesOver_109 : decode cX12_comesOver 109 = .ok (.ishr, 1) := by decide +kernel
theorem dX12_comesOver_110 : decode cX12_comesOver 110 = .ok (.iconst 1, 1) := by decide +kernel
theorem dX12_comesOver_111 : decode cX12_comesOver 111 = .ok (.iand, 1) := by decide +kernel
theorem dX12_comesOver_112 : decode cX12_comesOver 112 = .ok (.ifCond .ne 9, 3) := by decide +kernel
theorem dX12_comesOver_115 : decode cX12_comesOver 115 = .ok (.iinc 6 1, 3) := by decide +kernel
theorem dX12_comesOver_118 : decode cX12_comesOver 118 = .ok (.goto 57, 3) := by decide +kernel
theorem dX12_comesOver_121 : decode cX12_comesOver 121 = .ok (.iload 6, 2) := by decide +kernel
theorem dX12_comesOver_123 : decode cX12_comesOver 123 = .ok (.iload 5, 2) := by decide +kernel
theorem dX12_comesOver_125 : decode cX12_comesOver 125 = .ok (.if_icmp .le 18, 3) := by decide +kernel
theorem dX12_comesOver_128 : decode cX12_comesOver 128 = .ok (.aload_n 0, 1) := by decide +kernel
theorem dX12_comesOver_129 : decode cX12_comesOver 129 = .ok (.iload 7, 2) := by decide +kernel
theorem dX12_comesOver_131 : decode cX12_comesOver 131 = .ok (.iload 6, 2) := by decide +kernel
theorem dX12_comesOver_133 : decode cX12_comesOver 133 = .ok (.isub, 1) := by decide +kernel
theorem dX12_comesOver_134 : decode cX12_comesOver 134 = .ok (.putfield 282, 3) := by decide +kernel
theorem dX12_comesOver_137 : decode cX12_comesOver 137 = .ok (.aload_n 0, 1) := by decide +kernel
theorem dX12_comesOver_138 : decode cX12_comesOver 138 = .ok (.iload 6, 2) := by decide +kernel
theorem dX12_comesOver_140 : decode cX12_comesOver 140 = .ok (.putfield 285, 3) := by decide +kernel
theorem dX12_comesOver_143 : decode cX12_comesOver 143 = .ok (.aload_n 0, 1) := by decide +kernel
theorem dX12_comesOver_144 : decode cX12_comesOver 144 = .ok (.dup, 1) := by decide +kernel
theorem dX12_comesOver_145 : decode cX12_comesOver 145 = .ok (.getfield 279, 3) := by decide +kernel
theorem dX12_comesOver_148 : decode cX12_comesOver 148 = .ok (.iload 6, 2) := by decide +kernel
theorem dX12_comesOver_150 : decode cX12_comesOver 150 = .ok (.iload 4, 2) := by decide +kernel
theorem dX12_comesOver_152 : decode cX12_comesOver 152 = .ok (.if_icmp .le 15, 3) := by decide +kernel
theorem dX12_comesOver_155 : decode cX12_comesOver 155 = .ok (.aload_n 0, 1) := by decide +kernel
theorem dX12_comesOver_156 : decode cX12_comesOver 156 = .ok (.getfield 23, 3) := by decide +kernel
theorem dX12_comesOver_159 : decode cX12_comesOver 159 = .ok (.iconst 4, 1) := by decide +kernel
theorem dX12_comesOver_160 : decode cX12_comesOver 160 = .ok (.iaload, 1) := by decide +kernel
theorem dX12_comesOver_161 : decode cX12_comesOver 161 = .ok (.iload 6, 2) := by decide +kernel
theorem dX12_comesOver_163 : decode cX12_comesOver 163 = .ok (.imul, 1) := by decide +kernel
theorem dX12_comesOver_164 : decode cX12_comesOver 164 = .ok (.goto 4, 3) := by decide +kernel
theorem dX12_comesOver_167 : decode cX12_comesOver 167 = .ok (.iconst 0, 1) := by decide +kernel
theorem dX12_comesOver_168 : decode cX12_comesOver 168 = .ok (.iadd, 1) := by decide +kernel
theorem dX12_comesOver_169 : decode cX12_comesOver 169 = .ok (.putfield 279, 3) := by decide +kernel
theorem dX12_comesOver_172 : decode cX12_comesOver 172 = .ok (.iconst 0, 1) := by decide +kernel
theorem dX12_comesOver_173 : decode cX12_comesOver 173 = .ok (.istore 6, 2) := by decide +kernel
theorem dX12_comesOver_175 : decode cX12_comesOver 175 = .ok (.iinc 7 1, 3) := by decide +kernel
theorem dX12_comesOver_178 : decode cX12_comesOver 178 = .ok (.goto (-107), 3) := by decide +kernel
theorem dX12_comesOver_181 : decode cX12_comesOver 181 = .ok (.aload_n 0, 1) := by decide +kernel
theorem dX12_comesOver_182 : decode cX12_comesOver 182 = .ok (.getfield 282, 3) := by decide +kernel
theorem dX12_comesOver_185 : decode cX12_comesOver 185 = .ok (.iconst (-1), 1) := by decide +kernel
theorem dX12_comesOver_186 : decode cX12_comesOver 186 = .ok (.if_icmp .ne 7, 3) := by decide +kernel
theorem dX12_comesOver_189 : decode cX12_comesOver 189 = .ok (.iconst 1, 1) := by decide +kernel
theorem dX12_comesOver_190 : decode cX12_comesOver 190 = .ok (.goto 4, 3) := by decide +kernel
theorem dX12_comesOver_193 : decode cX12_comesOver 193 = .ok (.iconst 0, 1) := by decide +kernel
theorem dX12_comesOver_194 : decode cX12_comesOver 194 = .ok (.ireturn, 1) := by decide +kernel
theorem dX12_crossesBy_0 : decode cX12_crossesBy 0 = .ok (.aload_n 0, 1) := by decide +kernel
theorem dX12_crossesBy_1 : decode cX12_crossesBy 1 = .ok (.iload_n 1, 1) := by decide +kernel
theorem dX12_crossesBy_2 : decode cX12_crossesBy 2 = .ok (.iload_n 2, 1) := by decide +kernel
theorem dX12_crossesBy_3 : decode cX12_crossesBy 3 = .ok (.aload_n 0, 1) := by decide +kernel
theorem dX12_crossesBy_4 : decode cX12_crossesBy 4 = .ok (.iload_n 1, 1) := by decide +kernel
theorem dX12_crossesBy_5 : decode cX12_crossesBy 5 = .ok (.iload_n 2, 1) := by decide +kernel
theorem dX12_crossesBy_6 : decode cX12_crossesBy 6 = .ok (.invokevirtual 288, 3) := by decide +kernel
theorem dX12_crossesBy_9 : decode cX12_crossesBy 9 = .ok (.aload_n 0, 1) := by decide +kernel
theorem dX12_crossesBy_10 : decode cX12_crossesBy 10 = .ok (.iload_n 2, 1) := by decide +kernel
theorem dX12_crossesBy_11 : decode cX12_crossesBy 11 = .ok (.invokevirtual 245, 3) := by decide +kernel
theorem dX12_crossesBy_14 : decode cX12_crossesBy 14 = .ok (.iconst (-1), 1) := by decide +kernel
theorem dX12_crossesBy_15 : decode cX12_crossesBy 15 = .ok (.ixor, 1) := by decide +kernel
theorem dX12_crossesBy_16 : decode cX12_crossesBy 16 = .ok (.iand, 1) := by decide +kernel
theorem dX12_crossesBy_17 : decode cX12_crossesBy 17 = .ok (.invokevirtual 291, 3) := by decide +kernel
theorem dX12_crossesBy_20 : decode cX12_crossesBy 20 = .ok (.ireturn, 1) := by decide +kernel
theorem dX12_planks_0 : decode cX12_planks 0 = .ok (.aload_n 0, 1) := by decide +kernel
theorem dX12_planks_1 : decode cX12_planks 1 = .ok (.iconst 0, 1) := by decide +kernel
theorem dX12_planks_2 : decode cX12_planks 2 = .ok (.putfield 122, 3) := by decide +kernel
theorem dX12_planks_5 : decode cX12_planks 5 = .ok (.aload_n 0, 1) := by decide +kernel
theorem dX12_planks_6 : decode cX12_planks 6 = .ok (.iload_n 1, 1) := by decide +kernel
theorem dX12_planks_7 : decode cX12_planks 7 = .ok (.invokevirtual 263, 3) := by decide +kernel
theorem dX12_planks_10 : decode cX12_planks 10 = .ok (.ifCond .eq 10, 3) := by decide +kernel
theorem dX12_planks_13 : decode cX12_planks 13 = .ok (.iload_n 2, 1) := by decide +kernel
theorem dX12_planks_14 : decode cX12_planks 14 = .ok (.invokestatic 270, 3) := by decide +kernel
theorem dX12_planks_17 : decode cX12_planks 17 = .ok (.ifCond .ne 9, 3) := by decide +kernel
theorem dX12_planks_20 : decode cX12_planks 20 = .ok (.aload_n 0, 1) := by decide +kernel
theorem dX12_planks_21 : decode cX12_planks 21 = .ok (.iconst 1, 1) := by decide +kernel
theorem dX12_planks_22 : decode cX12_planks 22 = .ok (.invokevirtual 219, 3) := by decide +kernel
theorem dX12_planks_25 : decode cX12_planks 25 = .ok (.ireturn, 1) := by decide +kernel
theorem dX12_planks_26 : decode cX12_planks 26 = .ok (.aload_n 0, 1) := by decide +kernel
theorem dX12_planks_27 : decode cX12_planks 27 = .ok (.aload_n 0, 1) := by decide +kernel
theorem dX12_planks_28 : decode cX12_planks 28 = .ok (.getfield 70, 3) := by decide +kernel
theorem dX12_planks_31 : decode cX12_planks 31 = .ok (.invokevirtual 257, 3) := by decide +kernel
theorem dX12_planks_34 : decode cX12_planks 34 = .ok (.aload_n 0, 1) := by decide +kernel
theorem dX12_planks_35 : decode cX12_planks 35 = .ok (.iload_n 1, 1) := by decide +kernel
theorem dX12_planks_36 : decode cX12_planks 36 = .ok (.iload_n 2, 1) := by decide +kernel
theorem dX12_planks_37 : decode cX12_planks 37 = .ok (.invokevirtual 288, 3) := by decide +kernel
theorem dX12_planks_40 : decode cX12_planks 40 = .ok (.aload_n 0, 1) := by decide +kernel
theorem dX12_planks_41 : decode cX12_planks 41 = .ok (.iload_n 2, 1) := by decide +kernel
theorem dX12_planks_42 : decode cX12_planks 42 = .ok (.invokevirtual 245, 3) := by decide +kernel
theorem dX12_planks_45 : decode cX12_planks 45 = .ok (.iconst (-1), 1) := by decide +kernel
theorem dX12_planks_46 : decode cX12_planks 46 = .ok (.ixor, 1) := by decide +kernel
theorem dX12_planks_47 : decode cX12_planks 47 = .ok (.iand, 1) := by decide +kernel
theorem dX12_planks_48 : decode cX12_planks 48 = .ok (.istore_n 3, 1) := by decide +kernel
theorem dX12_planks_49 : decode cX12_planks 49 = .ok (.iconst 0, 1) := by decide +kernel
theorem dX12_planks_50 : decode cX12_planks 50 = .ok (.istore 4, 2) := by decide +kernel
theorem dX12_planks_52 : decode cX12_planks 52 = .ok (.iconst 0, 1) := by decide +kernel
theorem dX12_planks_53 : decode cX12_planks 53 = .ok (.istore 5, 2) := by decide +kernel
theorem dX12_planks_55 : decode cX12_planks 55 = .ok (.iload 5, 2) := by decide +kernel
theorem dX12_planks_57 : decode cX12_planks 57 = .ok (.aload_n 0, 1) := by decide +kernel
theorem dX12_planks_58 : decode cX12_planks 58 = .ok (.getfield 23, 3) := by decide +kernel
theorem dX12_planks_61 : decode cX12_planks 61 = .ok (.iconst 0, 1) := by decide +kernel
theorem dX12_planks_62 : decode cX12_planks 62 = .ok (.iaload, 1) := by decide +kernel
theorem dX12_planks_63 : decode cX12_planks 63 = .ok (.if_icmp .ge 28, 3) := by decide +kernel
theorem dX12_planks_66 : decode cX12_planks 66 = .ok (.iload 4, 2) := by decide +kernel
theorem dX12_planks_68 : decode cX12_planks 68 = .ok (.iload_n 3, 1) := by decide +kernel
theorem dX12_planks_69 : decode cX12_planks 69 = .ok (.aload_n 0, 1) := by decide +kernel
theorem dX12_planks_70 : decode cX12_planks 70 = .ok (.getfield 73, 3) := by decide +kernel
theorem dX12_planks_73 : decode cX12_planks 73 = .ok (.iload 5, 2) := by decide +kernel
theorem dX12_planks_75 : decode cX12_planks 75 = .ok (.iaload, 1) := by decide +kernel
theorem dX12_planks_76 : decode cX12_planks 76 = .ok (.ishr, 1) := by decide +kernel
theorem dX12_planks_77 : decode cX12_planks 77 = .ok (.iconst 1, 1) := by decide +kernel
theorem dX12_planks_78 : decode cX12_planks 78 = .ok (.iand, 1) := by decide +kernel
theorem dX12_planks_79 : decode cX12_planks 79 = .ok (.iload 5, 2) := by decide +kernel
theorem dX12_planks_81 : decode cX12_planks 81 = .ok (.ishl, 1) := by decide +kernel
theorem dX12_planks_82 : decode cX12_planks 82 = .ok (.ior, 1) := by decide +kernel
theorem dX12_planks_83 : decode cX12_planks 83 = .ok (.istore 4, 2) := by decide +kernel
theorem dX12_planks_85 : decode cX12_planks 85 = .ok (.iinc 5 1, 3) := by decide +kernel
theorem dX12_planks_88 : decode cX12_planks 88 = .ok (.goto (-33), 3) := by decide +kernel
theorem dX12_planks_91 : decode cX12_planks 91 = .ok (.iload 4, 2) := by decide +kernel
theorem dX12_planks_93 : decode cX12_planks 93 = .ok (.ireturn, 1) := by decide +kernel
theorem dX12_crosses_0 : decode cX12_crosses 0 = .ok (.aload_n 0, 1) := by decide +kernel
theorem dX12_crosses_1 : decode cX12_crosses 1 = .ok (.iconst 0, 1) := by decide +kernel
theorem dX12_crosses_2 : decode cX12_crosses 2 = .ok (.putfield 122, 3) := by decide +kernel
theorem dX12_crosses_5 : decode cX12_crosses 5 = .ok (.aload_n 0, 1) := by decide +kernel
theorem dX12_crosses_6 : decode cX12_crosses 6 = .ok (.iload_n 1, 1) := by decide +kernel
theorem dX12_crosses_7 : decode cX12_crosses 7 = .ok (.invokevirtual 263, 3) := by decide +kernel
theorem dX12_crosses_10 : decode cX12_crosses 10 = .ok (.ifCond .eq 10, 3) := by decide +kernel
theorem dX12_crosses_13 : decode cX12_crosses 13 = .ok (.iload_n 2, 1) := by decide +kernel
theorem dX12_crosses_14 : decode cX12_crosses 14 = .ok (.invokestatic 270, 3) := by decide +kernel
theorem dX12_crosses_17 : decode cX12_crosses 17 = .ok (.ifCond .ne 9, 3) := by decide +kernel
theorem dX12_crosses_20 : decode cX12_crosses 20 = .ok (.aload_n 0, 1) := by decide +kernel
theorem dX12_crosses_21 : decode cX12_crosses 21 = .ok (.iconst 1, 1) := by decide +kernel
theorem dX12_crosses_22 : decode cX12_crosses 22 = .ok (.invokevirtual 219, 3) := by decide +kernel
theorem dX12_crosses_25 : decode cX12_crosses 25 = .ok (.ireturn, 1) := by decide +kernel
theorem dX12_crosses_26 : decode cX12_crosses 26 = .ok (.aload_n 0, 1) := by decide +kernel
theorem dX12_crosses_27 : decode cX12_crosses 27 = .ok (.aload_n 0, 1) := by decide +kernel
theorem dX12_crosses_28 : decode cX12_crosses 28 = .ok (.getfield 70, 3) := by decide +kernel
theorem dX12_crosses_31 : decode cX12_crosses 31 = .ok (.invokevirtual 257, 3) := by decide +kernel
theorem dX12_crosses_34 : decode cX12_crosses 34 = .ok (.aload_n 0, 1) := by decide +kernel
theorem dX12_crosses_35 : decode cX12_crosses 35 = .ok (.iload_n 1, 1) := by decide +kernel
theorem dX12_crosses_36 : decode cX12_crosses 36 = .ok (.iload_n 2, 1) := by decide +kernel
theorem dX12_crosses_37 : decode cX12_crosses 37 = .ok (.invokevirtual 294, 3) := by decide +kernel
theorem dX12_crosses_40 : decode cX12_crosses 40 = .ok (.ifCond .eq 10, 3) := by decide +kernel
theorem dX12_crosses_43 : decode cX12_crosses 43 = .ok (.aload_n 0, 1) := by decide +kernel
theorem dX12_crosses_44 : decode cX12_crosses 44 = .ok (.getfield 279, 3) := by decide +kernel
theorem dX12_crosses_47 : decode cX12_crosses 47 = .ok (.goto 4, 3) := by decide +kernel
theorem dX12_crosses_50 : decode cX12_crosses 50 = .ok (.iconst (-1), 1) := by decide +kernel
theorem dX12_crosses_51 : decode cX12_crosses 51 = .ok (.ireturn, 1) := by decide +kernel
theorem dX12_bar_0 : decode cX12_bar 0 = .ok (.aload_n 0, 1) := by decide +kernel
theorem dX12_bar_1 : decode cX12_bar 1 = .ok (.iconst 0, 1) := by decide +kernel
theorem dX12_bar_2 : decode cX12_bar 2 = .ok (.putfield 122, 3) := by decide +kernel
theorem dX12_bar_5 : decode cX12_bar 5 = .ok (.aload_n 0, 1) := by decide +kernel
theorem dX12_bar_6 : decode cX12_bar 6 = .ok (.iload_n 1, 1) := by decide +kernel
theorem dX12_bar_7 : decode cX12_bar 7 = .ok (.invokevirtual 263, 3) := by decide +kernel
theorem dX12_bar_10 : decode cX12_bar 10 = .ok (.ifCond .eq 10, 3) := by decide +kernel
theorem dX12_bar_13 : decode cX12_bar 13 = .ok (.iload_n 2, 1) := by decide +kernel
theorem dX12_bar_14 : decode cX12_bar 14 = .ok (.invokestatic 270, 3) := by decide +kernel
theorem dX12_bar_17 : decode cX12_bar 17 = .ok (.ifCond .ne 9, 3) := by decide +kernel
theorem dX12_bar_20 : decode cX12_bar 20 = .ok (.aload_n 0, 1) := by decide +kernel
theorem dX12_bar_21 : decode cX12_bar 21 = .ok (.iconst 1, 1) := by decide +kernel
theorem dX12_bar_22 : decode cX12_bar 22 = .ok (.invokevirtual 219, 3) := by decide +kernel
theorem dX12_bar_25 : decode cX12_bar 25 = .ok (.ireturn, 1) := by decide +kernel
theorem dX12_bar_26 : decode cX12_bar 26 = .ok (.aload_n 0, 1) := by decide +kernel
theorem dX12_bar_27 : decode cX12_bar 27 = .ok (.aload_n 0, 1) := by decide +kernel
theorem dX12_bar_28 : decode cX12_bar 28 = .ok (.getfield 70, 3) := by decide +kernel
theorem dX12_bar_31 : decode cX12_bar 31 = .ok (.invokevirtual 257, 3) := by decide +kernel
theorem dX12_bar_34 : decode cX12_bar 34 = .ok (.aload_n 0, 1) := by decide +kernel
theorem dX12_bar_35 : decode cX12_bar 35 = .ok (.iload_n 1, 1) := by decide +kernel
theorem dX12_bar_36 : decode cX12_bar 36 = .ok (.iload_n 2, 1) := by decide +kernel
theorem dX12_bar_37 : decode cX12_bar 37 = .ok (.invokevirtual 294, 3) := by decide +kernel
theorem dX12_bar_40 : decode cX12_bar 40 = .ok (.ifCond .eq 7, 3) := by decide +kernel
theorem dX12_bar_43 : decode cX12_bar 43 = .ok (.iconst (-1), 1) := by decide +kernel
theorem dX12_bar_44 : decode cX12_bar 44 = .ok (.goto 15, 3) := by decide +kernel
theorem dX12_bar_47 : decode cX12_bar 47 = .ok (.bipush 16, 2) := by decide +kernel
theorem dX12_bar_49 : decode cX12_bar 49 = .ok (.aload_n 0, 1) := by decide +kernel
theorem dX12_bar_50 : decode cX12_bar 50 = .ok (.getfield 282, 3) := by decide +kernel
theorem dX12_bar_53 : decode cX12_bar 53 = .ok (.imul, 1) := by decide +kernel
theorem dX12_bar_54 : decode cX12_bar 54 = .ok (.aload_n 0, 1) := by decide +kernel
theorem dX12_bar_55 : decode cX12_bar 55 = .ok (.getfield 285, 3) := by decide +kernel
theorem dX12_bar_58 : decode cX12_bar 58 = .ok (.iadd, 1) := by decide +kernel
theorem dX12_bar_59 : decode cX12_bar 59 = .ok (.ireturn, 1) := by decide +kernel
theorem dX12_overOn_0 : decode cX12_overOn 0 = .ok (.aload_n 0, 1) := by decide +kernel
theorem dX12_overOn_1 : decode cX12_overOn 1 = .ok (.getfield 51, 3) := by decide +kernel
theorem dX12_overOn_4 : decode cX12_overOn 4 = .ok (.iload_n 1, 1) := by decide +kernel
theorem dX12_overOn_5 : decode cX12_overOn 5 = .ok (.iaload, 1) := by decide +kernel
theorem dX12_overOn_6 : decode cX12_overOn 6 = .ok (.istore_n 2, 1) := by decide +kernel
theorem dX12_overOn_7 : decode cX12_overOn 7 = .ok (.iload_n 2, 1) := by decide +kernel
theorem dX12_overOn_8 : decode cX12_overOn 8 = .ok (.aload_n 0, 1) := by decide +kernel
theorem dX12_overOn_9 : decode cX12_overOn 9 = .ok (.getfield 54, 3) := by decide +kernel
theorem dX12_overOn_12 : decode cX12_overOn 12 = .ok (.iload_n 1, 1) := by decide +kernel
theorem dX12_overOn_13 : decode cX12_overOn 13 = .ok (.iaload, 1) := by decide +kernel
theorem dX12_overOn_14 : decode cX12_overOn 14 = .ok (.if_icmp .gt 20, 3) := by decide +kernel
theorem dX12_overOn_17 : decode cX12_overOn 17 = .ok (.aload_n 0, 1) := by decide +kernel
theorem dX12_overOn_18 : decode cX12_overOn 18 = .ok (.iload_n 1, 1) := by decide +kernel
theorem dX12_overOn_19 : decode cX12_overOn 19 = .ok (.iload_n 2, 1) := by decide +kernel
theorem dX12_overOn_20 : decode cX12_overOn 20 = .ok (.invokevirtual 294, 3) := by decide +kernel
theorem dX12_overOn_23 : decode cX12_overOn 23 = .ok (.ifCond .eq 5, 3) := by decide +kernel
theorem dX12_overOn_26 : decode cX12_overOn 26 = .ok (.iload_n 2, 1) := by decide +kernel
theorem dX12_overOn_27 : decode cX12_overOn 27 = .ok (.ireturn, 1) := by decide +kernel
theorem dX12_overOn_28 : decode cX12_overOn 28 = .ok (.iinc 2 1, 3) := by decide +kernel
theorem dX12_overOn_31 : decode cX12_overOn 31 = .ok (.goto (-24), 3) := by decide +kernel
theorem dX12_overOn_34 : decode cX12_overOn 34 = .ok (.iconst (-1), 1) := by decide +kernel
theorem dX12_overOn_35 : decode cX12_overOn 35 = .ok (.ireturn, 1) := by decide +kernel
theorem dX12_over_0 : decode cX12_over 0 = .ok (.aload_n 0, 1) := by decide +kernel
theorem dX12_over_1 : decode cX12_over 1 = .ok (.iconst 0, 1) := by decide +kernel
theorem dX12_over_2 : decode cX12_over 2 = .ok (.putfield 122, 3) := by decide +kernel
theorem dX12_over_5 : decode cX12_over 5 = .ok (.aload_n 0, 1) := by decide +kernel
theorem dX12_over_6 : decode cX12_over 6 = .ok (.iload_n 1, 1) := by decide +kernel
theorem dX12_over_7 : decode cX12_over 7 = .ok (.invokevirtual 263, 3) := by decide +kernel
theorem dX12_over_10 : decode cX12_over 10 = .ok (.ifCond .ne 9, 3) := by decide +kernel
theorem dX12_over_13 : decode cX12_over 13 = .ok (.aload_n 0, 1) := by decide +kernel
theorem dX12_over_14 : decode cX12_over 14 = .ok (.iconst 1, 1) := by decide +kernel
theorem dX12_over_15 : decode cX12_over 15 = .ok (.invokevirtual 219, 3) := by decide +kernel
theorem dX12_over_18 : decode cX12_over 18 = .ok (.ireturn, 1) := by decide +kernel
theorem dX12_over_19 : decode cX12_over 19 = .ok (.aload_n 0, 1) := by decide +kernel
theorem dX12_over_20 : decode cX12_over 20 = .ok (.aload_n 0, 1) := by decide +kernel
theorem dX12_over_21 : decode cX12_over 21 = .ok (.getfield 70, 3) := by decide +kernel
theorem dX12_over_24 : decode cX12_over 24 = .ok (.invokevirtual 257, 3) := by decide +kernel
theorem dX12_over_27 : decode cX12_over 27 = .ok (.aload_n 0, 1) := by decide +kernel
theorem dX12_over_28 : decode cX12_over 28 = .ok (.iload_n 1, 1) := by decide +kernel
theorem dX12_over_29 : decode cX12_over 29 = .ok (.invokevirtual 297, 3) := by decide +kernel
theorem dX12_over_32 : decode cX12_over 32 = .ok (.ireturn, 1) := by decide +kernel
theorem dX12_docketOn_0 : decode cX12_docketOn 0 = .ok (.iload_n 1, 1) := by decide +kernel
theorem dX12_docketOn_1 : decode cX12_docketOn 1 = .ok (.aload_n 0, 1) := by decide +kernel
theorem dX12_docketOn_2 : decode cX12_docketOn 2 = .ok (.getfield 23, 3) := by decide +kernel
theorem dX12_docketOn_5 : decode cX12_docketOn 5 = .ok (.iconst 1, 1) := by decide +kernel
theorem dX12_docketOn_6 : decode cX12_docketOn 6 = .ok (.iaload, 1) := by decide +kernel
theorem dX12_docketOn_7 : decode cX12_docketOn 7 = .ok (.if_icmp .ne 29, 3) := by decide +kernel
theorem dX12_docketOn_10 : decode cX12_docketOn 10 = .ok (.aload_n 0, 1) := by decide +kernel
theorem dX12_docketOn_11 : decode cX12_docketOn 11 = .ok (.aload_n 0, 1) := by decide +kernel
theorem dX12_docketOn_12 : decode cX12_docketOn 12 = .ok (.getfield 79, 3) := by decide +kernel
theorem dX12_docketOn_15 : decode cX12_docketOn 15 = .ok (.invokevirtual 257, 3) := by decide +kernel
theorem dX12_docketOn_18 : decode cX12_docketOn 18 = .ok (.iload_n 3, 1) := by decide +kernel
theorem dX12_docketOn_19 : decode cX12_docketOn 19 = .ok (.ifCond .ne 10, 3) := by decide +kernel
theorem dX12_docketOn_22 : decode cX12_docketOn 22 = .ok (.aload_n 0, 1) := by decide +kernel
theorem dX12_docketOn_23 : decode cX12_docketOn 23 = .ok (.invokevirtual 300, 3) := by decide +kernel
theorem dX12_docketOn_26 : decode cX12_docketOn 26 = .ok (.goto 9, 3) := by decide +kernel
theorem dX12_docketOn_29 : decode cX12_docketOn 29 = .ok (.aload_n 0, 1) := by decide +kernel
theorem dX12_docketOn_30 : decode cX12_docketOn 30 = .ok (.iload 4, 2) := by decide +kernel
theorem dX12_docketOn_32 : decode cX12_docketOn 32 = .ok (.invokevirtual 303, 3) := by decide +kernel
theorem dX12_docketOn_35 : decode cX12_docketOn 35 = .ok (.return_, 1) := by decide +kernel
theorem dX12_docketOn_36 : decode cX12_docketOn 36 = .ok (.iconst 0, 1) := by decide +kernel
theorem dX12_docketOn_37 : decode cX12_docketOn 37 = .ok (.istore 5, 2) := by decide +kernel
theorem dX12_docketOn_39 : decode cX12_docketOn 39 = .ok (.iload 5, 2) := by decide +kernel
theorem dX12_docketOn_41 : decode cX12_docketOn 41 = .ok (.aload_n 0, 1) := by decide +kernel
theorem dX12_docketOn_42 : decode cX12_docketOn 42 = .ok (.getfield 23, 3) := by decide +kernel
theorem dX12_docketOn_45 : decode cX12_docketOn 45 = .ok (.iconst 1, 1) := by decide +kernel
theorem dX12_docketOn_46 : decode cX12_docketOn 46 = .ok (.iaload, 1) := by decide +kernel
theorem dX12_docketOn_47 : decode cX12_docketOn 47 = .ok (.if_icmp .ge 46, 3) := by decide +kernel
theorem dX12_docketOn_50 : decode cX12_docketOn 50 = .ok (.iload_n 2, 1) := by decide +kernel
theorem dX12_docketOn_51 : decode cX12_docketOn 51 = .ok (.iload 5, 2) := by decide +kernel
theorem dX12_docketOn_53 : decode cX12_docketOn 53 = .ok (.ishr, 1) := by decide +kernel
theorem dX12_docketOn_54 : decode cX12_docketOn 54 = .ok (.iconst 1, 1) := by decide +kernel
theorem dX12_docketOn_55 : decode cX12_docketOn 55 = .ok (.iand, 1) := by decide +kernel
theorem dX12_docketOn_56 : decode cX12_docketOn 56 = .ok (.iconst 1, 1) := by decide +kernel
theorem dX12_docketOn_57 : decode cX12_docketOn 57 = .ok (.if_icmp .ne 6, 3) := by decide +kernel
theorem dX12_docketOn_60 : decode cX12_docketOn 60 = .ok (.goto 27, 3) := by decide +kernel
theorem dX12_docketOn_63 : decode cX12_docketOn 63 = .ok (.aload_n 0, 1) := by decide +kernel
theorem dX12_docketOn_64 : decode cX12_docketOn 64 = .ok (.getfield 79, 3) := by decide +kernel
theorem dX12_docketOn_67 : decode cX12_docketOn 67 = .ok (.iload_n 1, 1) := by decide +kernel
theorem dX12_docketOn_68 : decode cX12_docketOn 68 = .ok (.iload 5, 2) := by decide +kernel
theorem dX12_docketOn_70 : decode cX12_docketOn 70 = .ok (.iastore, 1) := by decide +kernel
theorem dX12_docketOn_71 : decode cX12_docketOn 71 = .ok (.aload_n 0, 1) := by decide +kernel
theorem dX12_docketOn_72 : decode cX12_docketOn 72 = .ok (.iload_n 1, 1) := by decide +kernel
theorem dX12_docketOn_73 : decode cX12_docketOn 73 = .ok (.iconst 1, 1) := by decide +kernel
theorem dX12_docketOn_74 : decode cX12_docketOn 74 = .ok (.iadd, 1) := by decide +kernel
theorem dX12_docketOn_75 : decode cX12_docketOn 75 = .ok (.iload_n 2, 1) := by decide +kernel
theorem dX12_docketOn_76 : decode cX12_docketOn 76 = .ok (.iconst 1, 1) := by decide +kernel
theorem dX12_docketOn_77 : decode cX12_docketOn 77 = .ok (.iload 5, 2) := by decide +kernel
theorem dX12_docketOn_79 : decode cX12_docketOn 79 = .ok (.ishl, 1) := by decide +kernel
theorem dX12_docketOn_80 : decode cX12_docketOn 80 = .ok (.ior, 1) := by decide +kernel
theorem dX12_docketOn_81 : decode cX12_docketOn 81 = .ok (.iload_n 3, 1) := by decide +kernel
theorem dX12_docketOn_82 : decode cX12_docketOn 82 = .ok (.iload 4, 2) := by decide +kernel
theorem dX12_docketOn_84 : decode cX12_docketOn 84 = .ok (.invokevirtual 306, 3) := by decide +kernel
theorem dX12_docketOn_87 : decode cX12_docketOn 87 = .ok (.iinc 5 1, 3) := by decide +kernel
theorem dX12_docketOn_90 : decode cX12_docketOn 90 = .ok (.goto (-51), 3) := by decide +kernel
theorem dX12_docketOn_93 : decode cX12_docketOn 93 = .ok (.return_, 1) := by decide +kernel
theorem dX12_rate_0 : decode cX12_rate 0 = .ok (.iconst 0, 1) := by decide +kernel
theorem dX12_rate_1 : decode cX12_rate 1 = .ok (.istore_n 1, 1) := by decide +kernel
theorem dX12_rate_2 : decode cX12_rate 2 = .ok (.iconst 0, 1) := by decide +kernel
theorem dX12_rate_3 : decode cX12_rate 3 = .ok (.istore_n 2, 1) := by decide +kernel
theorem dX12_rate_4 : decode cX12_rate 4 = .ok (.iload_n 2, 1) := by decide +kernel
theorem dX12_rate_5 : decode cX12_rate 5 = .ok (.aload_n 0, 1) := by decide +kernel
theorem dX12_rate_6 : decode cX12_rate 6 = .ok (.getfield 23, 3) := by decide +kernel
theorem dX12_rate_9 : decode cX12_rate 9 = .ok (.iconst 2, 1) := by decide +kernel
theorem dX12_rate_10 : decode cX12_rate 10 = .ok (.iaload, 1) := by decide +kernel
theorem dX12_rate_11 : decode cX12_rate 11 = .ok (.if_icmp .ge 26, 3) := by decide +kernel
theorem dX12_rate_14 : decode cX12_rate 14 = .ok (.iload_n 1, 1) := by decide +kernel
theorem dX12_rate_15 : decode cX12_rate 15 = .ok (.aload_n 0, 1) := by decide +kernel
theorem dX12_rate_16 : decode cX12_rate 16 = .ok (.iload_n 2, 1) := by decide +kernel
theorem dX12_rate_17 : decode cX12_rate 17 = .ok (.invokevirtual 297, 3) := by decide +kernel
theorem dX12_rate_20 : decode cX12_rate 20 = .ok (.iconst (-1), 1) := by decide +kernel
theorem dX12_rate_21 : decode cX12_rate 21 = .ok (.if_icmp .ne 7, 3) := by decide +kernel
theorem dX12_rate_24 : decode cX12_rate 24 = .ok (.iconst 0, 1) := by decide +kernel
theorem dX12_rate_25 : decode cX12_rate 25 = .ok (.goto 4, 3) := by decide +kernel
theorem dX12_rate_28 : decode cX12_rate 28 = .ok (.iconst 1, 1) := by decide +kernel
theorem dX12_rate_29 : decode cX12_rate 29 = .ok (.iadd, 1) := by decide +kernel
theorem dX12_rate_30 : decode cX12_rate 30 = .ok (.istore_n 1, 1) := by decide +kernel
theorem dX12_rate_31 : decode cX12_rate 31 = .ok (.iinc 2 1, 3) := by decide +kernel
theorem dX12_rate_34 : decode cX12_rate 34 = .ok (.goto (-30), 3) := by decide +kernel
theorem dX12_rate_37 : decode cX12_rate 37 = .ok (.aload_n 0, 1) := by decide +kernel
theorem dX12_rate_38 : decode cX12_rate 38 = .ok (.getfield 310, 3) := by decide +kernel
theorem dX12_rate_41 : decode cX12_rate 41 = .ok (.ifCond .eq 31, 3) := by decide +kernel
theorem dX12_rate_44 : decode cX12_rate 44 = .ok (.iload_n 1, 1) := by decide +kernel
theorem dX12_rate_45 : decode cX12_rate 45 = .ok (.aload_n 0, 1) := by decide +kernel
theorem dX12_rate_46 : decode cX12_rate 46 = .ok (.getfield 313, 3) := by decide +kernel
theorem dX12_rate_49 : decode cX12_rate 49 = .ok (.if_icmp .lt 22, 3) := by decide +kernel
theorem dX12_rate_52 : decode cX12_rate 52 = .ok (.iload_n 1, 1) := by decide +kernel
theorem dX12_rate_53 : decode cX12_rate 53 = .ok (.aload_n 0, 1) := by decide +kernel
theorem dX12_rate_54 : decode cX12_rate 54 = .ok (.getfield 313, 3) := by decide +kernel
theorem dX12_rate_57 : decode cX12_rate 57 = .ok (.if_icmp .ne 15, 3) := by decide +kernel
theorem dX12_rate_60 : decode cX12_rate 60 = .ok (.aload_n 0, 1) := by decide +kernel
theorem dX12_rate_61 : decode cX12_rate 61 = .ok (.getfield 248, 3) := by decide +kernel
theorem dX12_rate_64 : decode cX12_rate 64 = .ok (.aload_n 0, 1) := by decide +kernel
theorem dX12_rate_65 : decode cX12_rate 65 = .ok (.getfield 316, 3) := by decide +kernel
theorem dX12_rate_68 : decode cX12_rate 68 = .ok (.if_icmp .lt 4, 3) := by decide +kernel
theorem dX12_rate_71 : decode cX12_rate 71 = .ok (.return_, 1) := by decide +kernel
theorem dX12_rate_72 : decode cX12_rate 72 = .ok (.aload_n 0, 1) := by decide +kernel
theorem dX12_rate_73 : decode cX12_rate 73 = .ok (.iconst 1, 1) := by decide +kernel
theorem dX12_rate_74 : decode cX12_rate 74 = .ok (.putfield 310, 3) := by decide +kernel
theorem dX12_rate_77 : decode cX12_rate 77 = .ok (.aload_n 0, 1) := by decide +kernel
theorem dX12_rate_78 : decode cX12_rate 78 = .ok (.iload_n 1, 1) := by decide +kernel
theorem dX12_rate_79 : decode cX12_rate 79 = .ok (.putfield 313, 3) := by decide +kernel
theorem dX12_rate_82 : decode cX12_rate 82 = .ok (.aload_n 0, 1) := by decide +kernel
theorem dX12_rate_83 : decode cX12_rate 83 = .ok (.aload_n 0, 1) := by decide +kernel
theorem dX12_rate_84 : decode cX12_rate 84 = .ok (.getfield 248, 3) := by decide +kernel
theorem dX12_rate_87 : decode cX12_rate 87 = .ok (.putfield 316, 3) := by decide +kernel
theorem dX12_rate_90 : decode cX12_rate 90 = .ok (.aload_n 0, 1) := by decide +kernel
theorem dX12_rate_91 : decode cX12_rate 91 = .ok (.getfield 82, 3) := by decide +kernel
theorem dX12_rate_94 : decode cX12_rate 94 = .ok (.aload_n 0, 1) := by decide +kernel
theorem dX12_rate_95 : decode cX12_rate 95 = .ok (.getfield 79, 3) := by decide +kernel
theorem dX12_rate_98 : decode cX12_rate 98 = .ok (.invokestatic 319, 3) := by decide +kernel
theorem dX12_rate_101 : decode cX12_rate 101 = .ok (.return_, 1) := by decide +kernel
theorem dX12_best_0 : decode cX12_best 0 = .ok (.aload_n 0, 1) := by decide +kernel
theorem dX12_best_1 : decode cX12_best 1 = .ok (.iconst 0, 1) := by decide +kernel
theorem dX12_best_2 : decode cX12_best 2 = .ok (.putfield 122, 3) := by decide +kernel
theorem dX12_best_5 : decode cX12_best 5 = .ok (.iload_n 1, 1) := by decide +kernel
theorem dX12_best_6 : decode cX12_best 6 = .ok (.iconst 0, 1) := by decide +kernel
theorem dX12_best_7 : decode cX12_best 7 = .ok (.iconst 2, 1) := by decide +kernel
theorem dX12_best_8 : decode cX12_best 8 = .ok (.invokestatic 125, 3) := by decide +kernel
theorem dX12_best_11 : decode cX12_best 11 = .ok (.ifCond .ne 9, 3) := by decide +kernel
theorem dX12_best_14 : decode cX12_best 14 = .ok (.aload_n 0, 1) := by decide +kernel
theorem dX12_best_15 : decode cX12_best 15 = .ok (.iconst 1, 1) := by decide +kernel
theorem dX12_best_16 : decode cX12_best 16 = .ok (.invokevirtual 219, 3) := by decide +kernel
theorem dX12_best_19 : decode cX12_best 19 = .ok (.ireturn, 1) := by decide +kernel
theorem dX12_best_20 : decode cX12_best 20 = .ok (.aload_n 0, 1) := by decide +kernel
theorem dX12_best_21 : decode cX12_best 21 = .ok (.iconst 0, 1) := by decide +kernel
theorem dX12_best_22 : decode cX12_best 22 = .ok (.putfield 310, 3) := by decide +kernel
theorem dX12_best_25 : decode cX12_best 25 = .ok (.aload_n 0, 1) := by decide +kernel
theorem dX12_best_26 : decode cX12_best 26 = .ok (.iconst 0, 1) := by decide +kernel
theorem dX12_best_27 : decode cX12_best 27 = .ok (.iconst 0, 1) := by decide +kernel
theorem dX12_best_28 : decode cX12_best 28 = .ok (.iconst 0, 1) := by decide +kernel
theorem dX12_best_29 : decode cX12_best 29 = .ok (.iconst 0, 1) := by decide +kernel
theorem dX12_best_30 : decode cX12_best 30 = .ok (.invokevirtual 306, 3) := by decide +kernel
theorem dX12_best_33 : decode cX12_best 33 = .ok (.iload_n 1, 1) := by decide +kernel
theorem dX12_best_34 : decode cX12_best 34 = .ok (.ifCond .ne 22, 3) := by decide +kernel
theorem dX12_best_37 : decode cX12_best 37 = .ok (.aload_n 0, 1) := by decide +kernel
theorem dX12_best_38 : decode cX12_best 38 = .ok (.getfield 82, 3) := by decide +kernel
theorem dX12_best_41 : decode cX12_best 41 = .ok (.aload_n 0, 1) := by decide +kernel
theorem dX12_best_42 : decode cX12_best 42 = .ok (.getfield 23, 3) := by decide +kernel
theorem dX12_best_45 : decode cX12_best 45 = .ok (.iconst 1, 1) := by decide +kernel
theorem dX12_best_46 : decode cX12_best 46 = .ok (.iaload, 1) := by decide +kernel
theorem dX12_best_47 : decode cX12_best 47 = .ok (.bipush 8, 2) := by decide +kernel
theorem dX12_best_49 : decode cX12_best 49 = .ok (.invokestatic 323, 3) := by decide +kernel
theorem dX12_best_52 : decode cX12_best 52 = .ok (.l2i, 1) := by decide +kernel
theorem dX12_best_53 : decode cX12_best 53 = .ok (.goto 19, 3) := by decide +kernel
theorem dX12_best_56 : decode cX12_best 56 = .ok (.iload_n 1, 1) := by decide +kernel
theorem dX12_best_57 : decode cX12_best 57 = .ok (.iconst 1, 1) := by decide +kernel
theorem dX12_best_58 : decode cX12_best 58 = .ok (.if_icmp .ne 10, 3) := by decide +kernel
theorem dX12_best_61 : decode cX12_best 61 = .ok (.aload_n 0, 1) := by decide +kernel
theorem dX12_best_62 : decode cX12_best 62 = .ok (.getfield 313, 3) := by decide +kernel
theorem dX12_best_65 : decode cX12_best 65 = .ok (.goto 7, 3) := by decide +kernel
theorem dX12_best_68 : decode cX12_best 68 = .ok (.aload_n 0, 1) := by decide +kernel
theorem dX12_best_69 : decode cX12_best 69 = .ok (.getfield 316, 3) := by decide +kernel
theorem dX12_best_72 : decode cX12_best 72 = .ok (.ireturn, 1) := by decide +kernel
theorem dX12_layOn_0 : decode cX12_layOn 0 = .ok (.iload_n 1, 1) := by decide +kernel
theorem dX12_layOn_1 : decode cX12_layOn 1 = .ok (.aload_n 0, 1) := by decide +kernel
theorem dX12_layOn_2 : decode cX12_layOn 2 = .ok (.getfield 23, 3) := by decide +kernel
theorem dX12_layOn_5 : decode cX12_layOn 5 = .ok (.iconst 0, 1) := by decide +kernel
theorem dX12_layOn_6 : decode cX12_layOn 6 = .ok (.iaload, 1) := by decide +kernel
theorem dX12_layOn_7 : decode cX12_layOn 7 = .ok (.if_icmp .ne 8, 3) := by decide +kernel
theorem dX12_layOn_10 : decode cX12_layOn 10 = .ok (.aload_n 0, 1) := by decide +kernel
theorem dX12_layOn_11 : decode cX12_layOn 11 = .ok (.invokevirtual 327, 3) := by decide +kernel
theorem dX12_layOn_14 : decode cX12_layOn 14 = .ok (.return_, 1) := by decide +kernel
theorem dX12_layOn_15 : decode cX12_layOn 15 = .ok (.iconst 0, 1) := by decide +kernel
theorem dX12_layOn_16 : decode cX12_layOn 16 = .ok (.istore_n 3, 1) := by decide +kernel
theorem dX12_layOn_17 : decode cX12_layOn 17 = .ok (.iload_n 3, 1) := by decide +kernel
theorem dX12_layOn_18 : decode cX12_layOn 18 = .ok (.aload_n 0, 1) := by decide +kernel
theorem dX12_layOn_19 : decode cX12_layOn 19 = .ok (.getfield 23, 3) := by decide +kernel
theorem dX12_layOn_22 : decode cX12_layOn 22 = .ok (.iconst 0, 1) := by decide +kernel
theorem dX12_layOn_23 : decode cX12_layOn 23 = .ok (.iaload, 1) := by decide +kernel
theorem dX12_layOn_24 : decode cX12_layOn 24 = .ok (.if_icmp .ge 40, 3) := by decide +kernel
theorem dX12_layOn_27 : decode cX12_layOn 27 = .ok (.iload_n 2, 1) := by decide +kernel
theorem dX12_layOn_28 : decode cX12_layOn 28 = .ok (.iload_n 3, 1) := by decide +kernel
theorem dX12_layOn_29 : decode cX12_layOn 29 = .ok (.ishr, 1) := by decide +kernel
theorem dX12_layOn_30 : decode cX12_layOn 30 = .ok (.iconst 1, 1) := by decide +kernel
theorem dX12_layOn_31 : decode cX12_layOn 31 = .ok (.iand, 1) := by decide +kernel
theorem dX12_layOn_32 : decode cX12_layOn 32 = .ok (.iconst 1, 1) := by decide +kernel
theorem dX12_layOn_33 : decode cX12_layOn 33 = .ok (.if_icmp .ne 6, 3) := by decide +kernel
theorem dX12_layOn_36 : decode cX12_layOn 36 = .ok (.goto 22, 3) := by decide +kernel
theorem dX12_layOn_39 : decode cX12_layOn 39 = .ok (.aload_n 0, 1) := by decide +kernel
theorem dX12_layOn_40 : decode cX12_layOn 40 = .ok (.getfield 79, 3) := by decide +kernel
theorem dX12_layOn_43 : decode cX12_layOn 43 = .ok (.iload_n 1, 1) := by decide +kernel
theorem dX12_layOn_44 : decode cX12_layOn 44 = .ok (.iload_n 3, 1) := by decide +kernel
theorem dX12_layOn_45 : decode cX12_layOn 45 = .ok (.iastore, 1) := by decide +kernel
theorem dX12_layOn_46 : decode cX12_layOn 46 = .ok (.aload_n 0, 1) := by decide +kernel
theorem dX12_layOn_47 : decode cX12_layOn 47 = .ok (.iload_n 1, 1) := by decide +kernel
theorem dX12_layOn_48 : decode cX12_layOn 48 = .ok (.iconst 1, 1) := by decide +kernel
theorem dX12_layOn_49 : decode cX12_layOn 49 = .ok (.iadd, 1) := by decide +kernel
theorem dX12_layOn_50 : decode cX12_layOn 50 = .ok (.iload_n 2, 1) := by decide +kernel
theorem dX12_layOn_51 : decode cX12_layOn 51 = .ok (.iconst 1, 1) := by decide +kernel
theorem dX12_layOn_52 : decode cX12_layOn 52 = .ok (.iload_n 3, 1) := by decide +kernel
theorem dX12_layOn_53 : decode cX12_layOn 53 = .ok (.ishl, 1) := by decide +kernel
theorem dX12_layOn_54 : decode cX12_layOn 54 = .ok (.ior, 1) := by decide +kernel
theorem dX12_layOn_55 : decode cX12_layOn 55 = .ok (.invokevirtual 330, 3) := by decide +kernel
theorem dX12_layOn_58 : decode cX12_layOn 58 = .ok (.iinc 3 1, 3) := by decide +kernel
theorem dX12_layOn_61 : decode cX12_layOn 61 = .ok (.goto (-44), 3) := by decide +kernel
theorem dX12_layOn_64 : decode cX12_layOn 64 = .ok (.return_, 1) := by decide +kernel
theorem dX12_rateLaying_0 : decode cX12_rateLaying 0 = .ok (.iconst 0, 1) := by decide +kernel
theorem dX12_rateLaying_1 : decode cX12_rateLaying 1 = .ok (.istore_n 1, 1) := by decide +kernel
theorem dX12_rateLaying_2 : decode cX12_rateLaying 2 = .ok (.iconst 0, 1) := by decide +kernel
theorem dX12_rateLaying_3 : decode cX12_rateLaying 3 = .ok (.istore_n 2, 1) := by decide +kernel
theorem dX12_rateLaying_4 : decode cX12_rateLaying 4 = .ok (.iconst 0, 1) := by decide +kernel
theorem dX12_rateLaying_5 : decode cX12_rateLaying 5 = .ok (.istore_n 3, 1) := by decide +kernel
theorem dX12_rateLaying_6 : decode cX12_rateLaying 6 = .ok (.iload_n 3, 1) := by decide +kernel
theorem dX12_rateLaying_7 : decode cX12_rateLaying 7 = .ok (.aload_n 0, 1) := by decide +kernel
theorem dX12_rateLaying_8 : decode cX12_rateLaying 8 = .ok (.getfield 248, 3) := by decide +kernel
theorem dX12_rateLaying_11 : decode cX12_rateLaying 11 = .ok (.if_icmp .ge 93, 3) := by decide +kernel
theorem dX12_rateLaying_14 : decode cX12_rateLaying 14 = .ok (.iconst 0, 1) := by decide +kernel
theorem dX12_rateLaying_15 : decode cX12_rateLaying 15 = .ok (.istore 4, 2) := by decide +kernel
theorem dX12_rateLaying_17 : decode cX12_rateLaying 17 = .ok (.iconst 0, 1) := by decide +kernel
theorem dX12_rateLaying_18 : decode cX12_rateLaying 18 = .ok (.istore 5, 2) := by decide +kernel
theorem dX12_rateLaying_20 : decode cX12_rateLaying 20 = .ok (.iload 5, 2) := by decide +kernel
theorem dX12_rateLaying_22 : decode cX12_rateLaying 22 = .ok (.aload_n 0, 1) := by decide +kernel
theorem dX12_rateLaying_23 : decode cX12_rateLaying 23 = .ok (.getfield 23, 3) := by decide +kernel
theorem dX12_rateLaying_26 : decode cX12_rateLaying 26 = .ok (.iconst 0, 1) := by decide +kernel
theorem dX12_rateLaying_27 : decode cX12_rateLaying 27 = .ok (.iaload, 1) := by decide +kernel
theorem dX12_rateLaying_28 : decode cX12_rateLaying 28 = .ok (.if_icmp .gt 70, 3) := by decide +kernel
theorem dX12_rateLaying_31 : decode cX12_rateLaying 31 = .ok (.iload 5, 2) := by decide +kernel
theorem dX12_rateLaying_33 : decode cX12_rateLaying 33 = .ok (.aload_n 0, 1) := by decide +kernel
theorem dX12_rateLaying_34 : decode cX12_rateLaying 34 = .ok (.getfield 23, 3) := by decide +kernel
theorem dX12_rateLaying_37 : decode cX12_rateLaying 37 = .ok (.iconst 0, 1) := by decide +kernel
theorem dX12_rateLaying_38 : decode cX12_rateLaying 38 = .ok (.iaload, 1) := by decide +kernel
theorem dX12_rateLaying_39 : decode cX12_rateLaying 39 = .ok (.if_icmp .ge 29, 3) := by decide +kernel
theorem dX12_rateLaying_42 : decode cX12_rateLaying 42 = .ok (.aload_n 0, 1) := by decide +kernel
theorem dX12_rateLaying_43 : decode cX12_rateLaying 43 = .ok (.getfield 88, 3) := by decide +kernel
theorem dX12_rateLaying_46 : decode cX12_rateLaying 46 = .ok (.iload_n 3, 1) := by decide +kernel
theorem dX12_rateLaying_47 : decode cX12_rateLaying 47 = .ok (.iaload, 1) := by decide +kernel
theorem dX12_rateLaying_48 : decode cX12_rateLaying 48 = .ok (.aload_n 0, 1) := by decide +kernel
theorem dX12_rateLaying_49 : decode cX12_rateLaying 49 = .ok (.getfield 79, 3) := by decide +kernel
theorem dX12_rateLaying_52 : decode cX12_rateLaying 52 = .ok (.iload 5, 2) := by decide +kernel
theorem dX12_rateLaying_54 : decode cX12_rateLaying 54 = .ok (.iaload, 1) := by decide +kernel
theorem dX12_rateLaying_55 : decode cX12_rateLaying 55 = .ok (.ishr, 1) := by decide +kernel
theorem dX12_rateLaying_56 : decode cX12_rateLaying 56 = .ok (.iconst 1, 1) := by decide +kernel
theorem dX12_rateLaying_57 : decode cX12_rateLaying 57 = .ok (.iand, 1) := by decide +kernel
theorem dX12_rateLaying_58 : decode cX12_rateLaying 58 = .ok (.iconst 1, 1) := by decide +kernel
theorem dX12_rateLaying_59 : decode cX12_rateLaying 59 = .ok (.if_icmp .ne 9, 3) := by decide +kernel
theorem dX12_rateLaying_62 : decode cX12_rateLaying 62 = .ok (.iinc 4 1, 3) := by decide +kernel
theorem dX12_rateLaying_65 : decode cX12_rateLaying 65 = .ok (.goto 27, 3) := by decide +kernel
theorem dX12_rateLaying_68 : decode cX12_rateLaying 68 = .ok (.iload_n 1, 1) := by decide +kernel
theorem dX12_rateLaying_69 : decode cX12_rateLaying 69 = .ok (.iload 4, 2) := by decide +kernel
theorem dX12_rateLaying_71 : decode cX12_rateLaying 71 = .ok (.invokestatic 254, 3) := by decide +kernel
theorem dX12_rateLaying_74 : decode cX12_rateLaying 74 = .ok (.istore_n 1, 1) := by decide +kernel
theorem dX12_rateLaying_75 : decode cX12_rateLaying 75 = .ok (.iload_n 2, 1) := by decide +kernel
theorem dX12_rateLaying_76 : decode cX12_rateLaying 76 = .ok (.iload 4, 2) := by decide +kernel
theorem dX12_rateLaying_78 : decode cX12_rateLaying 78 = .ok (.iconst 1, 1) := by decide +kernel
theorem dX12_rateLaying_79 : decode cX12_rateLaying 79 = .ok (.if_icmp .le 7, 3) := by decide +kernel
theorem dX12_rateLaying_82 : decode cX12_rateLaying 82 = .ok (.iconst 1, 1) := by decide +kernel
theorem dX12_rateLaying_83 : decode cX12_rateLaying 83 = .ok (.goto 4, 3) := by decide +kernel
theorem dX12_rateLaying_86 : decode cX12_rateLaying 86 = .ok (.iconst 0, 1) := by decide +kernel
theorem dX12_rateLaying_87 : decode cX12_rateLaying 87 = .ok (.iadd, 1) := by decide +kernel
theorem dX12_rateLaying_88 : decode cX12_rateLaying 88 = .ok (.istore_n 2, 1) := by decide +kernel
theorem dX12_rateLaying_89 : decode cX12_rateLaying 89 = .ok (.iconst 0, 1) := by decide +kernel
theorem dX12_rateLaying_90 : decode cX12_rateLaying 90 = .ok (.istore 4, 2) := by decide +kernel
theorem dX12_rateLaying_92 : decode cX12_rateLaying 92 = .ok (.iinc 5 1, 3) := by decide +kernel
theorem dX12_rateLaying_95 : decode cX12_rateLaying 95 = .ok (.goto (-75), 3) := by decide +kernel
theorem dX12_rateLaying_98 : decode cX12_rateLaying 98 = .ok (.iinc 3 1, 3) := by decide +kernel
theorem dX12_rateLaying_101 : decode cX12_rateLaying 101 = .ok (.goto (-95), 3) := by decide +kernel
theorem dX12_rateLaying_104 : decode cX12_rateLaying 104 = .ok (.aload_n 0, 1) := by decide +kernel
theorem dX12_rateLaying_105 : decode cX12_rateLaying 105 = .ok (.getfield 310, 3) := by decide +kernel
theorem dX12_rateLaying_108 : decode cX12_rateLaying 108 = .ok (.ifCond .eq 28, 3) := by decide +kernel
theorem dX12_rateLaying_111 : decode cX12_rateLaying 111 = .ok (.iload_n 1, 1) := by decide +kernel
theorem dX12_rateLaying_112 : decode cX12_rateLaying 112 = .ok (.aload_n 0, 1) := by decide +kernel
theorem dX12_rateLaying_113 : decode cX12_rateLaying 113 = .ok (.getfield 334, 3) := by decide +kernel
theorem dX12_rateLaying_116 : decode cX12_rateLaying 116 = .ok (.if_icmp .gt 19, 3) := by decide +kernel
theorem dX12_rateLaying_119 : decode cX12_rateLaying 119 = .ok (.iload_n 1, 1) := by decide +kernel
theorem dX12_rateLaying_120 : decode cX12_rateLaying 120 = .ok (.aload_n 0, 1) := by decide +kernel
theorem dX12_rateLaying_121 : decode cX12_rateLaying 121 = .ok (.getfield 334, 3) := by decide +kernel
theorem dX12_rateLaying_124 : decode cX12_rateLaying 124 = .ok (.if_icmp .ne 12, 3) := by decide +kernel
theorem dX12_rateLaying_127 : decode cX12_rateLaying 127 = .ok (.iload_n 2, 1) := by decide +kernel
theorem dX12_rateLaying_128 : decode cX12_rateLaying 128 = .ok (.aload_n 0, 1) := by decide +kernel
theorem dX12_rateLaying_129 : decode cX12_rateLaying 129 = .ok (.getfield 337, 3) := by decide +kernel
theorem dX12_rateLaying_132 : decode cX12_rateLaying 132 = .ok (.if_icmp .lt 4, 3) := by decide +kernel
theorem dX12_rateLaying_135 : decode cX12_rateLaying 135 = .ok (.return_, 1) := by decide +kernel
theorem dX12_rateLaying_136 : decode cX12_rateLaying 136 = .ok (.aload_n 0, 1) := by decide +kernel
theorem dX12_rateLaying_137 : decode cX12_rateLaying 137 = .ok (.iconst 1, 1) := by decide +kernel
theorem dX12_rateLaying_138 : decode cX12_rateLaying 138 = .ok (.putfield 310, 3) := by decide +kernel
theorem dX12_rateLaying_141 : decode cX12_rateLaying 141 = .ok (.aload_n 0, 1) := by decide +kernel
theorem dX12_rateLaying_142 : decode cX12_rateLaying 142 = .ok (.iload_n 1, 1) := by decide +kernel
theorem dX12_rateLaying_143 : decode cX12_rateLaying 143 = .ok (.putfield 334, 3) := by decide +kernel
theorem dX12_rateLaying_146 : decode cX12_rateLaying 146 = .ok (.aload_n 0, 1) := by decide +kernel
theorem dX12_rateLaying_147 : decode cX12_rateLaying 147 = .ok (.iload_n 2, 1) := by decide +kernel
theorem dX12_rateLaying_148 : decode cX12_rateLaying 148 = .ok (.putfield 337, 3) := by decide +kernel
theorem dX12_rateLaying_151 : decode cX12_rateLaying 151 = .ok (.aload_n 0, 1) := by decide +kernel
theorem dX12_rateLaying_152 : decode cX12_rateLaying 152 = .ok (.getfield 82, 3) := by decide +kernel
theorem dX12_rateLaying_155 : decode cX12_rateLaying 155 = .ok (.aload_n 0, 1) := by decide +kernel
theorem dX12_rateLaying_156 : decode cX12_rateLaying 156 = .ok (.getfield 79, 3) := by decide +kernel
theorem dX12_rateLaying_159 : decode cX12_rateLaying 159 = .ok (.invokestatic 319, 3) := by decide +kernel
theorem dX12_rateLaying_162 : decode cX12_rateLaying 162 = .ok (.return_, 1) := by decide +kernel
theorem dX12_lays_0 : decode cX12_lays 0 = .ok (.aload_n 0, 1) := by decide +kernel
theorem dX12_lays_1 : decode cX12_lays 1 = .ok (.iconst 0, 1) := by decide +kernel
theorem dX12_lays_2 : decode cX12_lays 2 = .ok (.putfield 122, 3) := by decide +kernel
theorem dX12_lays_5 : decode cX12_lays 5 = .ok (.iload_n 1, 1) := by decide +kernel
theorem dX12_lays_6 : decode cX12_lays 6 = .ok (.iconst 0, 1) := by decide +kernel
theorem dX12_lays_7 : decode cX12_lays 7 = .ok (.iconst 2, 1) := by decide +kernel
theorem dX12_lays_8 : decode cX12_lays 8 = .ok (.invokestatic 125, 3) := by decide +kernel
theorem dX12_lays_11 : decode cX12_lays 11 = .ok (.ifCond .ne 10, 3) := by decide +kernel
theorem dX12_lays_14 : decode cX12_lays 14 = .ok (.aload_n 0, 1) := by decide +kernel
theorem dX12_lays_15 : decode cX12_lays 15 = .ok (.iconst 1, 1) := by decide +kernel
theorem dX12_lays_16 : decode cX12_lays 16 = .ok (.invokevirtual 219, 3) := by decide +kernel
theorem dX12_lays_19 : decode cX12_lays 19 = .ok (.i2l, 1) := by decide +kernel
theorem dX12_lays_20 : decode cX12_lays 20 = .ok (.lreturn, 1) := by decide +kernel
theorem dX12_lays_21 : decode cX12_lays 21 = .ok (.aload_n 0, 1) := by decide +kernel
theorem dX12_lays_22 : decode cX12_lays 22 = .ok (.getfield 23, 3) := by decide +kernel
theorem dX12_lays_25 : decode cX12_lays 25 = .ok (.iconst 0, 1) := by decide +kernel
theorem dX12_lays_26 : decode cX12_lays 26 = .ok (.iaload, 1) := by decide +kernel
theorem dX12_lays_27 : decode cX12_lays 27 = .ok (.bipush 7, 2) := by decide +kernel
theorem dX12_lays_29 : decode cX12_lays 29 = .ok (.if_icmp .le 7, 3) := by decide +kernel
theorem dX12_lays_32 : decode cX12_lays 32 = .ok (.ldc2_w 340, 3) := by decide +kernel
theorem dX12_lays_35 : decode cX12_lays 35 = .ok (.lreturn, 1) := by decide +kernel
theorem dX12_lays_36 : decode cX12_lays 36 = .ok (.aload_n 0, 1) := by decide +kernel
theorem dX12_lays_37 : decode cX12_lays 37 = .ok (.aload_n 0, 1) := by decide +kernel
theorem dX12_lays_38 : decode cX12_lays 38 = .ok (.getfield 70, 3) := by decide +kernel
theorem dX12_lays_41 : decode cX12_lays 41 = .ok (.invokevirtual 257, 3) := by decide +kernel
theorem dX12_lays_44 : decode cX12_lays 44 = .ok (.iconst 0, 1) := by decide +kernel
theorem dX12_lays_45 : decode cX12_lays 45 = .ok (.istore_n 2, 1) := by decide +kernel
theorem dX12_lays_46 : decode cX12_lays 46 = .ok (.iload_n 2, 1) := by decide +kernel
theorem dX12_lays_47 : decode cX12_lays 47 = .ok (.aload_n 0, 1) := by decide +kernel
theorem dX12_lays_48 : decode cX12_lays 48 = .ok (.getfield 248, 3) := by decide +kernel
theorem dX12_lays_51 : decode cX12_lays 51 = .ok (.if_icmp .ge 20, 3) := by decide +kernel
theorem dX12_lays_54 : decode cX12_lays 54 = .ok (.aload_n 0, 1) := by decide +kernel
theorem dX12_lays_55 : decode cX12_lays 55 = .ok (.getfield 88, 3) := by decide +kernel
theorem dX12_lays_58 : decode cX12_lays 58 = .ok (.iload_n 2, 1) := by decide +kernel
theorem dX12_lays_59 : decode cX12_lays 59 = .ok (.aload_n 0, 1) := by decide +kernel
theorem dX12_lays_60 : decode cX12_lays 60 = .ok (.iload_n 2, 1) := by decide +kernel
theorem dX12_lays_61 : decode cX12_lays 61 = .ok (.invokevirtual 245, 3) := by decide +kernel
theorem dX12_lays_64 : decode cX12_lays 64 = .ok (.iastore, 1) := by decide +kernel
theorem dX12_lays_65 : decode cX12_lays 65 = .ok (.iinc 2 1, 3) := by decide +kernel
theorem dX12_lays_68 : decode cX12_lays 68 = .ok (.goto (-22), 3) := by decide +kernel
theorem dX12_lays_71 : decode cX12_lays 71 = .ok (.aload_n 0, 1) := by decide +kernel
theorem dX12_lays_72 : decode cX12_lays 72 = .ok (.iconst 0, 1) := by decide +kernel
theorem dX12_lays_73 : decode cX12_lays 73 = .ok (.putfield 310, 3) := by decide +kernel
theorem dX12_lays_76 : decode cX12_lays 76 = .ok (.aload_n 0, 1) := by decide +kernel
theorem dX12_lays_77 : decode cX12_lays 77 = .ok (.iconst 0, 1) := by decide +kernel
theorem dX12_lays_78 : decode cX12_lays 78 = .ok (.iconst 0, 1) := by decide +kernel
theorem dX12_lays_79 : decode cX12_lays 79 = .ok (.invokevirtual 330, 3) := by decide +kernel
theorem dX12_lays_82 : decode cX12_lays 82 = .ok (.iload_n 1, 1) := by decide +kernel
theorem dX12_lays_83 : decode cX12_lays 83 = .ok (.ifCond .ne 21, 3) := by decide +kernel
theorem dX12_lays_86 : decode cX12_lays 86 = .ok (.aload_n 0, 1) := by decide +kernel
theorem dX12_lays_87 : decode cX12_lays 87 = .ok (.getfield 82, 3) := by decide +kernel
theorem dX12_lays_90 : decode cX12_lays 90 = .ok (.aload_n 0, 1) := by decide +kernel
theorem dX12_lays_91 : decode cX12_lays 91 = .ok (.getfield 23, 3) := by decide +kernel
theorem dX12_lays_94 : decode cX12_lays 94 = .ok (.iconst 0, 1) := by decide +kernel
theorem dX12_lays_95 : decode cX12_lays 95 = .ok (.iaload, 1) := by decide +kernel
theorem dX12_lays_96 : decode cX12_lays 96 = .ok (.bipush 16, 2) := by decide +kernel
theorem dX12_lays_98 : decode cX12_lays 98 = .ok (.invokestatic 323, 3) := by decide +kernel
theorem dX12_lays_101 : decode cX12_lays 101 = .ok (.goto 21, 3) := by decide +kernel
theorem dX12_lays_104 : decode cX12_lays 104 = .ok (.iload_n 1, 1) := by decide +kernel
theorem dX12_lays_105 : decode cX12_lays 105 = .ok (.iconst 1, 1) := by decide +kernel
theorem dX12_lays_106 : decode cX12_lays 106 = .ok (.if_icmp .ne 11, 3) := by decide +kernel
theorem dX12_lays_109 : decode cX12_lays 109 = .ok (.aload_n 0, 1) := by decide +kernel
theorem dX12_lays_110 : decode cX12_lays 110 = .ok (.getfield 334, 3) := by decide +kernel
theorem dX12_lays_113 : decode cX12_lays 113 = .ok (.i2l, 1) := by decide +kernel
theorem dX12_lays_114 : decode cX12_lays 114 = .ok (.goto 8, 3) := by decide +kernel
theorem dX12_lays_117 : decode cX12_lays 117 = .ok (.aload_n 0, 1) := by decide +kernel
theorem dX12_lays_118 : decode cX12_lays 118 = .ok (.getfield 337, 3) := by decide +kernel
theorem dX12_lays_121 : decode cX12_lays 121 = .ok (.i2l, 1) := by decide +kernel
theorem dX12_lays_122 : decode cX12_lays 122 = .ok (.lreturn, 1) := by decide +kernel
theorem dX12_bitsOf_0 : decode cX12_bitsOf 0 = .ok (.iconst 0, 1) := by decide +kernel
theorem dX12_bitsOf_1 : decode cX12_bitsOf 1 = .ok (.istore_n 1, 1) := by decide +kernel
theorem dX12_bitsOf_2 : decode cX12_bitsOf 2 = .ok (.iload_n 0, 1) := by decide +kernel
theorem dX12_bitsOf_3 : decode cX12_bitsOf 3 = .ok (.istore_n 2, 1) := by decide +kernel
theorem dX12_bitsOf_4 : decode cX12_bitsOf 4 = .ok (.iload_n 2, 1) := by decide +kernel
theorem dX12_bitsOf_5 : decode cX12_bitsOf 5 = .ok (.ifCond .eq 15, 3) := by decide +kernel
theorem dX12_bitsOf_8 : decode cX12_bitsOf 8 = .ok (.iinc 1 1, 3) := by decide +kernel
theorem dX12_bitsOf_11 : decode cX12_bitsOf 11 = .ok (.iload_n 2, 1) := by decide +kernel
theorem dX12_bitsOf_12 : decode cX12_bitsOf 12 = .ok (.iload_n 2, 1) := by decide +kernel
theorem dX12_bitsOf_13 : decode cX12_bitsOf 13 = .ok (.iconst 1, 1) := by decide +kernel
theorem dX12_bitsOf_14 : decode cX12_bitsOf 14 = .ok (.isub, 1) := by decide +kernel
theorem dX12_bitsOf_15 : decode cX12_bitsOf 15 = .ok (.iand, 1) := by decide +kernel
theorem dX12_bitsOf_16 : decode cX12_bitsOf 16 = .ok (.istore_n 2, 1) := by decide +kernel
theorem dX12_bitsOf_17 : decode cX12_bitsOf 17 = .ok (.goto (-13), 3) := by decide +kernel
theorem dX12_bitsOf_20 : decode cX12_bitsOf 20 = .ok (.iload_n 1, 1) := by decide +kernel
theorem dX12_bitsOf_21 : decode cX12_bitsOf 21 = .ok (.ireturn, 1) := by decide +kernel
theorem dX12_suit_0 : decode cX12_suit 0 = .ok (.aload_n 0, 1) := by decide +kernel
theorem dX12_suit_1 : decode cX12_suit 1 = .ok (.iconst 0, 1) := by decide +kernel
theorem dX12_suit_2 : decode cX12_suit 2 = .ok (.putfield 122, 3) := by decide +kernel
theorem dX12_suit_5 : decode cX12_suit 5 = .ok (.aload_n 0, 1) := by decide +kernel
theorem dX12_suit_6 : decode cX12_suit 6 = .ok (.iload_n 1, 1) := by decide +kernel
theorem dX12_suit_7 : decode cX12_suit 7 = .ok (.invokevirtual 263, 3) := by decide +kernel
theorem dX12_suit_10 : decode cX12_suit 10 = .ok (.ifCond .eq 10, 3) := by decide +kernel
theorem dX12_suit_13 : decode cX12_suit 13 = .ok (.iload_n 2, 1) := by decide +kernel
theorem dX12_suit_14 : decode cX12_suit 14 = .ok (.invokestatic 270, 3) := by decide +kernel
theorem dX12_suit_17 : decode cX12_suit 17 = .ok (.ifCond .ne 9, 3) := by decide +kernel
theorem dX12_suit_20 : decode cX12_suit 20 = .ok (.aload_n 0, 1) := by decide +kernel
theorem dX12_suit_21 : decode cX12_suit 21 = .ok (.iconst 1, 1) := by decide +kernel
theorem dX12_suit_22 : decode cX12_suit 22 = .ok (.invokevirtual 219, 3) := by decide +kernel
theorem dX12_suit_25 : decode cX12_suit 25 = .ok (.ireturn, 1) := by decide +kernel
theorem dX12_suit_26 : decode cX12_suit 26 = .ok (.aload_n 0, 1) := by decide +kernel
theorem dX12_suit_27 : decode cX12_suit 27 = .ok (.aload_n 0, 1) := by decide +kernel
theorem dX12_suit_28 : decode cX12_suit 28 = .ok (.getfield 70, 3) := by decide +kernel
theorem dX12_suit_31 : decode cX12_suit 31 = .ok (.invokevirtual 257, 3) := by decide +kernel
theorem dX12_suit_34 : decode cX12_suit 34 = .ok (.aload_n 0, 1) := by decide +kernel
theorem dX12_suit_35 : decode cX12_suit 35 = .ok (.iload_n 1, 1) := by decide +kernel
theorem dX12_suit_36 : decode cX12_suit 36 = .ok (.iload_n 2, 1) := by decide +kernel
theorem dX12_suit_37 : decode cX12_suit 37 = .ok (.invokevirtual 288, 3) := by decide +kernel
theorem dX12_suit_40 : decode cX12_suit 40 = .ok (.aload_n 0, 1) := by decide +kernel
theorem dX12_suit_41 : decode cX12_suit 41 = .ok (.iload_n 2, 1) := by decide +kernel
theorem dX12_suit_42 : decode cX12_suit 42 = .ok (.invokevirtual 245, 3) := by decide +kernel
theorem dX12_suit_45 : decode cX12_suit 45 = .ok (.iconst (-1), 1) := by decide +kernel
theorem dX12_suit_46 : decode cX12_suit 46 = .ok (.ixor, 1) := by decide +kernel
theorem dX12_suit_47 : decode cX12_suit 47 = .ok (.iand, 1) := by decide +kernel
theorem dX12_suit_48 : decode cX12_suit 48 = .ok (.istore_n 3, 1) := by decide +kernel
theorem dX12_suit_49 : decode cX12_suit 49 = .ok (.iconst 1, 1) := by decide +kernel
theorem dX12_suit_50 : decode cX12_suit 50 = .ok (.aload_n 0, 1) := by decide +kernel
theorem dX12_suit_51 : decode cX12_suit 51 = .ok (.getfield 23, 3) := by decide +kernel
theorem dX12_suit_54 : decode cX12_suit 54 = .ok (.iconst 0, 1) := by decide +kernel
theorem dX12_suit_55 : decode cX12_suit 55 = .ok (.iaload, 1) := by decide +kernel
theorem dX12_suit_56 : decode cX12_suit 56 = .ok (.ishl, 1) := by decide +kernel
theorem dX12_suit_57 : decode cX12_suit 57 = .ok (.iconst 1, 1) := by decide +kernel
theorem dX12_suit_58 : decode cX12_suit 58 = .ok (.isub, 1) := by decide +kernel
theorem dX12_suit_59 : decode cX12_suit 59 = .ok (.aload_n 0, 1) := by decide +kernel
theorem dX12_suit_60 : decode cX12_suit 60 = .ok (.iload_n 2, 1) := by decide +kernel
theorem dX12_suit_61 : decode cX12_suit 61 = .ok (.invokevirtual 245, 3) := by decide +kernel
theorem dX12_suit_64 : decode cX12_suit 64 = .ok (.iconst (-1), 1) := by decide +kernel
theorem dX12_suit_65 : decode cX12_suit 65 = .ok (.ixor, 1) := by decide +kernel
theorem dX12_suit_66 : decode cX12_suit 66 = .ok (.iand, 1) := by decide +kernel
theorem dX12_suit_67 : decode cX12_suit 67 = .ok (.istore 4, 2) := by decide +kernel
theorem dX12_suit_69 : decode cX12_suit 69 = .ok (.iconst (-1), 1) := by decide +kernel
theorem dX12_suit_70 : decode cX12_suit 70 = .ok (.istore 5, 2) := by decide +kernel
theorem dX12_suit_72 : decode cX12_suit 72 = .ok (.iconst 0, 1) := by decide +kernel
theorem dX12_suit_73 : decode cX12_suit 73 = .ok (.istore 6, 2) := by decide +kernel
theorem dX12_suit_75 : decode cX12_suit 75 = .ok (.iload 6, 2) := by decide +kernel
theorem dX12_suit_77 : decode cX12_suit 77 = .ok (.iconst 1, 1) := by decide +kernel
theorem dX12_suit_78 : decode cX12_suit 78 = .ok (.aload_n 0, 1) := by decide +kernel
theorem dX12_suit_79 : decode cX12_suit 79 = .ok (.getfield 23, 3) := by decide +kernel
theorem dX12_suit_82 : decode cX12_suit 82 = .ok (.iconst 0, 1) := by decide +kernel
theorem dX12_suit_83 : decode cX12_suit 83 = .ok (.iaload, 1) := by decide +kernel
theorem dX12_suit_84 : decode cX12_suit 84 = .ok (.ishl, 1) := by decide +kernel
theorem dX12_suit_85 : decode cX12_suit 85 = .ok (.if_icmp .ge 57, 3) := by decide +kernel
theorem dX12_suit_88 : decode cX12_suit 88 = .ok (.iload 6, 2) := by decide +kernel
theorem dX12_suit_90 : decode cX12_suit 90 = .ok (.iload 4, 2) := by decide +kernel
theorem dX12_suit_92 : decode cX12_suit 92 = .ok (.iconst (-1), 1) := by decide +kernel
theorem dX12_suit_93 : decode cX12_suit 93 = .ok (.ixor, 1) := by decide +kernel
theorem dX12_suit_94 : decode cX12_suit 94 = .ok (.iand, 1) := by decide +kernel
theorem dX12_suit_95 : decode cX12_suit 95 = .ok (.ifCond .ne 41, 3) := by decide +kernel
theorem dX12_suit_98 : decode cX12_suit 98 = .ok (.iload 5, 2) := by decide +kernel
theorem dX12_suit_100 : decode cX12_suit 100 = .ok (.iconst (-1), 1) := by decide +kernel
theorem dX12_suit_101 : decode cX12_suit 101 = .ok (.if_icmp .eq 16, 3) := by decide +kernel
theorem dX12_suit_104 : decode cX12_suit 104 = .ok (.iload 6, 2) := by decide +kernel
theorem dX12_suit_106 : decode cX12_suit 106 = .ok (.invokestatic 342, 3) := by decide +kernel
theorem dX12_suit_109 : decode cX12_suit 109 = .ok (.iload 5, 2) := by decide +kernel
theorem dX12_suit_111 : decode cX12_suit 111 = .ok (.invokestatic 342, 3) := by decide +kernel
theorem dX12_suit_114 : decode cX12_suit 114 = .ok (.if_icmp .ge 22, 3) := by decide +kernel
theorem dX12_suit_117 : decode cX12_suit 117 = .ok (.aload_n 0, 1) := by decide +kernel
theorem dX12_suit_118 : decode cX12_suit 118 = .ok (.iload_n 1, 1) := by decide +kernel
theorem dX12_suit_119 : decode cX12_suit 119 = .ok (.iload_n 2, 1) := by decide +kernel
theorem dX12_suit_120 : decode cX12_suit 120 = .ok (.iload_n 3, 1) := by decide +kernel
theorem dX12_suit_121 : decode cX12_suit 121 = .ok (.iload 6, 2) := by decide +kernel
theorem dX12_suit_123 : decode cX12_suit 123 = .ok (.iconst (-1), 1) := by decide +kernel
theorem dX12_suit_124 : decode cX12_suit 124 = .ok (.ixor, 1) := by decide +kernel
theorem dX12_suit_125 : decode cX12_suit 125 = .ok (.iand, 1) := by decide +kernel
theorem dX12_suit_126 : decode cX12_suit 126 = .ok (.invokevirtual 291, 3) := by decide +kernel
theorem dX12_suit_129 : decode cX12_suit 129 = .ok (.ifCond .ne 7, 3) := by decide +kernel
theorem dX12_suit_132 : decode cX12_suit 132 = .ok (.iload 6, 2) := by decide +kernel
theorem dX12_suit_134 : decode cX12_suit 134 = .ok (.istore 5, 2) := by decide +kernel
theorem dX12_suit_136 : decode cX12_suit 136 = .ok (.iinc 6 1, 3) := by decide +kernel
theorem dX12_suit_139 : decode cX12_suit 139 = .ok (.goto (-64), 3) := by decide +kernel
theorem dX12_suit_142 : decode cX12_suit 142 = .ok (.iload 5, 2) := by decide +kernel
theorem dX12_suit_144 : decode cX12_suit 144 = .ok (.ireturn, 1) := by decide +kernel
theorem dX12_settled_0 : decode cX12_settled 0 = .ok (.aload_n 0, 1) := by decide +kernel
theorem dX12_settled_1 : decode cX12_settled 1 = .ok (.iconst 0, 1) := by decide +kernel
theorem dX12_settled_2 : decode cX12_settled 2 = .ok (.putfield 122, 3) := by decide +kernel
theorem dX12_settled_5 : decode cX12_settled 5 = .ok (.aload_n 0, 1) := by decide +kernel
theorem dX12_settled_6 : decode cX12_settled 6 = .ok (.iload_n 1, 1) := by decide +kernel
theorem dX12_settled_7 : decode cX12_settled 7 = .ok (.invokevirtual 263, 3) := by decide +kernel
theorem dX12_settled_10 : decode cX12_settled 10 = .ok (.ifCond .eq 10, 3) := by decide +kernel
theorem dX12_settled_13 : decode cX12_settled 13 = .ok (.iload_n 2, 1) := by decide +kernel
theorem dX12_settled_14 : decode cX12_settled 14 = .ok (.invokestatic 270, 3) := by decide +kernel
theorem dX12_settled_17 : decode cX12_settled 17 = .ok (.ifCond .ne 9, 3) := by decide +kernel
theorem dX12_settled_20 : decode cX12_settled 20 = .ok (.aload_n 0, 1) := by decide +kernel
theorem dX12_settled_21 : decode cX12_settled 21 = .ok (.iconst 1, 1) := by decide +kernel
theorem dX12_settled_22 : decode cX12_settled 22 = .ok (.invokevirtual 219, 3) := by decide +kernel
theorem dX12_settled_25 : decode cX12_settled 25 = .ok (.ireturn, 1) := by decide +kernel
theorem dX12_settled_26 : decode cX12_settled 26 = .ok (.aload_n 0, 1) := by decide +kernel
theorem dX12_settled_27 : decode cX12_settled 27 = .ok (.aload_n 0, 1) := by decide +kernel
theorem dX12_settled_28 : decode cX12_settled 28 = .ok (.getfield 70, 3) := by decide +kernel
theorem dX12_settled_31 : decode cX12_settled 31 = .ok (.invokevirtual 257, 3) := by decide +kernel
theorem dX12_settled_34 : decode cX12_settled 34 = .ok (.aload_n 0, 1) := by decide +kernel
theorem dX12_settled_35 : decode cX12_settled 35 = .ok (.iload_n 1, 1) := by decide +kernel
theorem dX12_settled_36 : decode cX12_settled 36 = .ok (.iload_n 2, 1) := by decide +kernel
theorem dX12_settled_37 : decode cX12_settled 37 = .ok (.invokevirtual 288, 3) := by decide +kernel
theorem dX12_settled_40 : decode cX12_settled 40 = .ok (.istore_n 3, 1) := by decide +kernel
theorem dX12_settled_41 : decode cX12_settled 41 = .ok (.aload_n 0, 1) := by decide +kernel
theorem dX12_settled_42 : decode cX12_settled 42 = .ok (.iload_n 2, 1) := by decide +kernel
theorem dX12_settled_43 : decode cX12_settled 43 = .ok (.invokevirtual 273, 3) := by decide +kernel
theorem dX12_settled_46 : decode cX12_settled 46 = .ok (.istore 4, 2) := by decide +kernel
theorem dX12_settled_48 : decode cX12_settled 48 = .ok (.iconst (-1), 1) := by decide +kernel
theorem dX12_settled_49 : decode cX12_settled 49 = .ok (.istore 5, 2) := by decide +kernel
theorem dX12_settled_51 : decode cX12_settled 51 = .ok (.iconst 0, 1) := by decide +kernel
theorem dX12_settled_52 : decode cX12_settled 52 = .ok (.istore 6, 2) := by decide +kernel
theorem dX12_settled_54 : decode cX12_settled 54 = .ok (.iload 6, 2) := by decide +kernel
theorem dX12_settled_56 : decode cX12_settled 56 = .ok (.iconst 1, 1) := by decide +kernel
theorem dX12_settled_57 : decode cX12_settled 57 = .ok (.aload_n 0, 1) := by decide +kernel
theorem dX12_settled_58 : decode cX12_settled 58 = .ok (.getfield 23, 3) := by decide +kernel
theorem dX12_settled_61 : decode cX12_settled 61 = .ok (.iconst 1, 1) := by decide +kernel
theorem dX12_settled_62 : decode cX12_settled 62 = .ok (.iaload, 1) := by decide +kernel
theorem dX12_settled_63 : decode cX12_settled 63 = .ok (.ishl, 1) := by decide +kernel
theorem dX12_settled_64 : decode cX12_settled 64 = .ok (.if_icmp .ge 115, 3) := by decide +kernel
theorem dX12_settled_67 : decode cX12_settled 67 = .ok (.iload 6, 2) := by decide +kernel
theorem dX12_settled_69 : decode cX12_settled 69 = .ok (.iload 4, 2) := by decide +kernel
theorem dX12_settled_71 : decode cX12_settled 71 = .ok (.iconst (-1), 1) := by decide +kernel
theorem dX12_settled_72 : decode cX12_settled 72 = .ok (.ixor, 1) := by decide +kernel
theorem dX12_settled_73 : decode cX12_settled 73 = .ok (.iand, 1) := by decide +kernel
theorem dX12_settled_74 : decode cX12_settled 74 = .ok (.ifCond .ne 99, 3) := by decide +kernel
theorem dX12_settled_77 : decode cX12_settled 77 = .ok (.iload 5, 2) := by decide +kernel
theorem dX12_settled_79 : decode cX12_settled 79 = .ok (.iconst (-1), 1) := by decide +kernel
theorem dX12_settled_80 : decode cX12_settled 80 = .ok (.if_icmp .eq 19, 3) := by decide +kernel
theorem dX12_settled_83 : decode cX12_settled 83 = .ok (.iload 6, 2) := by decide +kernel
theorem dX12_settled_85 : decode cX12_settled 85 = .ok (.invokestatic 342, 3) := by decide +kernel
theorem dX12_settled_88 : decode cX12_settled 88 = .ok (.iload 5, 2) := by decide +kernel
theorem dX12_settled_90 : decode cX12_settled 90 = .ok (.invokestatic 342, 3) := by decide +kernel
theorem dX12_settled_93 : decode cX12_settled 93 = .ok (.if_icmp .lt 6, 3) := by decide +kernel
theorem dX12_settled_96 : decode cX12_settled 96 = .ok (.goto 77, 3) := by decide +kernel
theorem dX12_settled_99 : decode cX12_settled 99 = .ok (.iconst 0, 1) := by decide +kernel
theorem dX12_settled_100 : decode cX12_settled 100 = .ok (.istore 7, 2) := by decide +kernel
theorem dX12_settled_102 : decode cX12_settled 102 = .ok (.iconst 0, 1) := by decide +kernel
theorem dX12_settled_103 : decode cX12_settled 103 = .ok (.istore 8, 2) := by decide +kernel
theorem dX12_settled_105 : decode cX12_settled 105 = .ok (.iload 8, 2) := by decide +kernel
theorem dX12_settled_107 : decode cX12_settled 107 = .ok (.aload_n 0, 1) := by decide +kernel
theorem dX12_settled_108 : decode cX12_settled 108 = .ok (.getfield 23, 3) := by decide +kernel
theorem dX12_settled_111 : decode cX12_settled 111 = .ok (.iconst 1, 1) := by decide +kernel
theorem dX12_settled_112 : decode cX12_settled 112 = .ok (.iaload, 1) := by decide +kernel
theorem dX12_settled_113 : decode cX12_settled 113 = .ok (.if_icmp .ge 41, 3) := by decide +kernel
theorem dX12_settled_116 : decode cX12_settled 116 = .ok (.iload 7, 2) := by decide +kernel
theorem dX12_settled_118 : decode cX12_settled 118 = .ok (.iload 4, 2) := by decide +kernel
theorem dX12_settled_120 : decode cX12_settled 120 = .ok (.iload 6, 2) := by decide +kernel
theorem dX12_settled_122 : decode cX12_settled 122 = .ok (.iconst (-1), 1) := by decide +kernel
theorem dX12_settled_123 : decode cX12_settled 123 = .ok (.ixor, 1) := by decide +kernel
theorem dX12_settled_124 : decode cX12_settled 124 = .ok (.iand, 1) := by decide +kernel
theorem dX12_settled_125 : decode cX12_settled 125 = .ok (.iload 8, 2) := by decide +kernel
theorem dX12_settled_127 : decode cX12_settled 127 = .ok (.ishr, 1) := by decide +kernel
theorem dX12_settled_128 : decode cX12_settled 128 = .ok (.iconst 1, 1) := by decide +kernel
theorem dX12_settled_129 : decode cX12_settled 129 = .ok (.iand, 1) := by decide +kernel
theorem dX12_settled_130 : decode cX12_settled 130 = .ok (.iconst 1, 1) := by decide +kernel
theorem dX12_settled_131 : decode cX12_settled 131 = .ok (.if_icmp .ne 13, 3) := by decide +kernel
theorem dX12_settled_134 : decode cX12_settled 134 = .ok (.aload_n 0, 1) := by decide +kernel
theorem dX12_settled_135 : decode cX12_settled 135 = .ok (.getfield 36, 3) := by decide +kernel
theorem dX12_settled_138 : decode cX12_settled 138 = .ok (.iload 8, 2) := by decide +kernel
theorem dX12_settled_140 : decode cX12_settled 140 = .ok (.iaload, 1) := by decide +kernel
theorem dX12_settled_141 : decode cX12_settled 141 = .ok (.goto 4, 3) := by decide +kernel
theorem dX12_settled_144 : decode cX12_settled 144 = .ok (.iconst 0, 1) := by decide +kernel
theorem dX12_settled_145 : decode cX12_settled 145 = .ok (.ior, 1) := by decide +kernel
theorem dX12_settled_146 : decode cX12_settled 146 = .ok (.istore 7, 2) := by decide +kernel
theorem dX12_settled_148 : decode cX12_settled 148 = .ok (.iinc 8 1, 3) := by decide +kernel
theorem dX12_settled_151 : decode cX12_settled 151 = .ok (.goto (-46), 3) := by decide +kernel
theorem dX12_settled_154 : decode cX12_settled 154 = .ok (.aload_n 0, 1) := by decide +kernel
theorem dX12_settled_155 : decode cX12_settled 155 = .ok (.iload_n 1, 1) := by decide +kernel
theorem dX12_settled_156 : decode cX12_settled 156 = .ok (.iload_n 2, 1) := by decide +kernel
theorem dX12_settled_157 : decode cX12_settled 157 = .ok (.iload_n 3, 1) := by decide +kernel
theorem dX12_settled_158 : decode cX12_settled 158 = .ok (.iload 7, 2) := by decide +kernel
theorem dX12_settled_160 : decode cX12_settled 160 = .ok (.iconst (-1), 1) := by decide +kernel
theorem dX12_settled_161 : decode cX12_settled 161 = .ok (.ixor, 1) := by decide +kernel
theorem dX12_settled_162 : decode cX12_settled 162 = .ok (.iand, 1) := by decide +kernel
theorem dX12_settled_163 : decode cX12_settled 163 = .ok (.invokevirtual 291, 3) := by decide +kernel
theorem dX12_settled_166 : decode cX12_settled 166 = .ok (.ifCond .eq 7, 3) := by decide +kernel
theorem dX12_settled_169 : decode cX12_settled 169 = .ok (.iload 6, 2) := by decide +kernel
theorem dX12_settled_171 : decode cX12_settled 171 = .ok (.istore 5, 2) := by decide +kernel
theorem dX12_settled_173 : decode cX12_settled 173 = .ok (.iinc 6 1, 3) := by decide +kernel
theorem dX12_settled_176 : decode cX12_settled 176 = .ok (.goto (-122), 3) := by decide +kernel
theorem dX12_settled_179 : decode cX12_settled 179 = .ok (.iload 5, 2) := by decide +kernel
theorem dX12_settled_181 : decode cX12_settled 181 = .ok (.ireturn, 1) := by decide +kernel
theorem dX12_tellFeud_0 : decode cX12_tellFeud 0 = .ok (.aload_n 0, 1) := by decide +kernel
theorem dX12_tellFeud_1 : decode cX12_tellFeud 1 = .ok (.iload_n 3, 1) := by decide +kernel
theorem dX12_tellFeud_2 : decode cX12_tellFeud 2 = .ok (.invokevirtual 245, 3) := by decide +kernel
theorem dX12_tellFeud_5 : decode cX12_tellFeud 5 = .ok (.istore 4, 2) := by decide +kernel
theorem dX12_tellFeud_7 : decode cX12_tellFeud 7 = .ok (.iconst 0, 1) := by decide +kernel
theorem dX12_tellFeud_8 : decode cX12_tellFeud 8 = .ok (.istore 5, 2) := by decide +kernel
theorem dX12_tellFeud_10 : decode cX12_tellFeud 10 = .ok (.iload 5, 2) := by decide +kernel
theorem dX12_tellFeud_12 : decode cX12_tellFeud 12 = .ok (.aload_n 0, 1) := by decide +kernel
theorem dX12_tellFeud_13 : decode cX12_tellFeud 13 = .ok (.getfield 23, 3) := by decide +kernel
theorem dX12_tellFeud_16 : decode cX12_tellFeud 16 = .ok (.iconst 0, 1) := by decide +kernel
theorem dX12_tellFeud_17 : decode cX12_tellFeud 17 = .ok (.iaload, 1) := by decide +kernel
theorem dX12_tellFeud_18 : decode cX12_tellFeud 18 = .ok (.if_icmp .gt 177, 3) := by decide +kernel
theorem dX12_tellFeud_21 : decode cX12_tellFeud 21 = .ok (.iconst 0, 1) := by decide +kernel
theorem dX12_tellFeud_22 : decode cX12_tellFeud 22 = .ok (.istore 6, 2) := by decide +kernel
theorem dX12_tellFeud_24 : decode cX12_tellFeud 24 = .ok (.iload 6, 2) := by decide +kernel
theorem dX12_tellFeud_26 : decode cX12_tellFeud 26 = .ok (.aload_n 0, 1) := by decide +kernel
theorem dX12_tellFeud_27 : decode cX12_tellFeud 27 = .ok (.getfield 23, 3) := by decide +kernel
theorem dX12_tellFeud_30 : decode cX12_tellFeud 30 = .ok (.iconst 0, 1) := by decide +kernel
theorem dX12_tellFeud_31 : decode cX12_tellFeud 31 = .ok (.iaload, 1) := by decide +kernel
theorem dX12_tellFeud_32 : decode cX12_tellFeud 32 = .ok (.if_icmp .gt 157, 3) := by decide +kernel
theorem dX12_tellFeud_35 : decode cX12_tellFeud 35 = .ok (.iload 4, 2) := by decide +kernel
theorem dX12_tellFeud_37 : decode cX12_tellFeud 37 = .ok (.iload 5, 2) := by decide +kernel
theorem dX12_tellFeud_39 : decode cX12_tellFeud 39 = .ok (.ifCond .ne 7, 3) := by decide +kernel
theorem dX12_tellFeud_42 : decode cX12_tellFeud 42 = .ok (.iconst 0, 1) := by decide +kernel
theorem dX12_tellFeud_43 : decode cX12_tellFeud 43 = .ok (.goto 9, 3) := by decide +kernel
theorem dX12_tellFeud_46 : decode cX12_tellFeud 46 = .ok (.iconst 1, 1) := by decide +kernel
theorem dX12_tellFeud_47 : decode cX12_tellFeud 47 = .ok (.iload 5, 2) := by decide +kernel
theorem dX12_tellFeud_49 : decode cX12_tellFeud 49 = .ok (.iconst 1, 1) := by decide +kernel
theorem dX12_tellFeud_50 : decode cX12_tellFeud 50 = .ok (.isub, 1) := by decide +kernel
theorem dX12_tellFeud_51 : decode cX12_tellFeud 51 = .ok (.ishl, 1) := by decide +kernel
theorem dX12_tellFeud_52 : decode cX12_tellFeud 52 = .ok (.ior, 1) := by decide +kernel
theorem dX12_tellFeud_53 : decode cX12_tellFeud 53 = .ok (.iload 6, 2) := by decide +kernel
theorem dX12_tellFeud_55 : decode cX12_tellFeud 55 = .ok (.ifCond .ne 7, 3) := by decide +kernel
theorem dX12_tellFeud_58 : decode cX12_tellFeud 58 = .ok (.iconst 0, 1) := by decide +kernel
theorem dX12_tellFeud_59 : decode cX12_tellFeud 59 = .ok (.goto 9, 3) := by decide +kernel
theorem dX12_tellFeud_62 : decode cX12_tellFeud 62 = .ok (.iconst 1, 1) := by decide +kernel
theorem dX12_tellFeud_63 : decode cX12_tellFeud 63 = .ok (.iload 6, 2) := by decide +kernel
theorem dX12_tellFeud_65 : decode cX12_tellFeud 65 = .ok (.iconst 1, 1) := by decide +kernel
theorem dX12_tellFeud_66 : decode cX12_tellFeud 66 = .ok (.isub, 1) := by decide +kernel
theorem dX12_tellFeud_67 : decode cX12_tellFeud 67 = .ok (.ishl, 1) := by decide +kernel
theorem dX12_tellFeud_68 : decode cX12_tellFeud 68 = .ok (.ior, 1) := by decide +kernel
theorem dX12_tellFeud_69 : decode cX12_tellFeud 69 = .ok (.istore 7, 2) := by decide +kernel
theorem dX12_tellFeud_71 : decode cX12_tellFeud 71 = .ok (.aload_n 0, 1) := by decide +kernel
theorem dX12_tellFeud_72 : decode cX12_tellFeud 72 = .ok (.iload_n 1, 1) := by decide +kernel
theorem dX12_tellFeud_73 : decode cX12_tellFeud 73 = .ok (.iload_n 3, 1) := by decide +kernel
theorem dX12_tellFeud_74 : decode cX12_tellFeud 74 = .ok (.aload_n 0, 1) := by decide +kernel
theorem dX12_tellFeud_75 : decode cX12_tellFeud 75 = .ok (.iload_n 1, 1) := by decide +kernel
theorem dX12_tellFeud_76 : decode cX12_tellFeud 76 = .ok (.iload_n 3, 1) := by decide +kernel
theorem dX12_tellFeud_77 : decode cX12_tellFeud 77 = .ok (.invokevirtual 288, 3) := by decide +kernel
theorem dX12_tellFeud_80 : decode cX12_tellFeud 80 = .ok (.iload 7, 2) := by decide +kernel
theorem dX12_tellFeud_82 : decode cX12_tellFeud 82 = .ok (.iconst (-1), 1) := by decide +kernel
theorem dX12_tellFeud_83 : decode cX12_tellFeud 83 = .ok (.ixor, 1) := by decide +kernel
theorem dX12_tellFeud_84 : decode cX12_tellFeud 84 = .ok (.iand, 1) := by decide +kernel
theorem dX12_tellFeud_85 : decode cX12_tellFeud 85 = .ok (.invokevirtual 291, 3) := by decide +kernel
theorem dX12_tellFeud_88 : decode cX12_tellFeud 88 = .ok (.istore 8, 2) := by decide +kernel
theorem dX12_tellFeud_90 : decode cX12_tellFeud 90 = .ok (.aload_n 0, 1) := by decide +kernel
theorem dX12_tellFeud_91 : decode cX12_tellFeud 91 = .ok (.iload_n 2, 1) := by decide +kernel
theorem dX12_tellFeud_92 : decode cX12_tellFeud 92 = .ok (.iload_n 3, 1) := by decide +kernel
theorem dX12_tellFeud_93 : decode cX12_tellFeud 93 = .ok (.aload_n 0, 1) := by decide +kernel
theorem dX12_tellFeud_94 : decode cX12_tellFeud 94 = .ok (.iload_n 2, 1) := by decide +kernel
theorem dX12_tellFeud_95 : decode cX12_tellFeud 95 = .ok (.iload_n 3, 1) := by decide +kernel
theorem dX12_tellFeud_96 : decode cX12_tellFeud 96 = .ok (.invokevirtual 288, 3) := by decide +kernel
theorem dX12_tellFeud_99 : decode cX12_tellFeud 99 = .ok (.iload 7, 2) := by decide +kernel
theorem dX12_tellFeud_101 : decode cX12_tellFeud 101 = .ok (.iconst (-1), 1) := by decide +kernel
theorem dX12_tellFeud_102 : decode cX12_tellFeud 102 = .ok (.ixor, 1) := by decide +kernel
theorem dX12_tellFeud_103 : decode cX12_tellFeud 103 = .ok (.iand, 1) := by decide +kernel
theorem dX12_tellFeud_104 : decode cX12_tellFeud 104 = .ok (.invokevirtual 291, 3) := by decide +kernel
theorem dX12_tellFeud_107 : decode cX12_tellFeud 107 = .ok (.istore 9, 2) := by decide +kernel
theorem dX12_tellFeud_109 : decode cX12_tellFeud 109 = .ok (.aload_n 0, 1) := by decide +kernel
theorem dX12_tellFeud_110 : decode cX12_tellFeud 110 = .ok (.getfield 91, 3) := by decide +kernel
theorem dX12_tellFeud_113 : decode cX12_tellFeud 113 = .ok (.iconst 2, 1) := by decide +kernel
theorem dX12_tellFeud_114 : decode cX12_tellFeud 114 = .ok (.bipush 11, 2) := by decide +kernel
theorem dX12_tellFeud_116 : decode cX12_tellFeud 116 = .ok (.iload 5, 2) := by decide +kernel
theorem dX12_tellFeud_118 : decode cX12_tellFeud 118 = .ok (.imul, 1) := by decide +kernel
theorem dX12_tellFeud_119 : decode cX12_tellFeud 119 = .ok (.iload 6, 2) := by decide +kernel
theorem dX12_tellFeud_121 : decode cX12_tellFeud 121 = .ok (.iadd, 1) := by decide +kernel
theorem dX12_tellFeud_122 : decode cX12_tellFeud 122 = .ok (.imul, 1) := by decide +kernel
theorem dX12_tellFeud_123 : decode cX12_tellFeud 123 = .ok (.iload 8, 2) := by decide +kernel
theorem dX12_tellFeud_125 : decode cX12_tellFeud 125 = .ok (.ifCond .eq 7, 3) := by decide +kernel
theorem dX12_tellFeud_128 : decode cX12_tellFeud 128 = .ok (.iconst 2, 1) := by decide +kernel
theorem dX12_tellFeud_129 : decode cX12_tellFeud 129 = .ok (.goto 4, 3) := by decide +kernel
theorem dX12_tellFeud_132 : decode cX12_tellFeud 132 = .ok (.iconst 0, 1) := by decide +kernel
theorem dX12_tellFeud_133 : decode cX12_tellFeud 133 = .ok (.iload 9, 2) := by decide +kernel
theorem dX12_tellFeud_135 : decode cX12_tellFeud 135 = .ok (.ifCond .eq 7, 3) := by decide +kernel
theorem dX12_tellFeud_138 : decode cX12_tellFeud 138 = .ok (.iconst 0, 1) := by decide +kernel
theorem dX12_tellFeud_139 : decode cX12_tellFeud 139 = .ok (.goto 4, 3) := by decide +kernel
theorem dX12_tellFeud_142 : decode cX12_tellFeud 142 = .ok (.iconst 1, 1) := by decide +kernel
theorem dX12_tellFeud_143 : decode cX12_tellFeud 143 = .ok (.iadd, 1) := by decide +kernel
theorem dX12_tellFeud_144 : decode cX12_tellFeud 144 = .ok (.iastore, 1) := by decide +kernel
theorem dX12_tellFeud_145 : decode cX12_tellFeud 145 = .ok (.aload_n 0, 1) := by decide +kernel
theorem dX12_tellFeud_146 : decode cX12_tellFeud 146 = .ok (.getfield 91, 3) := by decide +kernel
theorem dX12_tellFeud_149 : decode cX12_tellFeud 149 = .ok (.iconst 2, 1) := by decide +kernel
theorem dX12_tellFeud_150 : decode cX12_tellFeud 150 = .ok (.bipush 11, 2) := by decide +kernel
theorem dX12_tellFeud_152 : decode cX12_tellFeud 152 = .ok (.iload 5, 2) := by decide +kernel
theorem dX12_tellFeud_154 : decode cX12_tellFeud 154 = .ok (.imul, 1) := by decide +kernel
theorem dX12_tellFeud_155 : decode cX12_tellFeud 155 = .ok (.iload 6, 2) := by decide +kernel
theorem dX12_tellFeud_157 : decode cX12_tellFeud 157 = .ok (.iadd, 1) := by decide +kernel
theorem dX12_tellFeud_158 : decode cX12_tellFeud 158 = .ok (.imul, 1) := by decide +kernel
theorem dX12_tellFeud_159 : decode cX12_tellFeud 159 = .ok (.iconst 1, 1) := by decide +kernel
theorem dX12_tellFeud_160 : decode cX12_tellFeud 160 = .ok (.iadd, 1) := by decide +kernel
theorem dX12_tellFeud_161 : decode cX12_tellFeud 161 = .ok (.iload 9, 2) := by decide +kernel
theorem dX12_tellFeud_163 : decode cX12_tellFeud 163 = .ok (.ifCond .eq 7, 3) := by decide +kernel
theorem dX12_tellFeud_166 : decode cX12_tellFeud 166 = .ok (.iconst 2, 1) := by decide +kernel
theorem dX12_tellFeud_167 : decode cX12_tellFeud 167 = .ok (.goto 4, 3) := by decide +kernel
theorem dX12_tellFeud_170 : decode cX12_tellFeud 170 = .ok (.iconst 0, 1) := by decide +kernel
theorem dX12_tellFeud_171 : decode cX12_tellFeud 171 = .ok (.iload 8, 2) := by decide +kernel
theorem dX12_tellFeud_173 : decode cX12_tellFeud 173 = .ok (.ifCond .eq 7, 3) := by decide +kernel
theorem dX12_tellFeud_176 : decode cX12_tellFeud 176 = .ok (.iconst 0, 1) := by decide +kernel
theorem dX12_tellFeud_177 : decode cX12_tellFeud 177 = .ok (.goto 4, 3) := by decide +kernel
theorem dX12_tellFeud_180 : decode cX12_tellFeud 180 = .ok (.iconst 1, 1) := by decide +kernel
theorem dX12_tellFeud_181 : decode cX12_tellFeud 181 = .ok (.iadd, 1) := by decide +kernel
theorem dX12_tellFeud_182 : decode cX12_tellFeud 182 = .ok (.iastore, 1) := by decide +kernel
theorem dX12_tellFeud_183 : decode cX12_tellFeud 183 = .ok (.iinc 6 1, 3) := by decide +kernel
theorem dX12_tellFeud_186 : decode cX12_tellFeud 186 = .ok (.goto (-162), 3) := by decide +kernel
theorem dX12_tellFeud_189 : decode cX12_tellFeud 189 = .ok (.iinc 5 1, 3) := by decide +kernel
theorem dX12_tellFeud_192 : decode cX12_tellFeud 192 = .ok (.goto (-182), 3) := by decide +kernel
theorem dX12_tellFeud_195 : decode cX12_tellFeud 195 = .ok (.return_, 1) := by decide +kernel
theorem dX12_mayTake_0 : decode cX12_mayTake 0 = .ok (.iload_n 1, 1) := by decide +kernel
theorem dX12_mayTake_1 : decode cX12_mayTake 1 = .ok (.ifCond .eq 13, 3) := by decide +kernel
theorem dX12_mayTake_4 : decode cX12_mayTake 4 = .ok (.iload_n 0, 1) := by decide +kernel
theorem dX12_mayTake_5 : decode cX12_mayTake 5 = .ok (.iload_n 1, 1) := by decide +kernel
theorem dX12_mayTake_6 : decode cX12_mayTake 6 = .ok (.iconst 1, 1) := by decide +kernel
theorem dX12_mayTake_7 : decode cX12_mayTake 7 = .ok (.isub, 1) := by decide +kernel
theorem dX12_mayTake_8 : decode cX12_mayTake 8 = .ok (.ishr, 1) := by decide +kernel
theorem dX12_mayTake_9 : decode cX12_mayTake 9 = .ok (.iconst 1, 1) := by decide +kernel
theorem dX12_mayTake_10 : decode cX12_mayTake 10 = .ok (.iand, 1) := by decide +kernel
theorem dX12_mayTake_11 : decode cX12_mayTake 11 = .ok (.ifCond .ne 7, 3) := by decide +kernel
theorem dX12_mayTake_14 : decode cX12_mayTake 14 = .ok (.iconst 1, 1) := by decide +kernel
theorem dX12_mayTake_15 : decode cX12_mayTake 15 = .ok (.goto 4, 3) := by decide +kernel
theorem dX12_mayTake_18 : decode cX12_mayTake 18 = .ok (.iconst 0, 1) := by decide +kernel
theorem dX12_mayTake_19 : decode cX12_mayTake 19 = .ok (.ireturn, 1) := by decide +kernel
theorem dX12_restsAt_0 : decode cX12_restsAt 0 = .ok (.iconst 0, 1) := by decide +kernel
theorem dX12_restsAt_1 : decode cX12_restsAt 1 = .ok (.istore 4, 2) := by decide +kernel
theorem dX12_restsAt_3 : decode cX12_restsAt 3 = .ok (.iload 4, 2) := by decide +kernel
theorem dX12_restsAt_5 : decode cX12_restsAt 5 = .ok (.aload_n 0, 1) := by decide +kernel
theorem dX12_restsAt_6 : decode cX12_restsAt 6 = .ok (.getfield 23, 3) := by decide +kernel
theorem dX12_restsAt_9 : decode cX12_restsAt 9 = .ok (.iconst 0, 1) := by decide +kernel
theorem dX12_restsAt_10 : decode cX12_restsAt 10 = .ok (.iaload, 1) := by decide +kernel
theorem dX12_restsAt_11 : decode cX12_restsAt 11 = .ok (.if_icmp .gt 87, 3) := by decide +kernel
theorem dX12_restsAt_14 : decode cX12_restsAt 14 = .ok (.iload_n 1, 1) := by decide +kernel
theorem dX12_restsAt_15 : decode cX12_restsAt 15 = .ok (.iload 4, 2) := by decide +kernel
theorem dX12_restsAt_17 : decode cX12_restsAt 17 = .ok (.invokestatic 345, 3) := by decide +kernel
theorem dX12_restsAt_20 : decode cX12_restsAt 20 = .ok (.ifCond .ne 6, 3) := by decide +kernel
theorem dX12_restsAt_23 : decode cX12_restsAt 23 = .ok (.goto 69, 3) := by decide +kernel
theorem dX12_restsAt_26 : decode cX12_restsAt 26 = .ok (.aload_n 0, 1) := by decide +kernel
theorem dX12_restsAt_27 : decode cX12_restsAt 27 = .ok (.getfield 91, 3) := by decide +kernel
theorem dX12_restsAt_30 : decode cX12_restsAt 30 = .ok (.iconst 2, 1) := by decide +kernel
theorem dX12_restsAt_31 : decode cX12_restsAt 31 = .ok (.bipush 11, 2) := by decide +kernel
theorem dX12_restsAt_33 : decode cX12_restsAt 33 = .ok (.iload 4, 2) := by decide +kernel
theorem dX12_restsAt_35 : decode cX12_restsAt 35 = .ok (.imul, 1) := by decide +kernel
theorem dX12_restsAt_36 : decode cX12_restsAt 36 = .ok (.iload_n 3, 1) := by decide +kernel
theorem dX12_restsAt_37 : decode cX12_restsAt 37 = .ok (.iadd, 1) := by decide +kernel
theorem dX12_restsAt_38 : decode cX12_restsAt 38 = .ok (.imul, 1) := by decide +kernel
theorem dX12_restsAt_39 : decode cX12_restsAt 39 = .ok (.iaload, 1) := by decide +kernel
theorem dX12_restsAt_40 : decode cX12_restsAt 40 = .ok (.aload_n 0, 1) := by decide +kernel
theorem dX12_restsAt_41 : decode cX12_restsAt 41 = .ok (.getfield 91, 3) := by decide +kernel
theorem dX12_restsAt_44 : decode cX12_restsAt 44 = .ok (.iconst 2, 1) := by decide +kernel
theorem dX12_restsAt_45 : decode cX12_restsAt 45 = .ok (.bipush 11, 2) := by decide +kernel
theorem dX12_restsAt_47 : decode cX12_restsAt 47 = .ok (.iload_n 2, 1) := by decide +kernel
theorem dX12_restsAt_48 : decode cX12_restsAt 48 = .ok (.imul, 1) := by decide +kernel
theorem dX12_restsAt_49 : decode cX12_restsAt 49 = .ok (.iload_n 3, 1) := by decide +kernel
theorem dX12_restsAt_50 : decode cX12_restsAt 50 = .ok (.iadd, 1) := by decide +kernel
theorem dX12_restsAt_51 : decode cX12_restsAt 51 = .ok (.imul, 1) := by decide +kernel
theorem dX12_restsAt_52 : decode cX12_restsAt 52 = .ok (.iaload, 1) := by decide +kernel
theorem dX12_restsAt_53 : decode cX12_restsAt 53 = .ok (.if_icmp .gt 37, 3) := by decide +kernel
theorem dX12_restsAt_56 : decode cX12_restsAt 56 = .ok (.aload_n 0, 1) := by decide +kernel
theorem dX12_restsAt_57 : decode cX12_restsAt 57 = .ok (.getfield 91, 3) := by decide +kernel
theorem dX12_restsAt_60 : decode cX12_restsAt 60 = .ok (.iconst 2, 1) := by decide +kernel
theorem dX12_restsAt_61 : decode cX12_restsAt 61 = .ok (.bipush 11, 2) := by decide +kernel
theorem dX12_restsAt_63 : decode cX12_restsAt 63 = .ok (.iload_n 2, 1) := by decide +kernel
theorem dX12_restsAt_64 : decode cX12_restsAt 64 = .ok (.imul, 1) := by decide +kernel
theorem dX12_restsAt_65 : decode cX12_restsAt 65 = .ok (.iload 4, 2) := by decide +kernel
theorem dX12_restsAt_67 : decode cX12_restsAt 67 = .ok (.iadd, 1) := by decide +kernel
theorem dX12_restsAt_68 : decode cX12_restsAt 68 = .ok (.imul, 1) := by decide +kernel
theorem dX12_restsAt_69 : decode cX12_restsAt 69 = .ok (.iconst 1, 1) := by decide +kernel
theorem dX12_restsAt_70 : decode cX12_restsAt 70 = .ok (.iadd, 1) := by decide +kernel
theorem dX12_restsAt_71 : decode cX12_restsAt 71 = .ok (.iaload, 1) := by decide +kernel
theorem dX12_restsAt_72 : decode cX12_restsAt 72 = .ok (.aload_n 0, 1) := by decide +kernel
theorem dX12_restsAt_73 : decode cX12_restsAt 73 = .ok (.getfield 91, 3) := by decide +kernel
theorem dX12_restsAt_76 : decode cX12_restsAt 76 = .ok (.iconst 2, 1) := by decide +kernel
theorem dX12_restsAt_77 : decode cX12_restsAt 77 = .ok (.bipush 11, 2) := by decide +kernel
theorem dX12_restsAt_79 : decode cX12_restsAt 79 = .ok (.iload_n 2, 1) := by decide +kernel
theorem dX12_restsAt_80 : decode cX12_restsAt 80 = .ok (.imul, 1) := by decide +kernel
theorem dX12_restsAt_81 : decode cX12_restsAt 81 = .ok (.iload_n 3, 1) := by decide +kernel
theorem dX12_restsAt_82 : decode cX12_restsAt 82 = .ok (.iadd, 1) := by decide +kernel
theorem dX12_restsAt_83 : decode cX12_restsAt 83 = .ok (.imul, 1) := by decide +kernel
theorem dX12_restsAt_84 : decode cX12_restsAt 84 = .ok (.iconst 1, 1) := by decide +kernel
theorem dX12_restsAt_85 : decode cX12_restsAt 85 = .ok (.iadd, 1) := by decide +kernel
theorem dX12_restsAt_86 : decode cX12_restsAt 86 = .ok (.iaload, 1) := by decide +kernel
theorem dX12_restsAt_87 : decode cX12_restsAt 87 = .ok (.if_icmp .le 5, 3) := by decide +kernel
theorem dX12_restsAt_90 : decode cX12_restsAt 90 = .ok (.iconst 0, 1) := by decide +kernel
theorem dX12_restsAt_91 : decode cX12_restsAt 91 = .ok (.ireturn, 1) := by decide +kernel
theorem dX12_restsAt_92 : decode cX12_restsAt 92 = .ok (.iinc 4 1, 3) := by decide +kernel
theorem dX12_restsAt_95 : decode cX12_restsAt 95 = .ok (.goto (-92), 3) := by decide +kernel
theorem dX12_restsAt_98 : decode cX12_restsAt 98 = .ok (.iconst 1, 1) := by decide +kernel
theorem dX12_restsAt_99 : decode cX12_restsAt 99 = .ok (.ireturn, 1) := by decide +kernel
theorem dX12_feud_0 : decode cX12_feud 0 = .ok (.aload_n 0, 1) := by decide +kernel
theorem dX12_feud_1 : decode cX12_feud 1 = .ok (.iconst 0, 1) := by decide +kernel
theorem dX12_feud_2 : decode cX12_feud 2 = .ok (.putfield 122, 3) := by decide +kernel
theorem dX12_feud_5 : decode cX12_feud 5 = .ok (.aload_n 0, 1) := by decide +kernel
theorem dX12_feud_6 : decode cX12_feud 6 = .ok (.iload_n 1, 1) := by decide +kernel
theorem dX12_feud_7 : decode cX12_feud 7 = .ok (.invokevirtual 263, 3) := by decide +kernel
theorem dX12_feud_10 : decode cX12_feud 10 = .ok (.ifCond .eq 29, 3) := by decide +kernel
theorem dX12_feud_13 : decode cX12_feud 13 = .ok (.aload_n 0, 1) := by decide +kernel
theorem dX12_feud_14 : decode cX12_feud 14 = .ok (.iload_n 2, 1) := by decide +kernel
theorem dX12_feud_15 : decode cX12_feud 15 = .ok (.invokevirtual 263, 3) := by decide +kernel
theorem dX12_feud_18 : decode cX12_feud 18 = .ok (.ifCond .eq 21, 3) := by decide +kernel
theorem dX12_feud_21 : decode cX12_feud 21 = .ok (.iload_n 3, 1) := by decide +kernel
theorem dX12_feud_22 : decode cX12_feud 22 = .ok (.invokestatic 270, 3) := by decide +kernel
theorem dX12_feud_25 : decode cX12_feud 25 = .ok (.ifCond .eq 14, 3) := by decide +kernel
theorem dX12_feud_28 : decode cX12_feud 28 = .ok (.iload 4, 2) := by decide +kernel
theorem dX12_feud_30 : decode cX12_feud 30 = .ok (.ifCond .lt 9, 3) := by decide +kernel
theorem dX12_feud_33 : decode cX12_feud 33 = .ok (.iload 4, 2) := by decide +kernel
theorem dX12_feud_35 : decode cX12_feud 35 = .ok (.iconst 1, 1) := by decide +kernel
theorem dX12_feud_36 : decode cX12_feud 36 = .ok (.if_icmp .le 9, 3) := by decide +kernel
theorem dX12_feud_39 : decode cX12_feud 39 = .ok (.aload_n 0, 1) := by decide +kernel
theorem dX12_feud_40 : decode cX12_feud 40 = .ok (.iconst 1, 1) := by decide +kernel
theorem dX12_feud_41 : decode cX12_feud 41 = .ok (.invokevirtual 219, 3) := by decide +kernel
theorem dX12_feud_44 : decode cX12_feud 44 = .ok (.ireturn, 1) := by decide +kernel
theorem dX12_feud_45 : decode cX12_feud 45 = .ok (.iload_n 1, 1) := by decide +kernel
theorem dX12_feud_46 : decode cX12_feud 46 = .ok (.iload_n 2, 1) := by decide +kernel
theorem dX12_feud_47 : decode cX12_feud 47 = .ok (.if_icmp .ne 9, 3) := by decide +kernel
theorem dX12_feud_50 : decode cX12_feud 50 = .ok (.aload_n 0, 1) := by decide +kernel
theorem dX12_feud_51 : decode cX12_feud 51 = .ok (.iconst 2, 1) := by decide +kernel
theorem dX12_feud_52 : decode cX12_feud 52 = .ok (.invokevirtual 219, 3) := by decide +kernel
theorem dX12_feud_55 : decode cX12_feud 55 = .ok (.ireturn, 1) := by decide +kernel
theorem dX12_feud_56 : decode cX12_feud 56 = .ok (.aload_n 0, 1) := by decide +kernel
theorem dX12_feud_57 : decode cX12_feud 57 = .ok (.aload_n 0, 1) := by decide +kernel
theorem dX12_feud_58 : decode cX12_feud 58 = .ok (.getfield 70, 3) := by decide +kernel
theorem dX12_feud_61 : decode cX12_feud 61 = .ok (.invokevirtual 257, 3) := by decide +kernel
theorem dX12_feud_64 : decode cX12_feud 64 = .ok (.aload_n 0, 1) := by decide +kernel
theorem dX12_feud_65 : decode cX12_feud 65 = .ok (.iload_n 1, 1) := by decide +kernel
theorem dX12_feud_66 : decode cX12_feud 66 = .ok (.iload_n 2, 1) := by decide +kernel
theorem dX12_feud_67 : decode cX12_feud 67 = .ok (.iload_n 3, 1) := by decide +kernel
theorem dX12_feud_68 : decode cX12_feud 68 = .ok (.invokevirtual 348, 3) := by decide +kernel
theorem dX12_feud_71 : decode cX12_feud 71 = .ok (.aload_n 0, 1) := by decide +kernel
theorem dX12_feud_72 : decode cX12_feud 72 = .ok (.iload_n 3, 1) := by decide +kernel
theorem dX12_feud_73 : decode cX12_feud 73 = .ok (.invokevirtual 245, 3) := by decide +kernel
theorem dX12_feud_76 : decode cX12_feud 76 = .ok (.istore 5, 2) := by decide +kernel
theorem dX12_feud_78 : decode cX12_feud 78 = .ok (.iconst 0, 1) := by decide +kernel
theorem dX12_feud_79 : decode cX12_feud 79 = .ok (.istore 6, 2) := by decide +kernel
theorem dX12_feud_81 : decode cX12_feud 81 = .ok (.iconst (-1), 1) := by decide +kernel
theorem dX12_feud_82 : decode cX12_feud 82 = .ok (.istore 7, 2) := by decide +kernel
theorem dX12_feud_84 : decode cX12_feud 84 = .ok (.iconst 0, 1) := by decide +kernel
theorem dX12_feud_85 : decode cX12_feud 85 = .ok (.istore 8, 2) := by decide +kernel
theorem dX12_feud_87 : decode cX12_feud 87 = .ok (.iload 8, 2) := by decide +kernel
theorem dX12_feud_89 : decode cX12_feud 89 = .ok (.aload_n 0, 1) := by decide +kernel
theorem dX12_feud_90 : decode cX12_feud 90 = .ok (.getfield 23, 3) := by decide +kernel
theorem dX12_feud_93 : decode cX12_feud 93 = .ok (.iconst 0, 1) := by decide +kernel
theorem dX12_feud_94 : decode cX12_feud 94 = .ok (.iaload, 1) := by decide +kernel
theorem dX12_feud_95 : decode cX12_feud 95 = .ok (.if_icmp .gt 89, 3) := by decide +kernel
theorem dX12_feud_98 : decode cX12_feud 98 = .ok (.iconst 0, 1) := by decide +kernel
theorem dX12_feud_99 : decode cX12_feud 99 = .ok (.istore 9, 2) := by decide +kernel
theorem dX12_feud_101 : decode cX12_feud 101 = .ok (.iload 9, 2) := by decide +kernel
theorem dX12_feud_103 : decode cX12_feud 103 = .ok (.aload_n 0, 1) := by decide +kernel
theorem dX12_feud_104 : decode cX12_feud 104 = .ok (.getfield 23, 3) := by decide +kernel
theorem dX12_feud_107 : decode cX12_feud 107 = .ok (.iconst 0, 1) := by decide +kernel
theorem dX12_feud_108 : decode cX12_feud 108 = .ok (.iaload, 1) := by decide +kernel
theorem dX12_feud_109 : decode cX12_feud 109 = .ok (.if_icmp .gt 69, 3) := by decide +kernel
theorem dX12_feud_112 : decode cX12_feud 112 = .ok (.iload 5, 2) := by decide +kernel
theorem dX12_feud_114 : decode cX12_feud 114 = .ok (.iload 8, 2) := by decide +kernel
theorem dX12_feud_116 : decode cX12_feud 116 = .ok (.invokestatic 345, 3) := by decide +kernel
theorem dX12_feud_119 : decode cX12_feud 119 = .ok (.ifCond .eq 53, 3) := by decide +kernel
theorem dX12_feud_122 : decode cX12_feud 122 = .ok (.iload 5, 2) := by decide +kernel
theorem dX12_feud_124 : decode cX12_feud 124 = .ok (.iload 9, 2) := by decide +kernel
theorem dX12_feud_126 : decode cX12_feud 126 = .ok (.invokestatic 345, 3) := by decide +kernel
theorem dX12_feud_129 : decode cX12_feud 129 = .ok (.ifCond .eq 43, 3) := by decide +kernel
theorem dX12_feud_132 : decode cX12_feud 132 = .ok (.aload_n 0, 1) := by decide +kernel
theorem dX12_feud_133 : decode cX12_feud 133 = .ok (.iload 5, 2) := by decide +kernel
theorem dX12_feud_135 : decode cX12_feud 135 = .ok (.iload 8, 2) := by decide +kernel
theorem dX12_feud_137 : decode cX12_feud 137 = .ok (.iload 9, 2) := by decide +kernel
theorem dX12_feud_139 : decode cX12_feud 139 = .ok (.invokevirtual 352, 3) := by decide +kernel
theorem dX12_feud_142 : decode cX12_feud 142 = .ok (.ifCond .ne 6, 3) := by decide +kernel
theorem dX12_feud_145 : decode cX12_feud 145 = .ok (.goto 27, 3) := by decide +kernel
theorem dX12_feud_148 : decode cX12_feud 148 = .ok (.iinc 6 1, 3) := by decide +kernel
theorem dX12_feud_151 : decode cX12_feud 151 = .ok (.iload 7, 2) := by decide +kernel
theorem dX12_feud_153 : decode cX12_feud 153 = .ok (.iconst (-1), 1) := by decide +kernel
theorem dX12_feud_154 : decode cX12_feud 154 = .ok (.if_icmp .ne 14, 3) := by decide +kernel
theorem dX12_feud_157 : decode cX12_feud 157 = .ok (.bipush 16, 2) := by decide +kernel
theorem dX12_feud_159 : decode cX12_feud 159 = .ok (.iload 8, 2) := by decide +kernel
theorem dX12_feud_161 : decode cX12_feud 161 = .ok (.imul, 1) := by decide +kernel
theorem dX12_feud_162 : decode cX12_feud 162 = .ok (.iload 9, 2) := by decide +kernel
theorem dX12_feud_164 : decode cX12_feud 164 = .ok (.iadd, 1) := by decide +kernel
theorem dX12_feud_165 : decode cX12_feud 165 = .ok (.goto 5, 3) := by decide +kernel
theorem dX12_feud_168 : decode cX12_feud 168 = .ok (.iload 7, 2) := by decide +kernel
theorem dX12_feud_170 : decode cX12_feud 170 = .ok (.istore 7, 2) := by decide +kernel
theorem dX12_feud_172 : decode cX12_feud 172 = .ok (.iinc 9 1, 3) := by decide +kernel
theorem dX12_feud_175 : decode cX12_feud 175 = .ok (.goto (-74), 3) := by decide +kernel
theorem dX12_feud_178 : decode cX12_feud 178 = .ok (.iinc 8 1, 3) := by decide +kernel
theorem dX12_feud_181 : decode cX12_feud 181 = .ok (.goto (-94), 3) := by decide +kernel
theorem dX12_feud_184 : decode cX12_feud 184 = .ok (.iload 4, 2) := by decide +kernel
theorem dX12_feud_186 : decode cX12_feud 186 = .ok (.ifCond .ne 8, 3) := by decide +kernel
theorem dX12_feud_189 : decode cX12_feud 189 = .ok (.iload 6, 2) := by decide +kernel
theorem dX12_feud_191 : decode cX12_feud 191 = .ok (.goto 5, 3) := by decide +kernel
theorem dX12_feud_194 : decode cX12_feud 194 = .ok (.iload 7, 2) := by decide +kernel
theorem dX12_feud_196 : decode cX12_feud 196 = .ok (.ireturn, 1) := by decide +kernel
theorem dX12_see_0 : decode cX12_see 0 = .ok (.aload_n 0, 1) := by decide +kernel
theorem dX12_see_1 : decode cX12_see 1 = .ok (.iconst 0, 1) := by decide +kernel
theorem dX12_see_2 : decode cX12_see 2 = .ok (.putfield 122, 3) := by decide +kernel
theorem dX12_see_5 : decode cX12_see 5 = .ok (.aload_n 0, 1) := by decide +kernel
theorem dX12_see_6 : decode cX12_see 6 = .ok (.iload_n 1, 1) := by decide +kernel
theorem dX12_see_7 : decode cX12_see 7 = .ok (.invokevirtual 263, 3) := by decide +kernel
theorem dX12_see_10 : decode cX12_see 10 = .ok (.ifCond .eq 10, 3) := by decide +kernel
theorem dX12_see_13 : decode cX12_see 13 = .ok (.iload_n 2, 1) := by decide +kernel
theorem dX12_see_14 : decode cX12_see 14 = .ok (.invokestatic 270, 3) := by decide +kernel
theorem dX12_see_17 : decode cX12_see 17 = .ok (.ifCond .ne 9, 3) := by decide +kernel
theorem dX12_see_20 : decode cX12_see 20 = .ok (.aload_n 0, 1) := by decide +kernel
theorem dX12_see_21 : decode cX12_see 21 = .ok (.iconst 1, 1) := by decide +kernel
theorem dX12_see_22 : decode cX12_see 22 = .ok (.invokevirtual 219, 3) := by decide +kernel
theorem dX12_see_25 : decode cX12_see 25 = .ok (.ireturn, 1) := by decide +kernel
theorem dX12_see_26 : decode cX12_see 26 = .ok (.aload_n 0, 1) := by decide +kernel
theorem dX12_see_27 : decode cX12_see 27 = .ok (.getfield 232, 3) := by decide +kernel
theorem dX12_see_30 : decode cX12_see 30 = .ok (.bipush 10, 2) := by decide +kernel
theorem dX12_see_32 : decode cX12_see 32 = .ok (.if_icmp .eq 9, 3) := by decide +kernel
theorem dX12_see_35 : decode cX12_see 35 = .ok (.iload_n 2, 1) := by decide +kernel
theorem dX12_see_36 : decode cX12_see 36 = .ok (.bipush 63, 2) := by decide +kernel
theorem dX12_see_38 : decode cX12_see 38 = .ok (.if_icmp .le 15, 3) := by decide +kernel
theorem dX12_see_41 : decode cX12_see 41 = .ok (.aload_n 0, 1) := by decide +kernel
theorem dX12_see_42 : decode cX12_see 42 = .ok (.getfield 60, 3) := by decide +kernel
theorem dX12_see_45 : decode cX12_see 45 = .ok (.iconst 2, 1) := by decide +kernel
theorem dX12_see_46 : decode cX12_see 46 = .ok (.dup2, 1) := by decide +kernel
theorem dX12_see_47 : decode cX12_see 47 = .ok (.iaload, 1) := by decide +kernel
theorem dX12_see_48 : decode cX12_see 48 = .ok (.iconst 1, 1) := by decide +kernel
theorem dX12_see_49 : decode cX12_see 49 = .ok (.iadd, 1) := by decide +kernel
theorem dX12_see_50 : decode cX12_see 50 = .ok (.iastore, 1) := by decide +kernel
theorem dX12_see_51 : decode cX12_see 51 = .ok (.iconst (-1), 1) := by decide +kernel
theorem dX12_see_52 : decode cX12_see 52 = .ok (.ireturn, 1) := by decide +kernel
theorem dX12_see_53 : decode cX12_see 53 = .ok (.aload_n 0, 1) := by decide +kernel
theorem dX12_see_54 : decode cX12_see 54 = .ok (.getfield 94, 3) := by decide +kernel
theorem dX12_see_57 : decode cX12_see 57 = .ok (.aload_n 0, 1) := by decide +kernel
theorem dX12_see_58 : decode cX12_see 58 = .ok (.getfield 232, 3) := by decide +kernel
theorem dX12_see_61 : decode cX12_see 61 = .ok (.iload_n 1, 1) := by decide +kernel
theorem dX12_see_62 : decode cX12_see 62 = .ok (.iastore, 1) := by decide +kernel
theorem dX12_see_63 : decode cX12_see 63 = .ok (.aload_n 0, 1) := by decide +kernel
theorem dX12_see_64 : decode cX12_see 64 = .ok (.getfield 97, 3) := by decide +kernel
theorem dX12_see_67 : decode cX12_see 67 = .ok (.aload_n 0, 1) := by decide +kernel
theorem dX12_see_68 : decode cX12_see 68 = .ok (.getfield 232, 3) := by decide +kernel
theorem dX12_see_71 : decode cX12_see 71 = .ok (.iload_n 2, 1) := by decide +kernel
theorem dX12_see_72 : decode cX12_see 72 = .ok (.iastore, 1) := by decide +kernel
theorem dX12_see_73 : decode cX12_see 73 = .ok (.aload_n 0, 1) := by decide +kernel
theorem dX12_see_74 : decode cX12_see 74 = .ok (.getfield 100, 3) := by decide +kernel
theorem dX12_see_77 : decode cX12_see 77 = .ok (.aload_n 0, 1) := by decide +kernel
theorem dX12_see_78 : decode cX12_see 78 = .ok (.getfield 232, 3) := by decide +kernel
theorem dX12_see_81 : decode cX12_see 81 = .ok (.iload_n 3, 1) := by decide +kernel
theorem dX12_see_82 : decode cX12_see 82 = .ok (.bastore, 1) := by decide +kernel
theorem dX12_see_83 : decode cX12_see 83 = .ok (.aload_n 0, 1) := by decide +kernel
theorem dX12_see_84 : decode cX12_see 84 = .ok (.dup, 1) := by decide +kernel
theorem dX12_see_85 : decode cX12_see 85 = .ok (.getfield 232, 3) := by decide +kernel
theorem dX12_see_88 : decode cX12_see 88 = .ok (.iconst 1, 1) := by decide +kernel
theorem dX12_see_89 : decode cX12_see 89 = .ok (.iadd, 1) := by decide +kernel
theorem dX12_see_90 : decode cX12_see 90 = .ok (.putfield 232, 3) := by decide +kernel
theorem dX12_see_93 : decode cX12_see 93 = .ok (.aload_n 0, 1) := by decide +kernel
theorem dX12_see_94 : decode cX12_see 94 = .ok (.getfield 232, 3) := by decide +kernel
theorem dX12_see_97 : decode cX12_see 97 = .ok (.ireturn, 1) := by decide +kernel
theorem dX12_forget_0 : decode cX12_forget 0 = .ok (.aload_n 0, 1) := by decide +kernel
theorem dX12_forget_1 : decode cX12_forget 1 = .ok (.iconst 0, 1) := by decide +kernel
theorem dX12_forget_2 : decode cX12_forget 2 = .ok (.putfield 122, 3) := by decide +kernel
theorem dX12_forget_5 : decode cX12_forget 5 = .ok (.aload_n 0, 1) := by decide +kernel
theorem dX12_forget_6 : decode cX12_forget 6 = .ok (.getfield 232, 3) := by decide +kernel
theorem dX12_forget_9 : decode cX12_forget 9 = .ok (.ifCond .ne 5, 3) := by decide +kernel
theorem dX12_forget_12 : decode cX12_forget 12 = .ok (.iconst (-1), 1) := by decide +kernel
theorem dX12_forget_13 : decode cX12_forget 13 = .ok (.ireturn, 1) := by decide +kernel
theorem dX12_forget_14 : decode cX12_forget 14 = .ok (.aload_n 0, 1) := by decide +kernel
theorem dX12_forget_15 : decode cX12_forget 15 = .ok (.dup, 1) := by decide +kernel
theorem dX12_forget_16 : decode cX12_forget 16 = .ok (.getfield 232, 3) := by decide +kernel
theorem dX12_forget_19 : decode cX12_forget 19 = .ok (.iconst 1, 1) := by decide +kernel
theorem dX12_forget_20 : decode cX12_forget 20 = .ok (.isub, 1) := by decide +kernel
theorem dX12_forget_21 : decode cX12_forget 21 = .ok (.putfield 232, 3) := by decide +kernel
theorem dX12_forget_24 : decode cX12_forget 24 = .ok (.aload_n 0, 1) := by decide +kernel
theorem dX12_forget_25 : decode cX12_forget 25 = .ok (.getfield 232, 3) := by decide +kernel
theorem dX12_forget_28 : decode cX12_forget 28 = .ok (.ireturn, 1) := by decide +kernel
theorem dX12_explainBy_0 : decode cX12_explainBy 0 = .ok (.iconst 0, 1) := by decide +kernel
theorem dX12_explainBy_1 : decode cX12_explainBy 1 = .ok (.istore_n 2, 1) := by decide +kernel
theorem dX12_explainBy_2 : decode cX12_explainBy 2 = .ok (.iload_n 2, 1) := by decide +kernel
theorem dX12_explainBy_3 : decode cX12_explainBy 3 = .ok (.aload_n 0, 1) := by decide +kernel
theorem dX12_explainBy_4 : decode cX12_explainBy 4 = .ok (.getfield 232, 3) := by decide +kernel
theorem dX12_explainBy_7 : decode cX12_explainBy 7 = .ok (.if_icmp .ge 35, 3) := by decide +kernel
theorem dX12_explainBy_10 : decode cX12_explainBy 10 = .ok (.aload_n 0, 1) := by decide +kernel
theorem dX12_explainBy_11 : decode cX12_explainBy 11 = .ok (.aload_n 0, 1) := by decide +kernel
theorem dX12_explainBy_12 : decode cX12_explainBy 12 = .ok (.getfield 94, 3) := by decide +kernel
theorem dX12_explainBy_15 : decode cX12_explainBy 15 = .ok (.iload_n 2, 1) := by decide +kernel
theorem dX12_explainBy_16 : decode cX12_explainBy 16 = .ok (.iaload, 1) := by decide +kernel
theorem dX12_explainBy_17 : decode cX12_explainBy 17 = .ok (.aload_n 0, 1) := by decide +kernel
theorem dX12_explainBy_18 : decode cX12_explainBy 18 = .ok (.getfield 97, 3) := by decide +kernel
theorem dX12_explainBy_21 : decode cX12_explainBy 21 = .ok (.iload_n 2, 1) := by decide +kernel
theorem dX12_explainBy_22 : decode cX12_explainBy 22 = .ok (.iaload, 1) := by decide +kernel
theorem dX12_explainBy_23 : decode cX12_explainBy 23 = .ok (.invokevirtual 294, 3) := by decide +kernel
theorem dX12_explainBy_26 : decode cX12_explainBy 26 = .ok (.aload_n 0, 1) := by decide +kernel
theorem dX12_explainBy_27 : decode cX12_explainBy 27 = .ok (.getfield 100, 3) := by decide +kernel
theorem dX12_explainBy_30 : decode cX12_explainBy 30 = .ok (.iload_n 2, 1) := by decide +kernel
theorem dX12_explainBy_31 : decode cX12_explainBy 31 = .ok (.baload, 1) := by decide +kernel
theorem dX12_explainBy_32 : decode cX12_explainBy 32 = .ok (.if_icmp .eq 4, 3) := by decide +kernel
theorem dX12_explainBy_35 : decode cX12_explainBy 35 = .ok (.return_, 1) := by decide +kernel
theorem dX12_explainBy_36 : decode cX12_explainBy 36 = .ok (.iinc 2 1, 3) := by decide +kernel
theorem dX12_explainBy_39 : decode cX12_explainBy 39 = .ok (.goto (-37), 3) := by decide +kernel
theorem dX12_explainBy_42 : decode cX12_explainBy 42 = .ok (.aload_n 0, 1) := by decide +kernel
theorem dX12_explainBy_43 : decode cX12_explainBy 43 = .ok (.getfield 355, 3) := by decide +kernel
theorem dX12_explainBy_46 : decode cX12_explainBy 46 = .ok (.ifCond .ne 14, 3) := by decide +kernel
theorem dX12_explainBy_49 : decode cX12_explainBy 49 = .ok (.aload_n 0, 1) := by decide +kernel
theorem dX12_explainBy_50 : decode cX12_explainBy 50 = .ok (.getfield 82, 3) := by decide +kernel
theorem dX12_explainBy_53 : decode cX12_explainBy 53 = .ok (.aload_n 0, 1) := by decide +kernel
theorem dX12_explainBy_54 : decode cX12_explainBy 54 = .ok (.getfield 79, 3) := by decide +kernel
theorem dX12_explainBy_57 : decode cX12_explainBy 57 = .ok (.invokestatic 319, 3) := by decide +kernel
theorem dX12_explainBy_60 : decode cX12_explainBy 60 = .ok (.aload_n 0, 1) := by decide +kernel
theorem dX12_explainBy_61 : decode cX12_explainBy 61 = .ok (.dup, 1) := by decide +kernel
theorem dX12_explainBy_62 : decode cX12_explainBy 62 = .ok (.getfield 355, 3) := by decide +kernel
theorem dX12_explainBy_65 : decode cX12_explainBy 65 = .ok (.iconst 1, 1) := by decide +kernel
theorem dX12_explainBy_66 : decode cX12_explainBy 66 = .ok (.iadd, 1) := by decide +kernel
theorem dX12_explainBy_67 : decode cX12_explainBy 67 = .ok (.putfield 355, 3) := by decide +kernel
theorem dX12_explainBy_70 : decode cX12_explainBy 70 = .ok (.aload_n 0, 1) := by decide +kernel
theorem dX12_explainBy_71 : decode cX12_explainBy 71 = .ok (.dup, 1) := by decide +kernel
theorem dX12_explainBy_72 : decode cX12_explainBy 72 = .ok (.getfield 358, 3) := by decide +kernel
theorem dX12_explainBy_75 : decode cX12_explainBy 75 = .ok (.aload_n 0, 1) := by decide +kernel
theorem dX12_explainBy_76 : decode cX12_explainBy 76 = .ok (.iload_n 1, 1) := by decide +kernel
theorem dX12_explainBy_77 : decode cX12_explainBy 77 = .ok (.invokevirtual 273, 3) := by decide +kernel
theorem dX12_explainBy_80 : decode cX12_explainBy 80 = .ok (.iand, 1) := by decide +kernel
theorem dX12_explainBy_81 : decode cX12_explainBy 81 = .ok (.putfield 358, 3) := by decide +kernel
theorem dX12_explainBy_84 : decode cX12_explainBy 84 = .ok (.aload_n 0, 1) := by decide +kernel
theorem dX12_explainBy_85 : decode cX12_explainBy 85 = .ok (.dup, 1) := by decide +kernel
theorem dX12_explainBy_86 : decode cX12_explainBy 86 = .ok (.getfield 361, 3) := by decide +kernel
theorem dX12_explainBy_89 : decode cX12_explainBy 89 = .ok (.aload_n 0, 1) := by decide +kernel
theorem dX12_explainBy_90 : decode cX12_explainBy 90 = .ok (.iload_n 1, 1) := by decide +kernel
theorem dX12_explainBy_91 : decode cX12_explainBy 91 = .ok (.invokevirtual 273, 3) := by decide +kernel
theorem dX12_explainBy_94 : decode cX12_explainBy 94 = .ok (.ior, 1) := by decide +kernel
theorem dX12_explainBy_95 : decode cX12_explainBy 95 = .ok (.putfield 361, 3) := by decide +kernel
theorem dX12_explainBy_98 : decode cX12_explainBy 98 = .ok (.return_, 1) := by decide +kernel
theorem dX12_tellExplained_0 : decode cX12_tellExplained 0 = .ok (.aload_n 0, 1) := by decide +kernel
theorem dX12_tellExplained_1 : decode cX12_tellExplained 1 = .ok (.iconst 0, 1) := by decide +kernel
theorem dX12_tellExplained_2 : decode cX12_tellExplained 2 = .ok (.putfield 355, 3) := by decide +kernel
theorem dX12_tellExplained_5 : decode cX12_tellExplained 5 = .ok (.aload_n 0, 1) := by decide +kernel
theorem dX12_tellExplained_6 : decode cX12_tellExplained 6 = .ok (.iconst 1, 1) := by decide +kernel
theorem dX12_tellExplained_7 : decode cX12_tellExplained 7 = .ok (.aload_n 0, 1) := by decide +kernel
theorem dX12_tellExplained_8 : decode cX12_tellExplained 8 = .ok (.getfield 23, 3) := by decide +kernel
theorem dX12_tellExplained_11 : decode cX12_tellExplained 11 = .ok (.iconst 1, 1) := by decide +kernel
theorem dX12_tellExplained_12 : decode cX12_tellExplained 12 = .ok (.iaload, 1) := by decide +kernel
theorem dX12_tellExplained_13 : decode cX12_tellExplained 13 = .ok (.ishl, 1) := by decide +kernel
theorem dX12_tellExplained_14 : decode cX12_tellExplained 14 = .ok (.iconst 1, 1) := by decide +kernel
theorem dX12_tellExplained_15 : decode cX12_tellExplained 15 = .ok (.isub, 1) := by decide +kernel
theorem dX12_tellExplained_16 : decode cX12_tellExplained 16 = .ok (.putfield 358, 3) := by decide +kernel
theorem dX12_tellExplained_19 : decode cX12_tellExplained 19 = .ok (.aload_n 0, 1) := by decide +kernel
theorem dX12_tellExplained_20 : decode cX12_tellExplained 20 = .ok (.iconst 0, 1) := by decide +kernel
theorem dX12_tellExplained_21 : decode cX12_tellExplained 21 = .ok (.putfield 361, 3) := by decide +kernel
theorem dX12_tellExplained_24 : decode cX12_tellExplained 24 = .ok (.aload_n 0, 1) := by decide +kernel
theorem dX12_tellExplained_25 : decode cX12_tellExplained 25 = .ok (.iconst 0, 1) := by decide +kernel
theorem dX12_tellExplained_26 : decode cX12_tellExplained 26 = .ok (.iconst 0, 1) := by decide +kernel
theorem dX12_tellExplained_27 : decode cX12_tellExplained 27 = .ok (.iconst 1, 1) := by decide +kernel
theorem dX12_tellExplained_28 : decode cX12_tellExplained 28 = .ok (.iload_n 1, 1) := by decide +kernel
theorem dX12_tellExplained_29 : decode cX12_tellExplained 29 = .ok (.invokevirtual 306, 3) := by decide +kernel
theorem dX12_tellExplained_32 : decode cX12_tellExplained 32 = .ok (.return_, 1) := by decide +kernel
theorem dX12_explains_0 : decode cX12_explains 0 = .ok (.aload_n 0, 1) := by decide +kernel
theorem dX12_explains_1 : decode cX12_explains 1 = .ok (.iconst 0, 1) := by decide +kernel
theorem dX12_explains_2 : decode cX12_explains 2 = .ok (.putfield 122, 3) := by decide +kernel
theorem dX12_explains_5 : decode cX12_explains 5 = .ok (.aload_n 0, 1) := by decide +kernel
theorem dX12_explains_6 : decode cX12_explains 6 = .ok (.iconst 0, 1) := by decide +kernel
theorem dX12_explains_7 : decode cX12_explains 7 = .ok (.invokevirtual 364, 3) := by decide +kernel
theorem dX12_explains_10 : decode cX12_explains 10 = .ok (.aload_n 0, 1) := by decide +kernel
theorem dX12_explains_11 : decode cX12_explains 11 = .ok (.aload_n 0, 1) := by decide +kernel
theorem dX12_explains_12 : decode cX12_explains 12 = .ok (.getfield 355, 3) := by decide +kernel
theorem dX12_explains_15 : decode cX12_explains 15 = .ok (.ifCond .le 7, 3) := by decide +kernel
theorem dX12_explains_18 : decode cX12_explains 18 = .ok (.iconst 1, 1) := by decide +kernel
theorem dX12_explains_19 : decode cX12_explains 19 = .ok (.goto 4, 3) := by decide +kernel
theorem dX12_explains_22 : decode cX12_explains 22 = .ok (.iconst 0, 1) := by decide +kernel
theorem dX12_explains_23 : decode cX12_explains 23 = .ok (.putfield 235, 3) := by decide +kernel
theorem dX12_explains_26 : decode cX12_explains 26 = .ok (.iconst 0, 1) := by decide +kernel
theorem dX12_explains_27 : decode cX12_explains 27 = .ok (.istore_n 1, 1) := by decide +kernel
theorem dX12_explains_28 : decode cX12_explains 28 = .ok (.iload_n 1, 1) := by decide +kernel
theorem dX12_explains_29 : decode cX12_explains 29 = .ok (.bipush 7, 2) := by decide +kernel
theorem dX12_explains_31 : decode cX12_explains 31 = .ok (.if_icmp .ge 28, 3) := by decide +kernel
theorem dX12_explains_34 : decode cX12_explains 34 = .ok (.aload_n 0, 1) := by decide +kernel
theorem dX12_explains_35 : decode cX12_explains 35 = .ok (.getfield 235, 3) := by decide +kernel
theorem dX12_explains_38 : decode cX12_explains 38 = .ok (.ifCond .eq 21, 3) := by decide +kernel
theorem dX12_explains_41 : decode cX12_explains 41 = .ok (.aload_n 0, 1) := by decide +kernel
theorem dX12_explains_42 : decode cX12_explains 42 = .ok (.getfield 85, 3) := by decide +kernel
theorem dX12_explains_45 : decode cX12_explains 45 = .ok (.iload_n 1, 1) := by decide +kernel
theorem dX12_explains_46 : decode cX12_explains 46 = .ok (.aload_n 0, 1) := by decide +kernel
theorem dX12_explains_47 : decode cX12_explains 47 = .ok (.getfield 82, 3) := by decide +kernel
theorem dX12_explains_50 : decode cX12_explains 50 = .ok (.iload_n 1, 1) := by decide +kernel
theorem dX12_explains_51 : decode cX12_explains 51 = .ok (.iaload, 1) := by decide +kernel
theorem dX12_explains_52 : decode cX12_explains 52 = .ok (.iastore, 1) := by decide +kernel
theorem dX12_explains_53 : decode cX12_explains 53 = .ok (.iinc 1 1, 3) := by decide +kernel
theorem dX12_explains_56 : decode cX12_explains 56 = .ok (.goto (-28), 3) := by decide +kernel
theorem dX12_explains_59 : decode cX12_explains 59 = .ok (.aload_n 0, 1) := by decide +kernel
theorem dX12_explains_60 : decode cX12_explains 60 = .ok (.getfield 355, 3) := by decide +kernel
theorem dX12_explains_63 : decode cX12_explains 63 = .ok (.ireturn, 1) := by decide +kernel
theorem dX12_heard_0 : decode cX12_heard 0 = .ok (.aload_n 0, 1) := by decide +kernel
theorem dX12_heard_1 : decode cX12_heard 1 = .ok (.iconst 0, 1) := by decide +kernel
theorem dX12_heard_2 : decode cX12_heard 2 = .ok (.putfield 122, 3) := by decide +kernel
theorem dX12_heard_5 : decode cX12_heard 5 = .ok (.iload_n 1, 1) := by decide +kernel
theorem dX12_heard_6 : decode cX12_heard 6 = .ok (.invokestatic 270, 3) := by decide +kernel
theorem dX12_heard_9 : decode cX12_heard 9 = .ok (.ifCond .ne 9, 3) := by decide +kernel
theorem dX12_heard_12 : decode cX12_heard 12 = .ok (.aload_n 0, 1) := by decide +kernel
theorem dX12_heard_13 : decode cX12_heard 13 = .ok (.iconst 1, 1) := by decide +kernel
theorem dX12_heard_14 : decode cX12_heard 14 = .ok (.invokevirtual 219, 3) := by decide +kernel
theorem dX12_heard_17 : decode cX12_heard 17 = .ok (.ireturn, 1) := by decide +kernel
theorem dX12_heard_18 : decode cX12_heard 18 = .ok (.aload_n 0, 1) := by decide +kernel
theorem dX12_heard_19 : decode cX12_heard 19 = .ok (.iload_n 1, 1) := by decide +kernel
theorem dX12_heard_20 : decode cX12_heard 20 = .ok (.invokevirtual 364, 3) := by decide +kernel
theorem dX12_heard_23 : decode cX12_heard 23 = .ok (.aload_n 0, 1) := by decide +kernel
theorem dX12_heard_24 : decode cX12_heard 24 = .ok (.getfield 355, 3) := by decide +kernel
theorem dX12_heard_27 : decode cX12_heard 27 = .ok (.ifCond .ne 7, 3) := by decide +kernel
theorem dX12_heard_30 : decode cX12_heard 30 = .ok (.iconst 0, 1) := by decide +kernel
theorem dX12_heard_31 : decode cX12_heard 31 = .ok (.goto 18, 3) := by decide +kernel
theorem dX12_heard_34 : decode cX12_heard 34 = .ok (.iload_n 2, 1) := by decide +kernel
theorem dX12_heard_35 : decode cX12_heard 35 = .ok (.ifCond .eq 10, 3) := by decide +kernel
theorem dX12_heard_38 : decode cX12_heard 38 = .ok (.aload_n 0, 1) := by decide +kernel
theorem dX12_heard_39 : decode cX12_heard 39 = .ok (.getfield 358, 3) := by decide +kernel
theorem dX12_heard_42 : decode cX12_heard 42 = .ok (.goto 7, 3) := by decide +kernel
theorem dX12_heard_45 : decode cX12_heard 45 = .ok (.aload_n 0, 1) := by decide +kernel
theorem dX12_heard_46 : decode cX12_heard 46 = .ok (.getfield 361, 3) := by decide +kernel
theorem dX12_heard_49 : decode cX12_heard 49 = .ok (.ireturn, 1) := by decide +kernel
theorem dX12_first_0 : decode cX12_first 0 = .ok (.aload_n 0, 1) := by decide +kernel
theorem dX12_first_1 : decode cX12_first 1 = .ok (.iconst 0, 1) := by decide +kernel
theorem dX12_first_2 : decode cX12_first 2 = .ok (.putfield 122, 3) := by decide +kernel
theorem dX12_first_5 : decode cX12_first 5 = .ok (.aload_n 0, 1) := by decide +kernel
theorem dX12_first_6 : decode cX12_first 6 = .ok (.getfield 235, 3) := by decide +kernel
theorem dX12_first_9 : decode cX12_first 9 = .ok (.ifCond .eq 22, 3) := by decide +kernel
theorem dX12_first_12 : decode cX12_first 12 = .ok (.aload_n 0, 1) := by decide +kernel
theorem dX12_first_13 : decode cX12_first 13 = .ok (.getfield 85, 3) := by decide +kernel
theorem dX12_first_16 : decode cX12_first 16 = .ok (.aload_n 0, 1) := by decide +kernel
theorem dX12_first_17 : decode cX12_first 17 = .ok (.getfield 23, 3) := by decide +kernel
theorem dX12_first_20 : decode cX12_first 20 = .ok (.iconst 1, 1) := by decide +kernel
theorem dX12_first_21 : decode cX12_first 21 = .ok (.iaload, 1) := by decide +kernel
theorem dX12_first_22 : decode cX12_first 22 = .ok (.bipush 8, 2) := by decide +kernel
theorem dX12_first_24 : decode cX12_first 24 = .ok (.invokestatic 323, 3) := by decide +kernel
theorem dX12_first_27 : decode cX12_first 27 = .ok (.l2i, 1) := by decide +kernel
theorem dX12_first_28 : decode cX12_first 28 = .ok (.goto 8, 3) := by decide +kernel
theorem dX12_first_31 : decode cX12_first 31 = .ok (.aload_n 0, 1) := by decide +kernel
theorem dX12_first_32 : decode cX12_first 32 = .ok (.iconst 1, 1) := by decide +kernel
theorem dX12_first_33 : decode cX12_first 33 = .ok (.invokevirtual 219, 3) := by decide +kernel
theorem dX12_first_36 : decode cX12_first 36 = .ok (.ireturn, 1) := by decide +kernel
theorem dX12_drawDocket_0 : decode cX12_drawDocket 0 = .ok (.iconst 0, 1) := by decide +kernel
theorem dX12_drawDocket_1 : decode cX12_drawDocket 1 = .ok (.istore_n 1, 1) := by decide +kernel
theorem dX12_drawDocket_2 : decode cX12_drawDocket 2 = .ok (.iconst 0, 1) := by decide +kernel
theorem dX12_drawDocket_3 : decode cX12_drawDocket 3 = .ok (.istore_n 2, 1) := by decide +kernel
theorem dX12_drawDocket_4 : decode cX12_drawDocket 4 = .ok (.iload_n 2, 1) := by decide +kernel
theorem dX12_drawDocket_5 : decode cX12_drawDocket 5 = .ok (.aload_n 0, 1) := by decide +kernel
theorem dX12_drawDocket_6 : decode cX12_drawDocket 6 = .ok (.getfield 23, 3) := by decide +kernel
theorem dX12_drawDocket_9 : decode cX12_drawDocket 9 = .ok (.iconst 1, 1) := by decide +kernel
theorem dX12_drawDocket_10 : decode cX12_drawDocket 10 = .ok (.iaload, 1) := by decide +kernel
theorem dX12_drawDocket_11 : decode cX12_drawDocket 11 = .ok (.if_icmp .ge 102, 3) := by decide +kernel
theorem dX12_drawDocket_14 : decode cX12_drawDocket 14 = .ok (.aload_n 0, 1) := by decide +kernel
theorem dX12_drawDocket_15 : decode cX12_drawDocket 15 = .ok (.aload_n 0, 1) := by decide +kernel
theorem dX12_drawDocket_16 : decode cX12_drawDocket 16 = .ok (.getfield 367, 3) := by decide +kernel
theorem dX12_drawDocket_19 : decode cX12_drawDocket 19 = .ok (.ldc_w 370, 3) := by decide +kernel
theorem dX12_drawDocket_22 : decode cX12_drawDocket 22 = .ok (.imul, 1) := by decide +kernel
theorem dX12_drawDocket_23 : decode cX12_drawDocket 23 = .ok (.sipush 12345, 3) := by decide +kernel
theorem dX12_drawDocket_26 : decode cX12_drawDocket 26 = .ok (.iadd, 1) := by decide +kernel
theorem dX12_drawDocket_27 : decode cX12_drawDocket 27 = .ok (.putfield 367, 3) := by decide +kernel
theorem dX12_drawDocket_30 : decode cX12_drawDocket 30 = .ok (.aload_n 0, 1) := by decide +kernel
theorem dX12_drawDocket_31 : decode cX12_drawDocket 31 = .ok (.getfield 367, 3) := by decide +kernel
theorem dX12_drawDocket_34 : decode cX12_drawDocket 34 = .ok (.bipush 16, 2) := by decide +kernel
theorem dX12_drawDocket_36 : decode cX12_drawDocket 36 = .ok (.ishr, 1) := by decide +kernel
theorem dX12_drawDocket_37 : decode cX12_drawDocket 37 = .ok (.sipush 32767, 3) := by decide +kernel
theorem dX12_drawDocket_40 : decode cX12_drawDocket 40 = .ok (.iand, 1) := by decide +kernel
theorem dX12_drawDocket_41 : decode cX12_drawDocket 41 = .ok (.aload_n 0, 1) := by decide +kernel
theorem dX12_drawDocket_42 : decode cX12_drawDocket 42 = .ok (.getfield 23, 3) := by decide +kernel
theorem dX12_drawDocket_45 : decode cX12_drawDocket 45 = .ok (.iconst 1, 1) := by decide +kernel
theorem dX12_drawDocket_46 : decode cX12_drawDocket 46 = .ok (.iaload, 1) := by decide +kernel
theorem dX12_drawDocket_47 : decode cX12_drawDocket 47 = .ok (.iload_n 2, 1) := by decide +kernel
theorem dX12_drawDocket_48 : decode cX12_drawDocket 48 = .ok (.isub, 1) := by decide +kernel
theorem dX12_drawDocket_49 : decode cX12_drawDocket 49 = .ok (.irem, 1) := by decide +kernel
theorem dX12_drawDocket_50 : decode cX12_drawDocket 50 = .ok (.istore_n 3, 1) := by decide +kernel
theorem dX12_drawDocket_51 : decode cX12_drawDocket 51 = .ok (.iconst 0, 1) := by decide +kernel
theorem dX12_drawDocket_52 : decode cX12_drawDocket 52 = .ok (.istore 4, 2) := by decide +kernel
theorem dX12_drawDocket_54 : decode cX12_drawDocket 54 = .ok (.iload_n 1, 1) := by decide +kernel
theorem dX12_drawDocket_55 : decode cX12_drawDocket 55 = .ok (.iload 4, 2) := by decide +kernel
theorem dX12_drawDocket_57 : decode cX12_drawDocket 57 = .ok (.ishr, 1) := by decide +kernel
theorem dX12_drawDocket_58 : decode cX12_drawDocket 58 = .ok (.iconst 1, 1) := by decide +kernel
theorem dX12_drawDocket_59 : decode cX12_drawDocket 59 = .ok (.iand, 1) := by decide +kernel
theorem dX12_drawDocket_60 : decode cX12_drawDocket 60 = .ok (.iconst 1, 1) := by decide +kernel
theorem dX12_drawDocket_61 : decode cX12_drawDocket 61 = .ok (.if_icmp .eq 7, 3) := by decide +kernel
theorem dX12_drawDocket_64 : decode cX12_drawDocket 64 = .ok (.iload_n 3, 1) := by decide +kernel
theorem dX12_drawDocket_65 : decode cX12_drawDocket 65 = .ok (.ifCond .le 27, 3) := by decide +kernel
theorem dX12_drawDocket_68 : decode cX12_drawDocket 68 = .ok (.iload_n 3, 1) := by decide +kernel
theorem dX12_drawDocket_69 : decode cX12_drawDocket 69 = .ok (.iload_n 1, 1) := by decide +kernel
theorem dX12_drawDocket_70 : decode cX12_drawDocket 70 = .ok (.iload 4, 2) := by decide +kernel
theorem dX12_drawDocket_72 : decode cX12_drawDocket 72 = .ok (.ishr, 1) := by decide +kernel
theorem dX12_drawDocket_73 : decode cX12_drawDocket 73 = .ok (.iconst 1, 1) := by decide +kernel
theorem dX12_drawDocket_74 : decode cX12_drawDocket 74 = .ok (.iand, 1) := by decide +kernel
theorem dX12_drawDocket_75 : decode cX12_drawDocket 75 = .ok (.iconst 1, 1) := by decide +kernel
theorem dX12_drawDocket_76 : decode cX12_drawDocket 76 = .ok (.if_icmp .ne 7, 3) := by decide +kernel
theorem dX12_drawDocket_79 : decode cX12_drawDocket 79 = .ok (.iconst 0, 1) := by decide +kernel
theorem dX12_drawDocket_80 : decode cX12_drawDocket 80 = .ok (.goto 4, 3) := by decide +kernel
theorem dX12_drawDocket_83 : decode cX12_drawDocket 83 = .ok (.iconst 1, 1) := by decide +kernel
theorem dX12_drawDocket_84 : decode cX12_drawDocket 84 = .ok (.isub, 1) := by decide +kernel
theorem dX12_drawDocket_85 : decode cX12_drawDocket 85 = .ok (.istore_n 3, 1) := by decide +kernel
theorem dX12_drawDocket_86 : decode cX12_drawDocket 86 = .ok (.iinc 4 1, 3) := by decide +kernel
theorem dX12_drawDocket_89 : decode cX12_drawDocket 89 = .ok (.goto (-35), 3) := by decide +kernel
theorem dX12_drawDocket_92 : decode cX12_drawDocket 92 = .ok (.aload_n 0, 1) := by decide +kernel
theorem dX12_drawDocket_93 : decode cX12_drawDocket 93 = .ok (.getfield 79, 3) := by decide +kernel
theorem dX12_drawDocket_96 : decode cX12_drawDocket 96 = .ok (.iload_n 2, 1) := by decide +kernel
theorem dX12_drawDocket_97 : decode cX12_drawDocket 97 = .ok (.iload 4, 2) := by decide +kernel
theorem dX12_drawDocket_99 : decode cX12_drawDocket 99 = .ok (.iastore, 1) := by decide +kernel
theorem dX12_drawDocket_100 : decode cX12_drawDocket 100 = .ok (.iload_n 1, 1) := by decide +kernel
theorem dX12_drawDocket_101 : decode cX12_drawDocket 101 = .ok (.iconst 1, 1) := by decide +kernel
theorem dX12_drawDocket_102 : decode cX12_drawDocket 102 = .ok (.iload 4, 2) := by decide +kernel
theorem dX12_drawDocket_104 : decode cX12_drawDocket 104 = .ok (.ishl, 1) := by decide +kernel
theorem dX12_drawDocket_105 : decode cX12_drawDocket 105 = .ok (.ior, 1) := by decide +kernel
theorem dX12_drawDocket_106 : decode cX12_drawDocket 106 = .ok (.istore_n 1, 1) := by decide +kernel
theorem dX12_drawDocket_107 : decode cX12_drawDocket 107 = .ok (.iinc 2 1, 3) := by decide +kernel
theorem dX12_drawDocket_110 : decode cX12_drawDocket 110 = .ok (.goto (-106), 3) := by decide +kernel
theorem dX12_drawDocket_113 : decode cX12_drawDocket 113 = .ok (.return_, 1) := by decide +kernel
theorem dX12_terms_0 : decode cX12_terms 0 = .ok (.aload_n 0, 1) := by decide +kernel
theorem dX12_terms_1 : decode cX12_terms 1 = .ok (.iconst 0, 1) := by decide +kernel
theorem dX12_terms_2 : decode cX12_terms 2 = .ok (.putfield 122, 3) := by decide +kernel
theorem dX12_terms_5 : decode cX12_terms 5 = .ok (.aload_n 0, 1) := by decide +kernel
theorem dX12_terms_6 : decode cX12_terms 6 = .ok (.iload_n 1, 1) := by decide +kernel
theorem dX12_terms_7 : decode cX12_terms 7 = .ok (.invokevirtual 263, 3) := by decide +kernel
theorem dX12_terms_10 : decode cX12_terms 10 = .ok (.ifCond .ne 9, 3) := by decide +kernel
theorem dX12_terms_13 : decode cX12_terms 13 = .ok (.aload_n 0, 1) := by decide +kernel
theorem dX12_terms_14 : decode cX12_terms 14 = .ok (.iconst 1, 1) := by decide +kernel
theorem dX12_terms_15 : decode cX12_terms 15 = .ok (.invokevirtual 219, 3) := by decide +kernel
theorem dX12_terms_18 : decode cX12_terms 18 = .ok (.ireturn, 1) := by decide +kernel
theorem dX12_terms_19 : decode cX12_terms 19 = .ok (.iload_n 3, 1) := by decide +kernel
theorem dX12_terms_20 : decode cX12_terms 20 = .ok (.iconst 0, 1) := by decide +kernel
theorem dX12_terms_21 : decode cX12_terms 21 = .ok (.bipush 40, 2) := by decide +kernel
theorem dX12_terms_23 : decode cX12_terms 23 = .ok (.invokestatic 125, 3) := by decide +kernel
theorem dX12_terms_26 : decode cX12_terms 26 = .ok (.ifCond .ne 9, 3) := by decide +kernel
theorem dX12_terms_29 : decode cX12_terms 29 = .ok (.aload_n 0, 1) := by decide +kernel
theorem dX12_terms_30 : decode cX12_terms 30 = .ok (.iconst 2, 1) := by decide +kernel
theorem dX12_terms_31 : decode cX12_terms 31 = .ok (.invokevirtual 219, 3) := by decide +kernel
theorem dX12_terms_34 : decode cX12_terms 34 = .ok (.ireturn, 1) := by decide +kernel
theorem dX12_terms_35 : decode cX12_terms 35 = .ok (.aload_n 0, 1) := by decide +kernel
theorem dX12_terms_36 : decode cX12_terms 36 = .ok (.iload_n 2, 1) := by decide +kernel
theorem dX12_terms_37 : decode cX12_terms 37 = .ok (.putfield 367, 3) := by decide +kernel
theorem dX12_terms_40 : decode cX12_terms 40 = .ok (.iconst 0, 1) := by decide +kernel
theorem dX12_terms_41 : decode cX12_terms 41 = .ok (.istore 4, 2) := by decide +kernel
theorem dX12_terms_43 : decode cX12_terms 43 = .ok (.iconst 0, 1) := by decide +kernel
theorem dX12_terms_44 : decode cX12_terms 44 = .ok (.istore 5, 2) := by decide +kernel
theorem dX12_terms_46 : decode cX12_terms 46 = .ok (.iload 5, 2) := by decide +kernel
theorem dX12_terms_48 : decode cX12_terms 48 = .ok (.iload_n 3, 1) := by decide +kernel
theorem dX12_terms_49 : decode cX12_terms 49 = .ok (.if_icmp .ge 40, 3) := by decide +kernel
theorem dX12_terms_52 : decode cX12_terms 52 = .ok (.aload_n 0, 1) := by decide +kernel
theorem dX12_terms_53 : decode cX12_terms 53 = .ok (.invokevirtual 371, 3) := by decide +kernel
theorem dX12_terms_56 : decode cX12_terms 56 = .ok (.aload_n 0, 1) := by decide +kernel
theorem dX12_terms_57 : decode cX12_terms 57 = .ok (.aload_n 0, 1) := by decide +kernel
theorem dX12_terms_58 : decode cX12_terms 58 = .ok (.getfield 79, 3) := by decide +kernel
theorem dX12_terms_61 : decode cX12_terms 61 = .ok (.invokevirtual 257, 3) := by decide +kernel
theorem dX12_terms_64 : decode cX12_terms 64 = .ok (.iload 4, 2) := by decide +kernel
theorem dX12_terms_66 : decode cX12_terms 66 = .ok (.aload_n 0, 1) := by decide +kernel
theorem dX12_terms_67 : decode cX12_terms 67 = .ok (.iload_n 1, 1) := by decide +kernel
theorem dX12_terms_68 : decode cX12_terms 68 = .ok (.invokevirtual 297, 3) := by decide +kernel
theorem dX12_terms_71 : decode cX12_terms 71 = .ok (.iconst (-1), 1) := by decide +kernel
theorem dX12_terms_72 : decode cX12_terms 72 = .ok (.if_icmp .ne 7, 3) := by decide +kernel
theorem dX12_terms_75 : decode cX12_terms 75 = .ok (.iconst 0, 1) := by decide +kernel
theorem dX12_terms_76 : decode cX12_terms 76 = .ok (.goto 4, 3) := by decide +kernel
theorem dX12_terms_79 : decode cX12_terms 79 = .ok (.iconst 1, 1) := by decide +kernel
theorem dX12_terms_80 : decode cX12_terms 80 = .ok (.iadd, 1) := by decide +kernel
theorem dX12_terms_81 : decode cX12_terms 81 = .ok (.istore 4, 2) := by decide +kernel
theorem dX12_terms_83 : decode cX12_terms 83 = .ok (.iinc 5 1, 3) := by decide +kernel
theorem dX12_terms_86 : decode cX12_terms 86 = .ok (.goto (-40), 3) := by decide +kernel
theorem dX12_terms_89 : decode cX12_terms 89 = .ok (.iload 4, 2) := by decide +kernel
theorem dX12_terms_91 : decode cX12_terms 91 = .ok (.ireturn, 1) := by decide +kernel
theorem dX12_be_0 : decode cX12_be 0 = .ok (.iconst 0, 1) := by decide +kernel
theorem dX12_be_1 : decode cX12_be 1 = .ok (.istore_n 2, 1) := by decide +kernel
theorem dX12_be_2 : decode cX12_be 2 = .ok (.iload_n 2, 1) := by decide +kernel
theorem dX12_be_3 : decode cX12_be 3 = .ok (.aload_n 0, 1) := by decide +kernel
theorem dX12_be_4 : decode cX12_be 4 = .ok (.arraylength, 1) := by decide +kernel
theorem dX12_be_5 : decode cX12_be 5 = .ok (.if_icmp .ge 15, 3) := by decide +kernel
theorem dX12_be_8 : decode cX12_be 8 = .ok (.aload_n 0, 1) := by decide +kernel
theorem dX12_be_9 : decode cX12_be 9 = .ok (.iload_n 2, 1) := by decide +kernel
theorem dX12_be_10 : decode cX12_be 10 = .ok (.aload_n 1, 1) := by decide +kernel
theorem dX12_be_11 : decode cX12_be 11 = .ok (.iload_n 2, 1) := by decide +kernel
theorem dX12_be_12 : decode cX12_be 12 = .ok (.iaload, 1) := by decide +kernel
theorem dX12_be_13 : decode cX12_be 13 = .ok (.iastore, 1) := by decide +kernel
theorem dX12_be_14 : decode cX12_be 14 = .ok (.iinc 2 1, 3) := by decide +kernel
theorem dX12_be_17 : decode cX12_be 17 = .ok (.goto (-15), 3) := by decide +kernel
theorem dX12_be_20 : decode cX12_be 20 = .ok (.return_, 1) := by decide +kernel
theorem dX12_beAs_0 : decode cX12_beAs 0 = .ok (.iconst 0, 1) := by decide +kernel
theorem dX12_beAs_1 : decode cX12_beAs 1 = .ok (.istore_n 2, 1) := by decide +kernel
theorem dX12_beAs_2 : decode cX12_beAs 2 = .ok (.iload_n 2, 1) := by decide +kernel
theorem dX12_beAs_3 : decode cX12_beAs 3 = .ok (.aload_n 0, 1) := by decide +kernel
theorem dX12_beAs_4 : decode cX12_beAs 4 = .ok (.arraylength, 1) := by decide +kernel
theorem dX12_beAs_5 : decode cX12_beAs 5 = .ok (.if_icmp .ge 15, 3) := by decide +kernel
theorem dX12_beAs_8 : decode cX12_beAs 8 = .ok (.aload_n 0, 1) := by decide +kernel
theorem dX12_beAs_9 : decode cX12_beAs 9 = .ok (.iload_n 2, 1) := by decide +kernel
theorem dX12_beAs_10 : decode cX12_beAs 10 = .ok (.aload_n 1, 1) := by decide +kernel
theorem dX12_beAs_11 : decode cX12_beAs 11 = .ok (.iload_n 2, 1) := by decide +kernel
theorem dX12_beAs_12 : decode cX12_beAs 12 = .ok (.baload, 1) := by decide +kernel
theorem dX12_beAs_13 : decode cX12_beAs 13 = .ok (.bastore, 1) := by decide +kernel
theorem dX12_beAs_14 : decode cX12_beAs 14 = .ok (.iinc 2 1, 3) := by decide +kernel
theorem dX12_beAs_17 : decode cX12_beAs 17 = .ok (.goto (-15), 3) := by decide +kernel
theorem dX12_beAs_20 : decode cX12_beAs 20 = .ok (.return_, 1) := by decide +kernel
theorem dX12_image_0 : decode cX12_image 0 = .ok (.aload_n 0, 1) := by decide +kernel
theorem dX12_image_1 : decode cX12_image 1 = .ok (.iconst 0, 1) := by decide +kernel
theorem dX12_image_2 : decode cX12_image 2 = .ok (.putfield 122, 3) := by decide +kernel
theorem dX12_image_5 : decode cX12_image 5 = .ok (.aload_n 0, 1) := by decide +kernel
theorem dX12_image_6 : decode cX12_image 6 = .ok (.iconst 1, 1) := by decide +kernel
theorem dX12_image_7 : decode cX12_image 7 = .ok (.putfield 239, 3) := by decide +kernel
theorem dX12_image_10 : decode cX12_image 10 = .ok (.aload_n 0, 1) := by decide +kernel
theorem dX12_image_11 : decode cX12_image 11 = .ok (.aload_n 0, 1) := by decide +kernel
theorem dX12_image_12 : decode cX12_image 12 = .ok (.getfield 232, 3) := by decide +kernel
theorem dX12_image_15 : decode cX12_image 15 = .ok (.putfield 374, 3) := by decide +kernel
theorem dX12_image_18 : decode cX12_image 18 = .ok (.aload_n 0, 1) := by decide +kernel
theorem dX12_image_19 : decode cX12_image 19 = .ok (.getfield 104, 3) := by decide +kernel
theorem dX12_image_22 : decode cX12_image 22 = .ok (.aload_n 0, 1) := by decide +kernel
theorem dX12_image_23 : decode cX12_image 23 = .ok (.getfield 70, 3) := by decide +kernel
theorem dX12_image_26 : decode cX12_image 26 = .ok (.invokestatic 319, 3) := by decide +kernel
theorem dX12_image_29 : decode cX12_image 29 = .ok (.aload_n 0, 1) := by decide +kernel
theorem dX12_image_30 : decode cX12_image 30 = .ok (.getfield 107, 3) := by decide +kernel
theorem dX12_image_33 : decode cX12_image 33 = .ok (.aload_n 0, 1) := by decide +kernel
theorem dX12_image_34 : decode cX12_image 34 = .ok (.getfield 73, 3) := by decide +kernel
theorem dX12_image_37 : decode cX12_image 37 = .ok (.invokestatic 319, 3) := by decide +kernel
theorem dX12_image_40 : decode cX12_image 40 = .ok (.aload_n 0, 1) := by decide +kernel
theorem dX12_image_41 : decode cX12_image 41 = .ok (.getfield 110, 3) := by decide +kernel
theorem dX12_image_44 : decode cX12_image 44 = .ok (.aload_n 0, 1) := by decide +kernel
theorem dX12_image_45 : decode cX12_image 45 = .ok (.getfield 94, 3) := by decide +kernel
theorem dX12_image_48 : decode cX12_image 48 = .ok (.invokestatic 319, 3) := by decide +kernel
theorem dX12_image_51 : decode cX12_image 51 = .ok (.aload_n 0, 1) := by decide +kernel
theorem dX12_image_52 : decode cX12_image 52 = .ok (.getfield 113, 3) := by decide +kernel
theorem dX12_image_55 : decode cX12_image 55 = .ok (.aload_n 0, 1) := by decide +kernel
theorem dX12_image_56 : decode cX12_image 56 = .ok (.getfield 97, 3) := by decide +kernel
theorem dX12_image_59 : decode cX12_image 59 = .ok (.invokestatic 319, 3) := by decide +kernel
theorem dX12_image_62 : decode cX12_image 62 = .ok (.aload_n 0, 1) := by decide +kernel
theorem dX12_image_63 : decode cX12_image 63 = .ok (.getfield 119, 3) := by decide +kernel
theorem dX12_image_66 : decode cX12_image 66 = .ok (.aload_n 0, 1) := by decide +kernel
theorem dX12_image_67 : decode cX12_image 67 = .ok (.getfield 100, 3) := by decide +kernel
theorem dX12_image_70 : decode cX12_image 70 = .ok (.invokestatic 377, 3) := by decide +kernel
theorem dX12_image_73 : decode cX12_image 73 = .ok (.aload_n 0, 1) := by decide +kernel
theorem dX12_image_74 : decode cX12_image 74 = .ok (.getfield 116, 3) := by decide +kernel
theorem dX12_image_77 : decode cX12_image 77 = .ok (.aload_n 0, 1) := by decide +kernel
theorem dX12_image_78 : decode cX12_image 78 = .ok (.getfield 60, 3) := by decide +kernel
theorem dX12_image_81 : decode cX12_image 81 = .ok (.invokestatic 319, 3) := by decide +kernel
theorem dX12_image_84 : decode cX12_image 84 = .ok (.return_, 1) := by decide +kernel
theorem dX12_restore_0 : decode cX12_restore 0 = .ok (.aload_n 0, 1) := by decide +kernel
theorem dX12_restore_1 : decode cX12_restore 1 = .ok (.iconst 0, 1) := by decide +kernel
theorem dX12_restore_2 : decode cX12_restore 2 = .ok (.putfield 122, 3) := by decide +kernel
theorem dX12_restore_5 : decode cX12_restore 5 = .ok (.aload_n 0, 1) := by decide +kernel
theorem dX12_restore_6 : decode cX12_restore 6 = .ok (.getfield 239, 3) := by decide +kernel
theorem dX12_restore_9 : decode cX12_restore 9 = .ok (.ifCond .ne 5, 3) := by decide +kernel
theorem dX12_restore_12 : decode cX12_restore 12 = .ok (.iconst 0, 1) := by decide +kernel
theorem dX12_restore_13 : decode cX12_restore 13 = .ok (.ireturn, 1) := by decide +kernel
theorem dX12_restore_14 : decode cX12_restore 14 = .ok (.aload_n 0, 1) := by decide +kernel
theorem dX12_restore_15 : decode cX12_restore 15 = .ok (.aload_n 0, 1) := by decide +kernel
theorem dX12_restore_16 : decode cX12_restore 16 = .ok (.getfield 374, 3) := by decide +kernel
theorem dX12_restore_19 : decode cX12_restore 19 = .ok (.putfield 232, 3) := by decide +kernel
theorem dX12_restore_22 : decode cX12_restore 22 = .ok (.aload_n 0, 1) := by decide +kernel
theorem dX12_restore_23 : decode cX12_restore 23 = .ok (.getfield 70, 3) := by decide +kernel
theorem dX12_restore_26 : decode cX12_restore 26 = .ok (.aload_n 0, 1) := by decide +kernel
theorem dX12_restore_27 : decode cX12_restore 27 = .ok (.getfield 104, 3) := by decide +kernel
theorem dX12_restore_30 : decode cX12_restore 30 = .ok (.invokestatic 319, 3) := by decide +kernel
theorem dX12_restore_33 : decode cX12_restore 33 = .ok (.aload_n 0, 1) := by decide +kernel
theorem dX12_restore_34 : decode cX12_restore 34 = .ok (.getfield 73, 3) := by decide +kernel
theorem dX12_restore_37 : decode cX12_restore 37 = .ok (.aload_n 0, 1) := by decide +kernel
theorem dX12_restore_38 : decode cX12_restore 38 = .ok (.getfield 107, 3) := by decide +kernel
theorem dX12_restore_41 : decode cX12_restore 41 = .ok (.invokestatic 319, 3) := by decide +kernel
theorem dX12_restore_44 : decode cX12_restore 44 = .ok (.aload_n 0, 1) := by decide +kernel
theorem dX12_restore_45 : decode cX12_restore 45 = .ok (.getfield 94, 3) := by decide +kernel
theorem dX12_restore_48 : decode cX12_restore 48 = .ok (.aload_n 0, 1) := by decide +kernel
theorem dX12_restore_49 : decode cX12_restore 49 = .ok (.getfield 110, 3) := by decide +kernel
theorem dX12_restore_52 : decode cX12_restore 52 = .ok (.invokestatic 319, 3) := by decide +kernel
theorem dX12_restore_55 : decode cX12_restore 55 = .ok (.aload_n 0, 1) := by decide +kernel
theorem dX12_restore_56 : decode cX12_restore 56 = .ok (.getfield 97, 3) := by decide +kernel
theorem dX12_restore_59 : decode cX12_restore 59 = .ok (.aload_n 0, 1) := by decide +kernel
theorem dX12_restore_60 : decode cX12_restore 60 = .ok (.getfield 113, 3) := by decide +kernel
theorem dX12_restore_63 : decode cX12_restore 63 = .ok (.invokestatic 319, 3) := by decide +kernel
theorem dX12_restore_66 : decode cX12_restore 66 = .ok (.aload_n 0, 1) := by decide +kernel
theorem dX12_restore_67 : decode cX12_restore 67 = .ok (.getfield 100, 3) := by decide +kernel
theorem dX12_restore_70 : decode cX12_restore 70 = .ok (.aload_n 0, 1) := by decide +kernel
theorem dX12_restore_71 : decode cX12_restore 71 = .ok (.getfield 119, 3) := by decide +kernel
theorem dX12_restore_74 : decode cX12_restore 74 = .ok (.invokestatic 377, 3) := by decide +kernel
theorem dX12_restore_77 : decode cX12_restore 77 = .ok (.aload_n 0, 1) := by decide +kernel
theorem dX12_restore_78 : decode cX12_restore 78 = .ok (.getfield 60, 3) := by decide +kernel
theorem dX12_restore_81 : decode cX12_restore 81 = .ok (.aload_n 0, 1) := by decide +kernel
theorem dX12_restore_82 : decode cX12_restore 82 = .ok (.getfield 116, 3) := by decide +kernel
theorem dX12_restore_85 : decode cX12_restore 85 = .ok (.invokestatic 319, 3) := by decide +kernel
theorem dX12_restore_88 : decode cX12_restore 88 = .ok (.iconst 1, 1) := by decide +kernel
theorem dX12_restore_89 : decode cX12_restore 89 = .ok (.ireturn, 1) := by decide +kernel
theorem dJ6_bitCount_0f7a4_0 : decode cJ6_bitCount_0f7a4 0 = .ok (.iload_n 0, 1) := by decide +kernel
theorem dJ6_bitCount_0f7a4_1 : decode cJ6_bitCount_0f7a4 1 = .ok (.iload_n 0, 1) := by decide +kernel
theorem dJ6_bitCount_0f7a4_2 : decode cJ6_bitCount_0f7a4 2 = .ok (.iconst 1, 1) := by decide +kernel
theorem dJ6_bitCount_0f7a4_3 : decode cJ6_bitCount_0f7a4 3 = .ok (.iushr, 1) := by decide +kernel
theorem dJ6_bitCount_0f7a4_4 : decode cJ6_bitCount_0f7a4 4 = .ok (.ldc_w 265, 3) := by decide +kernel
theorem dJ6_bitCount_0f7a4_7 : decode cJ6_bitCount_0f7a4 7 = .ok (.iand, 1) := by decide +kernel
theorem dJ6_bitCount_0f7a4_8 : decode cJ6_bitCount_0f7a4 8 = .ok (.isub, 1) := by decide +kernel
theorem dJ6_bitCount_0f7a4_9 : decode cJ6_bitCount_0f7a4 9 = .ok (.istore_n 0, 1) := by decide +kernel
theorem dJ6_bitCount_0f7a4_10 : decode cJ6_bitCount_0f7a4 10 = .ok (.iload_n 0, 1) := by decide +kernel
theorem dJ6_bitCount_0f7a4_11 : decode cJ6_bitCount_0f7a4 11 = .ok (.ldc_w 266, 3) := by decide +kernel
theorem dJ6_bitCount_0f7a4_14 : decode cJ6_bitCount_0f7a4 14 = .ok (.iand, 1) := by decide +kernel
theorem dJ6_bitCount_0f7a4_15 : decode cJ6_bitCount_0f7a4 15 = .ok (.iload_n 0, 1) := by decide +kernel
theorem dJ6_bitCount_0f7a4_16 : decode cJ6_bitCount_0f7a4 16 = .ok (.iconst 2, 1) := by decide +kernel
theorem dJ6_bitCount_0f7a4_17 : decode cJ6_bitCount_0f7a4 17 = .ok (.iushr, 1) := by decide +kernel
theorem dJ6_bitCount_0f7a4_18 : decode cJ6_bitCount_0f7a4 18 = .ok (.ldc_w 266, 3) := by decide +kernel
theorem dJ6_bitCount_0f7a4_21 : decode cJ6_bitCount_0f7a4 21 = .ok (.iand, 1) := by decide +kernel
theorem dJ6_bitCount_0f7a4_22 : decode cJ6_bitCount_0f7a4 22 = .ok (.iadd, 1) := by decide +kernel
theorem dJ6_bitCount_0f7a4_23 : decode cJ6_bitCount_0f7a4 23 = .ok (.istore_n 0, 1) := by decide +kernel
theorem dJ6_bitCount_0f7a4_24 : decode cJ6_bitCount_0f7a4 24 = .ok (.iload_n 0, 1) := by decide +kernel
theorem dJ6_bitCount_0f7a4_25 : decode cJ6_bitCount_0f7a4 25 = .ok (.iload_n 0, 1) := by decide +kernel
theorem dJ6_bitCount_0f7a4_26 : decode cJ6_bitCount_0f7a4 26 = .ok (.iconst 4, 1) := by decide +kernel
theorem dJ6_bitCount_0f7a4_27 : decode cJ6_bitCount_0f7a4 27 = .ok (.iushr, 1) := by decide +kernel
theorem dJ6_bitCount_0f7a4_28 : decode cJ6_bitCount_0f7a4 28 = .ok (.iadd, 1) := by decide +kernel
theorem dJ6_bitCount_0f7a4_29 : decode cJ6_bitCount_0f7a4 29 = .ok (.ldc_w 267, 3) := by decide +kernel
theorem dJ6_bitCount_0f7a4_32 : decode cJ6_bitCount_0f7a4 32 = .ok (.iand, 1) := by decide +kernel
theorem dJ6_bitCount_0f7a4_33 : decode cJ6_bitCount_0f7a4 33 = .ok (.istore_n 0, 1) := by decide +kernel
theorem dJ6_bitCount_0f7a4_34 : decode cJ6_bitCount_0f7a4 34 = .ok (.iload_n 0, 1) := by decide +kernel
theorem dJ6_bitCount_0f7a4_35 : decode cJ6_bitCount_0f7a4 35 = .ok (.iload_n 0, 1) := by decide +kernel
theorem dJ6_bitCount_0f7a4_36 : decode cJ6_bitCount_0f7a4 36 = .ok (.bipush 8, 2) := by decide +kernel
theorem dJ6_bitCount_0f7a4_38 : decode cJ6_bitCount_0f7a4 38 = .ok (.iushr, 1) := by decide +kernel
theorem dJ6_bitCount_0f7a4_39 : decode cJ6_bitCount_0f7a4 39 = .ok (.iadd, 1) := by decide +kernel
theorem dJ6_bitCount_0f7a4_40 : decode cJ6_bitCount_0f7a4 40 = .ok (.istore_n 0, 1) := by decide +kernel
theorem dJ6_bitCount_0f7a4_41 : decode cJ6_bitCount_0f7a4 41 = .ok (.iload_n 0, 1) := by decide +kernel
theorem dJ6_bitCount_0f7a4_42 : decode cJ6_bitCount_0f7a4 42 = .ok (.iload_n 0, 1) := by decide +kernel
theorem dJ6_bitCount_0f7a4_43 : decode cJ6_bitCount_0f7a4 43 = .ok (.bipush 16, 2) := by decide +kernel
theorem dJ6_bitCount_0f7a4_45 : decode cJ6_bitCount_0f7a4 45 = .ok (.iushr, 1) := by decide +kernel
theorem dJ6_bitCount_0f7a4_46 : decode cJ6_bitCount_0f7a4 46 = .ok (.iadd, 1) := by decide +kernel
theorem dJ6_bitCount_0f7a4_47 : decode cJ6_bitCount_0f7a4 47 = .ok (.istore_n 0, 1) := by decide +kernel
theorem dJ6_bitCount_0f7a4_48 : decode cJ6_bitCount_0f7a4 48 = .ok (.iload_n 0, 1) := by decide +kernel
theorem dJ6_bitCount_0f7a4_49 : decode cJ6_bitCount_0f7a4 49 = .ok (.bipush 63, 2) := by decide +kernel
theorem dJ6_bitCount_0f7a4_51 : decode cJ6_bitCount_0f7a4 51 = .ok (.iand, 1) := by decide +kernel
theorem dJ6_bitCount_0f7a4_52 : decode cJ6_bitCount_0f7a4 52 = .ok (.ireturn, 1) := by decide +kernel
theorem dJ13_bitCount_95d88_0 : decode cJ13_bitCount_95d88 0 = .ok (.lload_n 0, 1) := by decide +kernel
theorem dJ13_bitCount_95d88_1 : decode cJ13_bitCount_95d88 1 = .ok (.lload_n 0, 1) := by decide +kernel
theorem dJ13_bitCount_95d88_2 : decode cJ13_bitCount_95d88 2 = .ok (.iconst 1, 1) := by decide +kernel
theorem dJ13_bitCount_95d88_3 : decode cJ13_bitCount_95d88 3 = .ok (.lushr, 1) := by decide +kernel
theorem dJ13_bitCount_95d88_4 : decode cJ13_bitCount_95d88 4 = .ok (.ldc2_w 314, 3) := by decide +kernel
theorem dJ13_bitCount_95d88_7 : decode cJ13_bitCount_95d88 7 = .ok (.land, 1) := by decide +kernel
theorem dJ13_bitCount_95d88_8 : decode cJ13_bitCount_95d88 8 = .ok (.lsub, 1) := by decide +kernel
theorem dJ13_bitCount_95d88_9 : decode cJ13_bitCount_95d88 9 = .ok (.lstore_n 0, 1) := by decide +kernel
theorem dJ13_bitCount_95d88_10 : decode cJ13_bitCount_95d88 10 = .ok (.lload_n 0, 1) := by decide +kernel
theorem dJ13_bitCount_95d88_11 : decode cJ13_bitCount_95d88 11 = .ok (.ldc2_w 316, 3) := by decide +kernel
theorem dJ13_bitCount_95d88_14 : decode cJ13_bitCount_95d88 14 = .ok (.land, 1) := by decide +kernel
theorem dJ13_bitCount_95d88_15 : decode cJ13_bitCount_95d88 15 = .ok (.lload_n 0, 1) := by decide +kernel
theorem dJ13_bitCount_95d88_16 : decode cJ13_bitCount_95d88 16 = .ok (.iconst 2, 1) := by decide +kernel
theorem dJ13_bitCount_95d88_17 : decode cJ13_bitCount_95d88 17 = .ok (.lushr, 1) := by decide +kernel
theorem dJ13_bitCount_95d88_18 : decode cJ13_bitCount_95d88 18 = .ok (.ldc2_w 316, 3) := by decide +kernel
theorem dJ13_bitCount_95d88_21 : decode cJ13_bitCount_95d88 21 = .ok (.land, 1) := by decide +kernel
theorem dJ13_bitCount_95d88_22 : decode cJ13_bitCount_95d88 22 = .ok (.ladd, 1) := by decide +kernel
theorem dJ13_bitCount_95d88_23 : decode cJ13_bitCount_95d88 23 = .ok (.lstore_n 0, 1) := by decide +kernel
theorem dJ13_bitCount_95d88_24 : decode cJ13_bitCount_95d88 24 = .ok (.lload_n 0, 1) := by decide +kernel
theorem dJ13_bitCount_95d88_25 : decode cJ13_bitCount_95d88 25 = .ok (.lload_n 0, 1) := by decide +kernel
theorem dJ13_bitCount_95d88_26 : decode cJ13_bitCount_95d88 26 = .ok (.iconst 4, 1) := by decide +kernel
theorem dJ13_bitCount_95d88_27 : decode cJ13_bitCount_95d88 27 = .ok (.lushr, 1) := by decide +kernel
theorem dJ13_bitCount_95d88_28 : decode cJ13_bitCount_95d88 28 = .ok (.ladd, 1) := by decide +kernel
theorem dJ13_bitCount_95d88_29 : decode cJ13_bitCount_95d88 29 = .ok (.ldc2_w 318, 3) := by decide +kernel
theorem dJ13_bitCount_95d88_32 : decode cJ13_bitCount_95d88 32 = .ok (.land, 1) := by decide +kernel
theorem dJ13_bitCount_95d88_33 : decode cJ13_bitCount_95d88 33 = .ok (.lstore_n 0, 1) := by decide +kernel
theorem dJ13_bitCount_95d88_34 : decode cJ13_bitCount_95d88 34 = .ok (.lload_n 0, 1) := by decide +kernel
theorem dJ13_bitCount_95d88_35 : decode cJ13_bitCount_95d88 35 = .ok (.lload_n 0, 1) := by decide +kernel
theorem dJ13_bitCount_95d88_36 : decode cJ13_bitCount_95d88 36 = .ok (.bipush 8, 2) := by decide +kernel
theorem dJ13_bitCount_95d88_38 : decode cJ13_bitCount_95d88 38 = .ok (.lushr, 1) := by decide +kernel
theorem dJ13_bitCount_95d88_39 : decode cJ13_bitCount_95d88 39 = .ok (.ladd, 1) := by decide +kernel
theorem dJ13_bitCount_95d88_40 : decode cJ13_bitCount_95d88 40 = .ok (.lstore_n 0, 1) := by decide +kernel
theorem dJ13_bitCount_95d88_41 : decode cJ13_bitCount_95d88 41 = .ok (.lload_n 0, 1) := by decide +kernel
theorem dJ13_bitCount_95d88_42 : decode cJ13_bitCount_95d88 42 = .ok (.lload_n 0, 1) := by decide +kernel
theorem dJ13_bitCount_95d88_43 : decode cJ13_bitCount_95d88 43 = .ok (.bipush 16, 2) := by decide +kernel
theorem dJ13_bitCount_95d88_45 : decode cJ13_bitCount_95d88 45 = .ok (.lushr, 1) := by decide +kernel
theorem dJ13_bitCount_95d88_46 : decode cJ13_bitCount_95d88 46 = .ok (.ladd, 1) := by decide +kernel
theorem dJ13_bitCount_95d88_47 : decode cJ13_bitCount_95d88 47 = .ok (.lstore_n 0, 1) := by decide +kernel
theorem dJ13_bitCount_95d88_48 : decode cJ13_bitCount_95d88 48 = .ok (.lload_n 0, 1) := by decide +kernel
theorem dJ13_bitCount_95d88_49 : decode cJ13_bitCount_95d88 49 = .ok (.lload_n 0, 1) := by decide +kernel
theorem dJ13_bitCount_95d88_50 : decode cJ13_bitCount_95d88 50 = .ok (.bipush 32, 2) := by decide +kernel
theorem dJ13_bitCount_95d88_52 : decode cJ13_bitCount_95d88 52 = .ok (.lushr, 1) := by decide +kernel
theorem dJ13_bitCount_95d88_53 : decode cJ13_bitCount_95d88 53 = .ok (.ladd, 1) := by decide +kernel
theorem dJ13_bitCount_95d88_54 : decode cJ13_bitCount_95d88 54 = .ok (.lstore_n 0, 1) := by decide +kernel
theorem dJ13_bitCount_95d88_55 : decode cJ13_bitCount_95d88 55 = .ok (.lload_n 0, 1) := by decide +kernel
theorem dJ13_bitCount_95d88_56 : decode cJ13_bitCount_95d88 56 = .ok (.l2i, 1) := by decide +kernel
theorem dJ13_bitCount_95d88_57 : decode cJ13_bitCount_95d88 57 = .ok (.bipush 127, 2) := by decide +kernel
theorem dJ13_bitCount_95d88_59 : decode cJ13_bitCount_95d88 59 = .ok (.iand, 1) := by decide +kernel
theorem dJ13_bitCount_95d88_60 : decode cJ13_bitCount_95d88 60 = .ok (.ireturn, 1) := by decide +kernel
theorem dJ9_max_7cf53_0 : decode cJ9_max_7cf53 0 = .ok (.iload_n 0, 1) := by decide +kernel
theorem dJ9_max_7cf53_1 : decode cJ9_max_7cf53 1 = .ok (.iload_n 1, 1) := by decide +kernel
theorem dJ9_max_7cf53_2 : decode cJ9_max_7cf53 2 = .ok (.if_icmp .lt 7, 3) := by decide +kernel
theorem dJ9_max_7cf53_5 : decode cJ9_max_7cf53 5 = .ok (.iload_n 0, 1) := by decide +kernel
theorem dJ9_max_7cf53_6 : decode cJ9_max_7cf53 6 = .ok (.goto 4, 3) := by decide +kernel
theorem dJ9_max_7cf53_9 : decode cJ9_max_7cf53 9 = .ok (.iload_n 1, 1) := by decide +kernel
theorem dJ9_max_7cf53_10 : decode cJ9_max_7cf53 10 = .ok (.ireturn, 1) := by decide +kernel
theorem dJ9_min_7cf53_0 : decode cJ9_min_7cf53 0 = .ok (.iload_n 0, 1) := by decide +kernel
theorem dJ9_min_7cf53_1 : decode cJ9_min_7cf53 1 = .ok (.iload_n 1, 1) := by decide +kernel
theorem dJ9_min_7cf53_2 : decode cJ9_min_7cf53 2 = .ok (.if_icmp .gt 7, 3) := by decide +kernel
theorem dJ9_min_7cf53_5 : decode cJ9_min_7cf53 5 = .ok (.iload_n 0, 1) := by decide +kernel
theorem dJ9_min_7cf53_6 : decode cJ9_min_7cf53 6 = .ok (.goto 4, 3) := by decide +kernel
theorem dJ9_min_7cf53_9 : decode cJ9_min_7cf53 9 = .ok (.iload_n 1, 1) := by decide +kernel
theorem dJ9_min_7cf53_10 : decode cJ9_min_7cf53 10 = .ok (.ireturn, 1) := by decide +kernel
theorem dJ0_length_8abf5_0 : decode cJ0_length_8abf5 0 = .ok (.aload_n 0, 1) := by decide +kernel
theorem dJ0_length_8abf5_1 : decode cJ0_length_8abf5 1 = .ok (.getfield 9, 3) := by decide +kernel
theorem dJ0_length_8abf5_4 : decode cJ0_length_8abf5 4 = .ok (.arraylength, 1) := by decide +kernel
theorem dJ0_length_8abf5_5 : decode cJ0_length_8abf5 5 = .ok (.aload_n 0, 1) := by decide +kernel
theorem dJ0_length_8abf5_6 : decode cJ0_length_8abf5 6 = .ok (.invokevirtual 335, 3) := by decide +kernel
theorem dJ0_length_8abf5_9 : decode cJ0_length_8abf5 9 = .ok (.ishr, 1) := by decide +kernel
theorem dJ0_length_8abf5_10 : decode cJ0_length_8abf5 10 = .ok (.ireturn, 1) := by decide +kernel
theorem dJ0_charAt_5068e_0 : decode cJ0_charAt_5068e 0 = .ok (.aload_n 0, 1) := by decide +kernel
theorem dJ0_charAt_5068e_1 : decode cJ0_charAt_5068e 1 = .ok (.invokevirtual 492, 3) := by decide +kernel
theorem dJ0_charAt_5068e_4 : decode cJ0_charAt_5068e 4 = .ok (.ifCond .eq 12, 3) := by decide +kernel
theorem dJ0_charAt_5068e_7 : decode cJ0_charAt_5068e 7 = .ok (.aload_n 0, 1) := by decide +kernel
theorem dJ0_charAt_5068e_8 : decode cJ0_charAt_5068e 8 = .ok (.getfield 9, 3) := by decide +kernel
theorem dJ0_charAt_5068e_11 : decode cJ0_charAt_5068e 11 = .ok (.iload_n 1, 1) := by decide +kernel
theorem dJ0_charAt_5068e_12 : decode cJ0_charAt_5068e 12 = .ok (.invokestatic 495, 3) := by decide +kernel
theorem dJ0_charAt_5068e_15 : decode cJ0_charAt_5068e 15 = .ok (.ireturn, 1) := by decide +kernel
theorem dJ0_charAt_5068e_16 : decode cJ0_charAt_5068e 16 = .ok (.aload_n 0, 1) := by decide +kernel
theorem dJ0_charAt_5068e_17 : decode cJ0_charAt_5068e 17 = .ok (.getfield 9, 3) := by decide +kernel
theorem dJ0_charAt_5068e_20 : decode cJ0_charAt_5068e 20 = .ok (.iload_n 1, 1) := by decide +kernel
theorem dJ0_charAt_5068e_21 : decode cJ0_charAt_5068e 21 = .ok (.invokestatic 498, 3) := by decide +kernel
theorem dJ0_charAt_5068e_24 : decode cJ0_charAt_5068e 24 = .ok (.ireturn, 1) := by decide +kernel
theorem dJ0_coder_7d493_0 : decode cJ0_coder_7d493 0 = .ok (.getstatic 38, 3) := by decide +kernel
theorem dJ0_coder_7d493_3 : decode cJ0_coder_7d493 3 = .ok (.ifCond .eq 10, 3) := by decide +kernel
theorem dJ0_coder_7d493_6 : decode cJ0_coder_7d493 6 = .ok (.aload_n 0, 1) := by decide +kernel
theorem dJ0_coder_7d493_7 : decode cJ0_coder_7d493 7 = .ok (.getfield 15, 3) := by decide +kernel
theorem dJ0_coder_7d493_10 : decode cJ0_coder_7d493 10 = .ok (.goto 4, 3) := by decide +kernel
theorem dJ0_coder_7d493_13 : decode cJ0_coder_7d493 13 = .ok (.iconst 1, 1) := by decide +kernel
theorem dJ0_coder_7d493_14 : decode cJ0_coder_7d493 14 = .ok (.ireturn, 1) := by decide +kernel
theorem dJ0_isLatin1_aae02_0 : decode cJ0_isLatin1_aae02 0 = .ok (.getstatic 38, 3) := by decide +kernel
theorem dJ0_isLatin1_aae02_3 : decode cJ0_isLatin1_aae02 3 = .ok (.ifCond .eq 14, 3) := by decide +kernel
theorem dJ0_isLatin1_aae02_6 : decode cJ0_isLatin1_aae02 6 = .ok (.aload_n 0, 1) := by decide +kernel
theorem dJ0_isLatin1_aae02_7 : decode cJ0_isLatin1_aae02 7 = .ok (.getfield 15, 3) := by decide +kernel
theorem dJ0_isLatin1_aae02_10 : decode cJ0_isLatin1_aae02 10 = .ok (.ifCond .ne 7, 3) := by decide +kernel
theorem dJ0_isLatin1_aae02_13 : decode cJ0_isLatin1_aae02 13 = .ok (.iconst 1, 1) := by decide +kernel
theorem dJ0_isLatin1_aae02_14 : decode cJ0_isLatin1_aae02 14 = .ok (.goto 4, 3) := by decide +kernel
theorem dJ0_isLatin1_aae02_17 : decode cJ0_isLatin1_aae02 17 = .ok (.iconst 0, 1) := by decide +kernel
theorem dJ0_isLatin1_aae02_18 : decode cJ0_isLatin1_aae02 18 = .ok (.ireturn, 1) := by decide +kernel
theorem dJ0_checkIndex_df160_0 : decode cJ0_checkIndex_df160 0 = .ok (.iload_n 0, 1) := by decide +kernel
theorem dJ0_checkIndex_df160_1 : decode cJ0_checkIndex_df160 1 = .ok (.iload_n 1, 1) := by decide +kernel
theorem dJ0_checkIndex_df160_2 : decode cJ0_checkIndex_df160 2 = .ok (.getstatic 1053, 3) := by decide +kernel
theorem dJ0_checkIndex_df160_5 : decode cJ0_checkIndex_df160 5 = .ok (.invokestatic 1059, 3) := by decide +kernel
theorem dJ0_checkIndex_df160_8 : decode cJ0_checkIndex_df160 8 = .ok (.pop, 1) := by decide +kernel
theorem dJ0_checkIndex_df160_9 : decode cJ0_checkIndex_df160 9 = .ok (.return_, 1) := by decide +kernel
theorem dJ1_charAt_3b067_0 : decode cJ1_charAt_3b067 0 = .ok (.iload_n 1, 1) := by decide +kernel
theorem dJ1_charAt_3b067_1 : decode cJ1_charAt_3b067 1 = .ok (.aload_n 0, 1) := by decide +kernel
theorem dJ1_charAt_3b067_2 : decode cJ1_charAt_3b067 2 = .ok (.arraylength, 1) := by decide +kernel
theorem dJ1_charAt_3b067_3 : decode cJ1_charAt_3b067 3 = .ok (.invokestatic 9, 3) := by decide +kernel
theorem dJ1_charAt_3b067_6 : decode cJ1_charAt_3b067 6 = .ok (.aload_n 0, 1) := by decide +kernel
theorem dJ1_charAt_3b067_7 : decode cJ1_charAt_3b067 7 = .ok (.iload_n 1, 1) := by decide +kernel
theorem dJ1_charAt_3b067_8 : decode cJ1_charAt_3b067 8 = .ok (.baload, 1) := by decide +kernel
theorem dJ1_charAt_3b067_9 : decode cJ1_charAt_3b067 9 = .ok (.sipush 255, 3) := by decide +kernel
theorem dJ1_charAt_3b067_12 : decode cJ1_charAt_3b067 12 = .ok (.iand, 1) := by decide +kernel
theorem dJ1_charAt_3b067_13 : decode cJ1_charAt_3b067 13 = .ok (.i2c, 1) := by decide +kernel
theorem dJ1_charAt_3b067_14 : decode cJ1_charAt_3b067 14 = .ok (.ireturn, 1) := by decide +kernel
theorem dJ2_getChar_3b067_0 : decode cJ2_getChar_3b067 0 = .ok (.getstatic 44, 3) := by decide +kernel
theorem dJ2_getChar_3b067_3 : decode cJ2_getChar_3b067 3 = .ok (.ifCond .ne 25, 3) := by decide +kernel
theorem dJ2_getChar_3b067_6 : decode cJ2_getChar_3b067 6 = .ok (.iload_n 1, 1) := by decide +kernel
theorem dJ2_getChar_3b067_7 : decode cJ2_getChar_3b067 7 = .ok (.ifCond .lt 11, 3) := by decide +kernel
theorem dJ2_getChar_3b067_10 : decode cJ2_getChar_3b067 10 = .ok (.iload_n 1, 1) := by decide +kernel
theorem dJ2_getChar_3b067_11 : decode cJ2_getChar_3b067 11 = .ok (.aload_n 0, 1) := by decide +kernel
theorem dJ2_getChar_3b067_12 : decode cJ2_getChar_3b067 12 = .ok (.invokestatic 48, 3) := by decide +kernel
theorem dJ2_getChar_3b067_15 : decode cJ2_getChar_3b067 15 = .ok (.if_icmp .lt 13, 3) := by decide +kernel
theorem dJ2_getChar_3b067_18 : decode cJ2_getChar_3b067 18 = .ok (.new 52, 3) := by decide +kernel
theorem dJ2_getChar_3b067_21 : decode cJ2_getChar_3b067 21 = .ok (.dup, 1) := by decide +kernel
theorem dJ2_getChar_3b067_22 : decode cJ2_getChar_3b067 22 = .ok (.ldc 54, 2) := by decide +kernel
theorem dJ2_getChar_3b067_24 : decode cJ2_getChar_3b067 24 = .ok (.invokespecial 56, 3) := by decide +kernel
theorem dJ2_getChar_3b067_27 : decode cJ2_getChar_3b067 27 = .ok (.athrow, 1) := by decide +kernel
theorem dJ2_getChar_3b067_28 : decode cJ2_getChar_3b067 28 = .ok (.iload_n 1, 1) := by decide +kernel
theorem dJ2_getChar_3b067_29 : decode cJ2_getChar_3b067 29 = .ok (.iconst 1, 1) := by decide +kernel
theorem dJ2_getChar_3b067_30 : decode cJ2_getChar_3b067 30 = .ok (.ishl, 1) := by decide +kernel
theorem dJ2_getChar_3b067_31 : decode cJ2_getChar_3b067 31 = .ok (.istore_n 1, 1) := by decide +kernel
theorem dJ2_getChar_3b067_32 : decode cJ2_getChar_3b067 32 = .ok (.aload_n 0, 1) := by decide +kernel
theorem dJ2_getChar_3b067_33 : decode cJ2_getChar_3b067 33 = .ok (.iload_n 1, 1) := by decide +kernel
theorem dJ2_getChar_3b067_34 : decode cJ2_getChar_3b067 34 = .ok (.iinc 1 1, 3) := by decide +kernel
theorem dJ2_getChar_3b067_37 : decode cJ2_getChar_3b067 37 = .ok (.baload, 1) := by decide +kernel
theorem dJ2_getChar_3b067_38 : decode cJ2_getChar_3b067 38 = .ok (.sipush 255, 3) := by decide +kernel
theorem dJ2_getChar_3b067_41 : decode cJ2_getChar_3b067 41 = .ok (.iand, 1) := by decide +kernel
theorem dJ2_getChar_3b067_42 : decode cJ2_getChar_3b067 42 = .ok (.getstatic 59, 3) := by decide +kernel
theorem dJ2_getChar_3b067_45 : decode cJ2_getChar_3b067 45 = .ok (.ishl, 1) := by decide +kernel
theorem dJ2_getChar_3b067_46 : decode cJ2_getChar_3b067 46 = .ok (.aload_n 0, 1) := by decide +kernel
theorem dJ2_getChar_3b067_47 : decode cJ2_getChar_3b067 47 = .ok (.iload_n 1, 1) := by decide +kernel
theorem dJ2_getChar_3b067_48 : decode cJ2_getChar_3b067 48 = .ok (.baload, 1) := by decide +kernel
theorem dJ2_getChar_3b067_49 : decode cJ2_getChar_3b067 49 = .ok (.sipush 255, 3) := by decide +kernel
theorem dJ2_getChar_3b067_52 : decode cJ2_getChar_3b067 52 = .ok (.iand, 1) := by decide +kernel
theorem dJ2_getChar_3b067_53 : decode cJ2_getChar_3b067 53 = .ok (.getstatic 63, 3) := by decide +kernel
theorem dJ2_getChar_3b067_56 : decode cJ2_getChar_3b067 56 = .ok (.ishl, 1) := by decide +kernel
theorem dJ2_getChar_3b067_57 : decode cJ2_getChar_3b067 57 = .ok (.ior, 1) := by decide +kernel
theorem dJ2_getChar_3b067_58 : decode cJ2_getChar_3b067 58 = .ok (.i2c, 1) := by decide +kernel
theorem dJ2_getChar_3b067_59 : decode cJ2_getChar_3b067 59 = .ok (.ireturn, 1) := by decide +kernel
theorem dJ2_length_9d52b_0 : decode cJ2_length_9d52b 0 = .ok (.aload_n 0, 1) := by decide +kernel
theorem dJ2_length_9d52b_1 : decode cJ2_length_9d52b 1 = .ok (.arraylength, 1) := by decide +kernel
theorem dJ2_length_9d52b_2 : decode cJ2_length_9d52b 2 = .ok (.iconst 1, 1) := by decide +kernel
theorem dJ2_length_9d52b_3 : decode cJ2_length_9d52b 3 = .ok (.ishr, 1) := by decide +kernel
theorem dJ2_length_9d52b_4 : decode cJ2_length_9d52b 4 = .ok (.ireturn, 1) := by decide +kernel
theorem dJ2_charAt_3b067_0 : decode cJ2_charAt_3b067 0 = .ok (.iload_n 1, 1) := by decide +kernel
theorem dJ2_charAt_3b067_1 : decode cJ2_charAt_3b067 1 = .ok (.aload_n 0, 1) := by decide +kernel
theorem dJ2_charAt_3b067_2 : decode cJ2_charAt_3b067 2 = .ok (.invokestatic 67, 3) := by decide +kernel
theorem dJ2_charAt_3b067_5 : decode cJ2_charAt_3b067 5 = .ok (.aload_n 0, 1) := by decide +kernel
theorem dJ2_charAt_3b067_6 : decode cJ2_charAt_3b067 6 = .ok (.iload_n 1, 1) := by decide +kernel
theorem dJ2_charAt_3b067_7 : decode cJ2_charAt_3b067 7 = .ok (.invokestatic 71, 3) := by decide +kernel
theorem dJ2_charAt_3b067_10 : decode cJ2_charAt_3b067 10 = .ok (.ireturn, 1) := by decide +kernel
theorem dJ2_checkIndex_2214a_0 : decode cJ2_checkIndex_2214a 0 = .ok (.iload_n 0, 1) := by decide +kernel
theorem dJ2_checkIndex_2214a_1 : decode cJ2_checkIndex_2214a 1 = .ok (.aload_n 1, 1) := by decide +kernel
theorem dJ2_checkIndex_2214a_2 : decode cJ2_checkIndex_2214a 2 = .ok (.invokestatic 48, 3) := by decide +kernel
theorem dJ2_checkIndex_2214a_5 : decode cJ2_checkIndex_2214a 5 = .ok (.invokestatic 414, 3) := by decide +kernel
theorem dJ2_checkIndex_2214a_8 : decode cJ2_checkIndex_2214a 8 = .ok (.return_, 1) := by decide +kernel
theorem dJ7_fill_53178_0 : decode cJ7_fill_53178 0 = .ok (.iconst 0, 1) := by decide +kernel
theorem dJ7_fill_53178_1 : decode cJ7_fill_53178 1 = .ok (.istore_n 2, 1) := by decide +kernel
theorem dJ7_fill_53178_2 : decode cJ7_fill_53178 2 = .ok (.aload_n 0, 1) := by decide +kernel
theorem dJ7_fill_53178_3 : decode cJ7_fill_53178 3 = .ok (.arraylength, 1) := by decide +kernel
theorem dJ7_fill_53178_4 : decode cJ7_fill_53178 4 = .ok (.istore_n 3, 1) := by decide +kernel
theorem dJ7_fill_53178_5 : decode cJ7_fill_53178 5 = .ok (.iload_n 2, 1) := by decide +kernel
theorem dJ7_fill_53178_6 : decode cJ7_fill_53178 6 = .ok (.iload_n 3, 1) := by decide +kernel
theorem dJ7_fill_53178_7 : decode cJ7_fill_53178 7 = .ok (.if_icmp .ge 13, 3) := by decide +kernel
theorem dJ7_fill_53178_10 : decode cJ7_fill_53178 10 = .ok (.aload_n 0, 1) := by decide +kernel
theorem dJ7_fill_53178_11 : decode cJ7_fill_53178 11 = .ok (.iload_n 2, 1) := by decide +kernel
theorem dJ7_fill_53178_12 : decode cJ7_fill_53178 12 = .ok (.iload_n 1, 1) := by decide +kernel
theorem dJ7_fill_53178_13 : decode cJ7_fill_53178 13 = .ok (.iastore, 1) := by decide +kernel
theorem dJ7_fill_53178_14 : decode cJ7_fill_53178 14 = .ok (.iinc 2 1, 3) := by decide +kernel
theorem dJ7_fill_53178_17 : decode cJ7_fill_53178 17 = .ok (.goto (-12), 3) := by decide +kernel
theorem dJ7_fill_53178_20 : decode cJ7_fill_53178 20 = .ok (.return_, 1) := by decide +kernel
theorem dJ3_checkIndex_8e157_0 : decode cJ3_checkIndex_8e157 0 = .ok (.iload_n 0, 1) := by decide +kernel
theorem dJ3_checkIndex_8e157_1 : decode cJ3_checkIndex_8e157 1 = .ok (.ifCond .lt 8, 3) := by decide +kernel
theorem dJ3_checkIndex_8e157_4 : decode cJ3_checkIndex_8e157 4 = .ok (.iload_n 0, 1) := by decide +kernel
theorem dJ3_checkIndex_8e157_5 : decode cJ3_checkIndex_8e157 5 = .ok (.iload_n 1, 1) := by decide +kernel
theorem dJ3_checkIndex_8e157_6 : decode cJ3_checkIndex_8e157 6 = .ok (.if_icmp .lt 10, 3) := by decide +kernel
theorem dJ3_checkIndex_8e157_9 : decode cJ3_checkIndex_8e157 9 = .ok (.aload_n 2, 1) := by decide +kernel
theorem dJ3_checkIndex_8e157_10 : decode cJ3_checkIndex_8e157 10 = .ok (.iload_n 0, 1) := by decide +kernel
theorem dJ3_checkIndex_8e157_11 : decode cJ3_checkIndex_8e157 11 = .ok (.iload_n 1, 1) := by decide +kernel
theorem dJ3_checkIndex_8e157_12 : decode cJ3_checkIndex_8e157 12 = .ok (.invokestatic 95, 3) := by decide +kernel
theorem dJ3_checkIndex_8e157_15 : decode cJ3_checkIndex_8e157 15 = .ok (.athrow, 1) := by decide +kernel
theorem dJ3_checkIndex_8e157_16 : decode cJ3_checkIndex_8e157 16 = .ok (.iload_n 0, 1) := by decide +kernel
theorem dJ3_checkIndex_8e157_17 : decode cJ3_checkIndex_8e157 17 = .ok (.ireturn, 1) := by decide +kernel
theorem dL_river_0 : decode cL_river 0 = .ok (.aload_n 2, 1) := by decide +kernel
theorem dL_river_1 : decode cL_river 1 = .ok (.iconst 0, 1) := by decide +kernel
theorem dL_river_2 : decode cL_river 2 = .ok (.aload_n 0, 1) := by decide +kernel
theorem dL_river_3 : decode cL_river 3 = .ok (.iload_n 1, 1) := by decide +kernel
theorem dL_river_4 : decode cL_river 4 = .ok (.invokevirtual 7, 3) := by decide +kernel
theorem dL_river_7 : decode cL_river 7 = .ok (.i2l, 1) := by decide +kernel
theorem dL_river_8 : decode cL_river 8 = .ok (.lastore, 1) := by decide +kernel
theorem dL_river_9 : decode cL_river 9 = .ok (.goto 6, 3) := by decide +kernel
theorem dL_river_12 : decode cL_river 12 = .ok (.astore_n 3, 1) := by decide +kernel
theorem dL_river_13 : decode cL_river 13 = .ok (.iconst 1, 1) := by decide +kernel
theorem dL_river_14 : decode cL_river 14 = .ok (.ireturn, 1) := by decide +kernel
theorem dL_river_15 : decode cL_river 15 = .ok (.iconst 0, 1) := by decide +kernel
theorem dL_river_16 : decode cL_river 16 = .ok (.ireturn, 1) := by decide +kernel
theorem dL_count_0 : decode cL_count 0 = .ok (.aload_n 2, 1) := by decide +kernel
theorem dL_count_1 : decode cL_count 1 = .ok (.iconst 0, 1) := by decide +kernel
theorem dL_count_2 : decode cL_count 2 = .ok (.aload_n 0, 1) := by decide +kernel
theorem dL_count_3 : decode cL_count 3 = .ok (.iload_n 1, 1) := by decide +kernel
theorem dL_count_4 : decode cL_count 4 = .ok (.invokevirtual 15, 3) := by decide +kernel
theorem dL_count_7 : decode cL_count 7 = .ok (.i2l, 1) := by decide +kernel
theorem dL_count_8 : decode cL_count 8 = .ok (.lastore, 1) := by decide +kernel
theorem dL_count_9 : decode cL_count 9 = .ok (.goto 6, 3) := by decide +kernel
theorem dL_count_12 : decode cL_count 12 = .ok (.astore_n 3, 1) := by decide +kernel
theorem dL_count_13 : decode cL_count 13 = .ok (.iconst 1, 1) := by decide +kernel
theorem dL_count_14 : decode cL_count 14 = .ok (.ireturn, 1) := by decide +kernel
theorem dL_count_15 : decode cL_count 15 = .ok (.iconst 0, 1) := by decide +kernel
theorem dL_count_16 : decode cL_count 16 = .ok (.ireturn, 1) := by decide +kernel
theorem dL_book_0 : decode cL_book 0 = .ok (.aload_n 3, 1) := by decide +kernel
theorem dL_book_1 : decode cL_book 1 = .ok (.iconst 0, 1) := by decide +kernel
theorem dL_book_2 : decode cL_book 2 = .ok (.aload_n 0, 1) := by decide +kernel
theorem dL_book_3 : decode cL_book 3 = .ok (.iload_n 1, 1) := by decide +kernel
theorem dL_book_4 : decode cL_book 4 = .ok (.iload_n 2, 1) := by decide +kernel
theorem dL_book_5 : decode cL_book 5 = .ok (.invokevirtual 20, 3) := by decide +kernel
theorem dL_book_8 : decode cL_book 8 = .ok (.i2l, 1) := by decide +kernel
theorem dL_book_9 : decode cL_book 9 = .ok (.lastore, 1) := by decide +kernel
theorem dL_book_10 : decode cL_book 10 = .ok (.goto 7, 3) := by decide +kernel
theorem dL_book_13 : decode cL_book 13 = .ok (.astore 4, 2) := by decide +kernel
theorem dL_book_15 : decode cL_book 15 = .ok (.iconst 1, 1) := by decide +kernel
theorem dL_book_16 : decode cL_book 16 = .ok (.ireturn, 1) := by decide +kernel
theorem dL_book_17 : decode cL_book 17 = .ok (.iconst 0, 1) := by decide +kernel
theorem dL_book_18 : decode cL_book 18 = .ok (.ireturn, 1) := by decide +kernel
theorem dL_hearing_0 : decode cL_hearing 0 = .ok (.aload_n 3, 1) := by decide +kernel
theorem dL_hearing_1 : decode cL_hearing 1 = .ok (.iconst 0, 1) := by decide +kernel
theorem dL_hearing_2 : decode cL_hearing 2 = .ok (.aload_n 0, 1) := by decide +kernel
theorem dL_hearing_3 : decode cL_hearing 3 = .ok (.iload_n 1, 1) := by decide +kernel
theorem dL_hearing_4 : decode cL_hearing 4 = .ok (.iload_n 2, 1) := by decide +kernel
theorem dL_hearing_5 : decode cL_hearing 5 = .ok (.invokevirtual 24, 3) := by decide +kernel
theorem dL_hearing_8 : decode cL_hearing 8 = .ok (.i2l, 1) := by decide +kernel
theorem dL_hearing_9 : decode cL_hearing 9 = .ok (.lastore, 1) := by decide +kernel
theorem dL_hearing_10 : decode cL_hearing 10 = .ok (.goto 7, 3) := by decide +kernel
theorem dL_hearing_13 : decode cL_hearing 13 = .ok (.astore 4, 2) := by decide +kernel
theorem dL_hearing_15 : decode cL_hearing 15 = .ok (.iconst 1, 1) := by decide +kernel
theorem dL_hearing_16 : decode cL_hearing 16 = .ok (.ireturn, 1) := by decide +kernel
theorem dL_hearing_17 : decode cL_hearing 17 = .ok (.iconst 0, 1) := by decide +kernel
theorem dL_hearing_18 : decode cL_hearing 18 = .ok (.ireturn, 1) := by decide +kernel
theorem dL_walker_0 : decode cL_walker 0 = .ok (.aload_n 3, 1) := by decide +kernel
theorem dL_walker_1 : decode cL_walker 1 = .ok (.iconst 0, 1) := by decide +kernel
theorem dL_walker_2 : decode cL_walker 2 = .ok (.aload_n 0, 1) := by decide +kernel
theorem dL_walker_3 : decode cL_walker 3 = .ok (.iload_n 1, 1) := by decide +kernel
theorem dL_walker_4 : decode cL_walker 4 = .ok (.iload_n 2, 1) := by decide +kernel
theorem dL_walker_5 : decode cL_walker 5 = .ok (.invokevirtual 27, 3) := by decide +kernel
theorem dL_walker_8 : decode cL_walker 8 = .ok (.i2l, 1) := by decide +kernel
theorem dL_walker_9 : decode cL_walker 9 = .ok (.lastore, 1) := by decide +kernel
theorem dL_walker_10 : decode cL_walker 10 = .ok (.goto 7, 3) := by decide +kernel
theorem dL_walker_13 : decode cL_walker 13 = .ok (.astore 4, 2) := by decide +kernel
theorem dL_walker_15 : decode cL_walker 15 = .ok (.iconst 1, 1) := by decide +kernel
theorem dL_walker_16 : decode cL_walker 16 = .ok (.ireturn, 1) := by decide +kernel
theorem dL_walker_17 : decode cL_walker 17 = .ok (.iconst 0, 1) := by decide +kernel
theorem dL_walker_18 : decode cL_walker 18 = .ok (.ireturn, 1) := by decide +kernel
theorem dL_up_0 : decode cL_up 0 = .ok (.aload_n 3, 1) := by decide +kernel
theorem dL_up_1 : decode cL_up 1 = .ok (.iconst 0, 1) := by decide +kernel
theorem dL_up_2 : decode cL_up 2 = .ok (.aload_n 0, 1) := by decide +kernel
theorem dL_up_3 : decode cL_up 3 = .ok (.iload_n 1, 1) := by decide +kernel
theorem dL_up_4 : decode cL_up 4 = .ok (.iload_n 2, 1) := by decide +kernel
theorem dL_up_5 : decode cL_up 5 = .ok (.invokevirtual 30, 3) := by decide +kernel
theorem dL_up_8 : decode cL_up 8 = .ok (.i2l, 1) := by decide +kernel
theorem dL_up_9 : decode cL_up 9 = .ok (.lastore, 1) := by decide +kernel
theorem dL_up_10 : decode cL_up 10 = .ok (.goto 7, 3) := by decide +kernel
theorem dL_up_13 : decode cL_up 13 = .ok (.astore 4, 2) := by decide +kernel
theorem dL_up_15 : decode cL_up 15 = .ok (.iconst 1, 1) := by decide +kernel
theorem dL_up_16 : decode cL_up 16 = .ok (.ireturn, 1) := by decide +kernel
theorem dL_up_17 : decode cL_up 17 = .ok (.iconst 0, 1) := by decide +kernel
theorem dL_up_18 : decode cL_up 18 = .ok (.ireturn, 1) := by decide +kernel
theorem dL_planks_0 : decode cL_planks 0 = .ok (.aload_n 3, 1) := by decide +kernel
theorem dL_planks_1 : decode cL_planks 1 = .ok (.iconst 0, 1) := by decide +kernel
theorem dL_planks_2 : decode cL_planks 2 = .ok (.aload_n 0, 1) := by decide +kernel
theorem dL_planks_3 : decode cL_planks 3 = .ok (.iload_n 1, 1) := by decide +kernel
theorem dL_planks_4 : decode cL_planks 4 = .ok (.iload_n 2, 1) := by decide +kernel
theorem dL_planks_5 : decode cL_planks 5 = .ok (.invokevirtual 33, 3) := by decide +kernel
theorem dL_planks_8 : decode cL_planks 8 = .ok (.i2l, 1) := by decide +kernel
theorem dL_planks_9 : decode cL_planks 9 = .ok (.lastore, 1) := by decide +kernel
theorem dL_planks_10 : decode cL_planks 10 = .ok (.goto 7, 3) := by decide +kernel
theorem dL_planks_13 : decode cL_planks 13 = .ok (.astore 4, 2) := by decide +kernel
theorem dL_planks_15 : decode cL_planks 15 = .ok (.iconst 1, 1) := by decide +kernel
theorem dL_planks_16 : decode cL_planks 16 = .ok (.ireturn, 1) := by decide +kernel
theorem dL_planks_17 : decode cL_planks 17 = .ok (.iconst 0, 1) := by decide +kernel
theorem dL_planks_18 : decode cL_planks 18 = .ok (.ireturn, 1) := by decide +kernel
theorem dL_crosses_0 : decode cL_crosses 0 = .ok (.aload_n 3, 1) := by decide +kernel
theorem dL_crosses_1 : decode cL_crosses 1 = .ok (.iconst 0, 1) := by decide +kernel
theorem dL_crosses_2 : decode cL_crosses 2 = .ok (.aload_n 0, 1) := by decide +kernel
theorem dL_crosses_3 : decode cL_crosses 3 = .ok (.iload_n 1, 1) := by decide +kernel
theorem dL_crosses_4 : decode cL_crosses 4 = .ok (.iload_n 2, 1) := by decide +kernel
theorem dL_crosses_5 : decode cL_crosses 5 = .ok (.invokevirtual 36, 3) := by decide +kernel
theorem dL_crosses_8 : decode cL_crosses 8 = .ok (.i2l, 1) := by decide +kernel
theorem dL_crosses_9 : decode cL_crosses 9 = .ok (.lastore, 1) := by decide +kernel
theorem dL_crosses_10 : decode cL_crosses 10 = .ok (.goto 7, 3) := by decide +kernel
theorem dL_crosses_13 : decode cL_crosses 13 = .ok (.astore 4, 2) := by decide +kernel
theorem dL_crosses_15 : decode cL_crosses 15 = .ok (.iconst 1, 1) := by decide +kernel
theorem dL_crosses_16 : decode cL_crosses 16 = .ok (.ireturn, 1) := by decide +kernel
theorem dL_crosses_17 : decode cL_crosses 17 = .ok (.iconst 0, 1) := by decide +kernel
theorem dL_crosses_18 : decode cL_crosses 18 = .ok (.ireturn, 1) := by decide +kernel
theorem dL_bar_0 : decode cL_bar 0 = .ok (.aload_n 3, 1) := by decide +kernel
theorem dL_bar_1 : decode cL_bar 1 = .ok (.iconst 0, 1) := by decide +kernel
theorem dL_bar_2 : decode cL_bar 2 = .ok (.aload_n 0, 1) := by decide +kernel
theorem dL_bar_3 : decode cL_bar 3 = .ok (.iload_n 1, 1) := by decide +kernel
theorem dL_bar_4 : decode cL_bar 4 = .ok (.iload_n 2, 1) := by decide +kernel
theorem dL_bar_5 : decode cL_bar 5 = .ok (.invokevirtual 39, 3) := by decide +kernel
theorem dL_bar_8 : decode cL_bar 8 = .ok (.i2l, 1) := by decide +kernel
theorem dL_bar_9 : decode cL_bar 9 = .ok (.lastore, 1) := by decide +kernel
theorem dL_bar_10 : decode cL_bar 10 = .ok (.goto 7, 3) := by decide +kernel
theorem dL_bar_13 : decode cL_bar 13 = .ok (.astore 4, 2) := by decide +kernel
theorem dL_bar_15 : decode cL_bar 15 = .ok (.iconst 1, 1) := by decide +kernel
theorem dL_bar_16 : decode cL_bar 16 = .ok (.ireturn, 1) := by decide +kernel
theorem dL_bar_17 : decode cL_bar 17 = .ok (.iconst 0, 1) := by decide +kernel
theorem dL_bar_18 : decode cL_bar 18 = .ok (.ireturn, 1) := by decide +kernel
theorem dL_over_0 : decode cL_over 0 = .ok (.aload_n 2, 1) := by decide +kernel
theorem dL_over_1 : decode cL_over 1 = .ok (.iconst 0, 1) := by decide +kernel
theorem dL_over_2 : decode cL_over 2 = .ok (.aload_n 0, 1) := by decide +kernel
theorem dL_over_3 : decode cL_over 3 = .ok (.iload_n 1, 1) := by decide +kernel
theorem dL_over_4 : decode cL_over 4 = .ok (.invokevirtual 42, 3) := by decide +kernel
theorem dL_over_7 : decode cL_over 7 = .ok (.i2l, 1) := by decide +kernel
theorem dL_over_8 : decode cL_over 8 = .ok (.lastore, 1) := by decide +kernel
theorem dL_over_9 : decode cL_over 9 = .ok (.goto 6, 3) := by decide +kernel
theorem dL_over_12 : decode cL_over 12 = .ok (.astore_n 3, 1) := by decide +kernel
theorem dL_over_13 : decode cL_over 13 = .ok (.iconst 1, 1) := by decide +kernel
theorem dL_over_14 : decode cL_over 14 = .ok (.ireturn, 1) := by decide +kernel
theorem dL_over_15 : decode cL_over 15 = .ok (.iconst 0, 1) := by decide +kernel
theorem dL_over_16 : decode cL_over 16 = .ok (.ireturn, 1) := by decide +kernel
theorem dL_best_0 : decode cL_best 0 = .ok (.aload_n 2, 1) := by decide +kernel
theorem dL_best_1 : decode cL_best 1 = .ok (.iconst 0, 1) := by decide +kernel
theorem dL_best_2 : decode cL_best 2 = .ok (.aload_n 0, 1) := by decide +kernel
theorem dL_best_3 : decode cL_best 3 = .ok (.iload_n 1, 1) := by decide +kernel
theorem dL_best_4 : decode cL_best 4 = .ok (.invokevirtual 45, 3) := by decide +kernel
theorem dL_best_7 : decode cL_best 7 = .ok (.i2l, 1) := by decide +kernel
theorem dL_best_8 : decode cL_best 8 = .ok (.lastore, 1) := by decide +kernel
theorem dL_best_9 : decode cL_best 9 = .ok (.goto 6, 3) := by decide +kernel
theorem dL_best_12 : decode cL_best 12 = .ok (.astore_n 3, 1) := by decide +kernel
theorem dL_best_13 : decode cL_best 13 = .ok (.iconst 1, 1) := by decide +kernel
theorem dL_best_14 : decode cL_best 14 = .ok (.ireturn, 1) := by decide +kernel
theorem dL_best_15 : decode cL_best 15 = .ok (.iconst 0, 1) := by decide +kernel
theorem dL_best_16 : decode cL_best 16 = .ok (.ireturn, 1) := by decide +kernel
theorem dL_lays_0 : decode cL_lays 0 = .ok (.aload_n 2, 1) := by decide +kernel
theorem dL_lays_1 : decode cL_lays 1 = .ok (.iconst 0, 1) := by decide +kernel
theorem dL_lays_2 : decode cL_lays 2 = .ok (.aload_n 0, 1) := by decide +kernel
theorem dL_lays_3 : decode cL_lays 3 = .ok (.iload_n 1, 1) := by decide +kernel
theorem dL_lays_4 : decode cL_lays 4 = .ok (.invokevirtual 48, 3) := by decide +kernel
theorem dL_lays_7 : decode cL_lays 7 = .ok (.lastore, 1) := by decide +kernel
theorem dL_lays_8 : decode cL_lays 8 = .ok (.goto 6, 3) := by decide +kernel
theorem dL_lays_11 : decode cL_lays 11 = .ok (.astore_n 3, 1) := by decide +kernel
theorem dL_lays_12 : decode cL_lays 12 = .ok (.iconst 1, 1) := by decide +kernel
theorem dL_lays_13 : decode cL_lays 13 = .ok (.ireturn, 1) := by decide +kernel
theorem dL_lays_14 : decode cL_lays 14 = .ok (.iconst 0, 1) := by decide +kernel
theorem dL_lays_15 : decode cL_lays 15 = .ok (.ireturn, 1) := by decide +kernel
theorem dL_suit_0 : decode cL_suit 0 = .ok (.aload_n 3, 1) := by decide +kernel
theorem dL_suit_1 : decode cL_suit 1 = .ok (.iconst 0, 1) := by decide +kernel
theorem dL_suit_2 : decode cL_suit 2 = .ok (.aload_n 0, 1) := by decide +kernel
theorem dL_suit_3 : decode cL_suit 3 = .ok (.iload_n 1, 1) := by decide +kernel
theorem dL_suit_4 : decode cL_suit 4 = .ok (.iload_n 2, 1) := by decide +kernel
theorem dL_suit_5 : decode cL_suit 5 = .ok (.invokevirtual 52, 3) := by decide +kernel
theorem dL_suit_8 : decode cL_suit 8 = .ok (.i2l, 1) := by decide +kernel
theorem dL_suit_9 : decode cL_suit 9 = .ok (.lastore, 1) := by decide +kernel
theorem dL_suit_10 : decode cL_suit 10 = .ok (.goto 7, 3) := by decide +kernel
theorem dL_suit_13 : decode cL_suit 13 = .ok (.astore 4, 2) := by decide +kernel
theorem dL_suit_15 : decode cL_suit 15 = .ok (.iconst 1, 1) := by decide +kernel
theorem dL_suit_16 : decode cL_suit 16 = .ok (.ireturn, 1) := by decide +kernel
theorem dL_suit_17 : decode cL_suit 17 = .ok (.iconst 0, 1) := by decide +kernel
theorem dL_suit_18 : decode cL_suit 18 = .ok (.ireturn, 1) := by decide +kernel
theorem dL_settled_0 : decode cL_settled 0 = .ok (.aload_n 3, 1) := by decide +kernel
theorem dL_settled_1 : decode cL_settled 1 = .ok (.iconst 0, 1) := by decide +kernel
theorem dL_settled_2 : decode cL_settled 2 = .ok (.aload_n 0, 1) := by decide +kernel
theorem dL_settled_3 : decode cL_settled 3 = .ok (.iload_n 1, 1) := by decide +kernel
theorem dL_settled_4 : decode cL_settled 4 = .ok (.iload_n 2, 1) := by decide +kernel
theorem dL_settled_5 : decode cL_settled 5 = .ok (.invokevirtual 55, 3) := by decide +kernel
theorem dL_settled_8 : decode cL_settled 8 = .ok (.i2l, 1) := by decide +kernel
theorem dL_settled_9 : decode cL_settled 9 = .ok (.lastore, 1) := by decide +kernel
theorem dL_settled_10 : decode cL_settled 10 = .ok (.goto 7, 3) := by decide +kernel
theorem dL_settled_13 : decode cL_settled 13 = .ok (.astore 4, 2) := by decide +kernel
theorem dL_settled_15 : decode cL_settled 15 = .ok (.iconst 1, 1) := by decide +kernel
theorem dL_settled_16 : decode cL_settled 16 = .ok (.ireturn, 1) := by decide +kernel
theorem dL_settled_17 : decode cL_settled 17 = .ok (.iconst 0, 1) := by decide +kernel
theorem dL_settled_18 : decode cL_settled 18 = .ok (.ireturn, 1) := by decide +kernel
theorem dL_feud_0 : decode cL_feud 0 = .ok (.aload 5, 2) := by decide +kernel
theorem dL_feud_2 : decode cL_feud 2 = .ok (.iconst 0, 1) := by decide +kernel
theorem dL_feud_3 : decode cL_feud 3 = .ok (.aload_n 0, 1) := by decide +kernel
theorem dL_feud_4 : decode cL_feud 4 = .ok (.iload_n 1, 1) := by decide +kernel
theorem dL_feud_5 : decode cL_feud 5 = .ok (.iload_n 2, 1) := by decide +kernel
theorem dL_feud_6 : decode cL_feud 6 = .ok (.iload_n 3, 1) := by decide +kernel
theorem dL_feud_7 : decode cL_feud 7 = .ok (.iload 4, 2) := by decide +kernel
theorem dL_feud_9 : decode cL_feud 9 = .ok (.invokevirtual 58, 3) := by decide +kernel
theorem dL_feud_12 : decode cL_feud 12 = .ok (.i2l, 1) := by decide +kernel
theorem dL_feud_13 : decode cL_feud 13 = .ok (.lastore, 1) := by decide +kernel
theorem dL_feud_14 : decode cL_feud 14 = .ok (.goto 11, 3) := by decide +kernel
theorem dL_feud_17 : decode cL_feud 17 = .ok (.astore 6, 2) := by decide +kernel
theorem dL_feud_19 : decode cL_feud 19 = .ok (.iconst 1, 1) := by decide +kernel
theorem dL_feud_20 : decode cL_feud 20 = .ok (.ireturn, 1) := by decide +kernel
theorem dL_feud_21 : decode cL_feud 21 = .ok (.astore 6, 2) := by decide +kernel
theorem dL_feud_23 : decode cL_feud 23 = .ok (.iconst 2, 1) := by decide +kernel
theorem dL_feud_24 : decode cL_feud 24 = .ok (.ireturn, 1) := by decide +kernel
theorem dL_feud_25 : decode cL_feud 25 = .ok (.iconst 0, 1) := by decide +kernel
theorem dL_feud_26 : decode cL_feud 26 = .ok (.ireturn, 1) := by decide +kernel
theorem dL_see_0 : decode cL_see 0 = .ok (.aload 4, 2) := by decide +kernel
theorem dL_see_2 : decode cL_see 2 = .ok (.iconst 0, 1) := by decide +kernel
theorem dL_see_3 : decode cL_see 3 = .ok (.aload_n 0, 1) := by decide +kernel
theorem dL_see_4 : decode cL_see 4 = .ok (.iload_n 1, 1) := by decide +kernel
theorem dL_see_5 : decode cL_see 5 = .ok (.iload_n 2, 1) := by decide +kernel
theorem dL_see_6 : decode cL_see 6 = .ok (.iload_n 3, 1) := by decide +kernel
theorem dL_see_7 : decode cL_see 7 = .ok (.invokevirtual 62, 3) := by decide +kernel
theorem dL_see_10 : decode cL_see 10 = .ok (.i2l, 1) := by decide +kernel
theorem dL_see_11 : decode cL_see 11 = .ok (.lastore, 1) := by decide +kernel
theorem dL_see_12 : decode cL_see 12 = .ok (.goto 7, 3) := by decide +kernel
theorem dL_see_15 : decode cL_see 15 = .ok (.astore 5, 2) := by decide +kernel
theorem dL_see_17 : decode cL_see 17 = .ok (.iconst 1, 1) := by decide +kernel
theorem dL_see_18 : decode cL_see 18 = .ok (.ireturn, 1) := by decide +kernel
theorem dL_see_19 : decode cL_see 19 = .ok (.iconst 0, 1) := by decide +kernel
theorem dL_see_20 : decode cL_see 20 = .ok (.ireturn, 1) := by decide +kernel
theorem dL_heard_0 : decode cL_heard 0 = .ok (.aload_n 3, 1) := by decide +kernel
theorem dL_heard_1 : decode cL_heard 1 = .ok (.iconst 0, 1) := by decide +kernel
theorem dL_heard_2 : decode cL_heard 2 = .ok (.aload_n 0, 1) := by decide +kernel
theorem dL_heard_3 : decode cL_heard 3 = .ok (.iload_n 1, 1) := by decide +kernel
theorem dL_heard_4 : decode cL_heard 4 = .ok (.iload_n 2, 1) := by decide +kernel
theorem dL_heard_5 : decode cL_heard 5 = .ok (.invokevirtual 66, 3) := by decide +kernel
theorem dL_heard_8 : decode cL_heard 8 = .ok (.i2l, 1) := by decide +kernel
theorem dL_heard_9 : decode cL_heard 9 = .ok (.lastore, 1) := by decide +kernel
theorem dL_heard_10 : decode cL_heard 10 = .ok (.goto 7, 3) := by decide +kernel
theorem dL_heard_13 : decode cL_heard 13 = .ok (.astore 4, 2) := by decide +kernel
theorem dL_heard_15 : decode cL_heard 15 = .ok (.iconst 1, 1) := by decide +kernel
theorem dL_heard_16 : decode cL_heard 16 = .ok (.ireturn, 1) := by decide +kernel
theorem dL_heard_17 : decode cL_heard 17 = .ok (.iconst 0, 1) := by decide +kernel
theorem dL_heard_18 : decode cL_heard 18 = .ok (.ireturn, 1) := by decide +kernel
theorem dL_first_0 : decode cL_first 0 = .ok (.aload_n 1, 1) := by decide +kernel
theorem dL_first_1 : decode cL_first 1 = .ok (.iconst 0, 1) := by decide +kernel
theorem dL_first_2 : decode cL_first 2 = .ok (.aload_n 0, 1) := by decide +kernel
theorem dL_first_3 : decode cL_first 3 = .ok (.invokevirtual 70, 3) := by decide +kernel
theorem dL_first_6 : decode cL_first 6 = .ok (.i2l, 1) := by decide +kernel
theorem dL_first_7 : decode cL_first 7 = .ok (.lastore, 1) := by decide +kernel
theorem dL_first_8 : decode cL_first 8 = .ok (.goto 6, 3) := by decide +kernel
theorem dL_first_11 : decode cL_first 11 = .ok (.astore_n 2, 1) := by decide +kernel
theorem dL_first_12 : decode cL_first 12 = .ok (.iconst 1, 1) := by decide +kernel
theorem dL_first_13 : decode cL_first 13 = .ok (.ireturn, 1) := by decide +kernel
theorem dL_first_14 : decode cL_first 14 = .ok (.iconst 0, 1) := by decide +kernel
theorem dL_first_15 : decode cL_first 15 = .ok (.ireturn, 1) := by decide +kernel
theorem dL_terms_0 : decode cL_terms 0 = .ok (.aload 4, 2) := by decide +kernel
theorem dL_terms_2 : decode cL_terms 2 = .ok (.iconst 0, 1) := by decide +kernel
theorem dL_terms_3 : decode cL_terms 3 = .ok (.aload_n 0, 1) := by decide +kernel
theorem dL_terms_4 : decode cL_terms 4 = .ok (.iload_n 1, 1) := by decide +kernel
theorem dL_terms_5 : decode cL_terms 5 = .ok (.iload_n 2, 1) := by decide +kernel
theorem dL_terms_6 : decode cL_terms 6 = .ok (.iload_n 3, 1) := by decide +kernel
theorem dL_terms_7 : decode cL_terms 7 = .ok (.invokevirtual 74, 3) := by decide +kernel
theorem dL_terms_10 : decode cL_terms 10 = .ok (.i2l, 1) := by decide +kernel
theorem dL_terms_11 : decode cL_terms 11 = .ok (.lastore, 1) := by decide +kernel
theorem dL_terms_12 : decode cL_terms 12 = .ok (.goto 11, 3) := by decide +kernel
theorem dL_terms_15 : decode cL_terms 15 = .ok (.astore 5, 2) := by decide +kernel
theorem dL_terms_17 : decode cL_terms 17 = .ok (.iconst 1, 1) := by decide +kernel
theorem dL_terms_18 : decode cL_terms 18 = .ok (.ireturn, 1) := by decide +kernel
theorem dL_terms_19 : decode cL_terms 19 = .ok (.astore 5, 2) := by decide +kernel
theorem dL_terms_21 : decode cL_terms 21 = .ok (.iconst 2, 1) := by decide +kernel
theorem dL_terms_22 : decode cL_terms 22 = .ok (.ireturn, 1) := by decide +kernel
theorem dL_terms_23 : decode cL_terms 23 = .ok (.iconst 0, 1) := by decide +kernel
theorem dL_terms_24 : decode cL_terms 24 = .ok (.ireturn, 1) := by decide +kernel
theorem dL_law_0 : decode cL_law 0 = .ok (.new 8, 3) := by decide +kernel
theorem dL_law_3 : decode cL_law 3 = .ok (.dup, 1) := by decide +kernel
theorem dL_law_4 : decode cL_law 4 = .ok (.invokespecial 78, 3) := by decide +kernel
theorem dL_law_7 : decode cL_law 7 = .ok (.astore_n 1, 1) := by decide +kernel
theorem dL_law_8 : decode cL_law 8 = .ok (.new 79, 3) := by decide +kernel
theorem dL_law_11 : decode cL_law 11 = .ok (.dup, 1) := by decide +kernel
theorem dL_law_12 : decode cL_law 12 = .ok (.invokespecial 81, 3) := by decide +kernel
theorem dL_law_15 : decode cL_law 15 = .ok (.astore_n 2, 1) := by decide +kernel
theorem dL_law_16 : decode cL_law 16 = .ok (.iconst 1, 1) := by decide +kernel
theorem dL_law_17 : decode cL_law 17 = .ok (.newarray .long, 2) := by decide +kernel
theorem dL_law_19 : decode cL_law 19 = .ok (.astore_n 3, 1) := by decide +kernel
theorem dL_law_20 : decode cL_law 20 = .ok (.iconst 0, 1) := by decide +kernel
theorem dL_law_21 : decode cL_law 21 = .ok (.istore 4, 2) := by decide +kernel
theorem dL_law_23 : decode cL_law 23 = .ok (.iload 4, 2) := by decide +kernel
theorem dL_law_25 : decode cL_law 25 = .ok (.aload_n 0, 1) := by decide +kernel
theorem dL_law_26 : decode cL_law 26 = .ok (.arraylength, 1) := by decide +kernel
theorem dL_law_27 : decode cL_law 27 = .ok (.bipush 6, 2) := by decide +kernel
theorem dL_law_29 : decode cL_law 29 = .ok (.isub, 1) := by decide +kernel
theorem dL_law_30 : decode cL_law 30 = .ok (.if_icmp .gt 1645, 3) := by decide +kernel
theorem dL_law_33 : decode cL_law 33 = .ok (.aload_n 0, 1) := by decide +kernel
theorem dL_law_34 : decode cL_law 34 = .ok (.iload 4, 2) := by decide +kernel
theorem dL_law_36 : decode cL_law 36 = .ok (.iaload, 1) := by decide +kernel
theorem dL_law_37 : decode cL_law 37 = .ok (.bipush 31, 2) := by decide +kernel
theorem dL_law_39 : decode cL_law 39 = .ok (.iand, 1) := by decide +kernel
theorem dL_law_40 : decode cL_law 40 = .ok (.tableswitch 1629 0 26 #[124, 197, 253, 266, 322, 390, 458, 526, 551, 608, 676, 744, 812, 880, 936, 992, 1047, 1115, 1183, 1275, 1371, 1384, 1397, 1481, 1525, 1605, 1616], 124) := by decide +kernel
theorem dL_law_164 : decode cL_law 164 = .ok (.aload_n 1, 1) := by decide +kernel
theorem dL_law_165 : decode cL_law 165 = .ok (.aload_n 0, 1) := by decide +kernel
theorem dL_law_166 : decode cL_law 166 = .ok (.iload 4, 2) := by decide +kernel
theorem dL_law_168 : decode cL_law 168 = .ok (.iconst 1, 1) := by decide +kernel
theorem dL_law_169 : decode cL_law 169 = .ok (.iadd, 1) := by decide +kernel
theorem dL_law_170 : decode cL_law 170 = .ok (.iaload, 1) := by decide +kernel
theorem dL_law_171 : decode cL_law 171 = .ok (.aload_n 0, 1) := by decide +kernel
theorem dL_law_172 : decode cL_law 172 = .ok (.iload 4, 2) := by decide +kernel
theorem dL_law_174 : decode cL_law 174 = .ok (.iconst 2, 1) := by decide +kernel
theorem dL_law_175 : decode cL_law 175 = .ok (.iadd, 1) := by decide +kernel
theorem dL_law_176 : decode cL_law 176 = .ok (.iaload, 1) := by decide +kernel
theorem dL_law_177 : decode cL_law 177 = .ok (.aload_n 0, 1) := by decide +kernel
theorem dL_law_178 : decode cL_law 178 = .ok (.iload 4, 2) := by decide +kernel
theorem dL_law_180 : decode cL_law 180 = .ok (.iconst 3, 1) := by decide +kernel
theorem dL_law_181 : decode cL_law 181 = .ok (.iadd, 1) := by decide +kernel
theorem dL_law_182 : decode cL_law 182 = .ok (.iaload, 1) := by decide +kernel
theorem dL_law_183 : decode cL_law 183 = .ok (.aload_n 0, 1) := by decide +kernel
theorem dL_law_184 : decode cL_law 184 = .ok (.iload 4, 2) := by decide +kernel
theorem dL_law_186 : decode cL_law 186 = .ok (.iconst 4, 1) := by decide +kernel
theorem dL_law_187 : decode cL_law 187 = .ok (.iadd, 1) := by decide +kernel
theorem dL_law_188 : decode cL_law 188 = .ok (.iaload, 1) := by decide +kernel
theorem dL_law_189 : decode cL_law 189 = .ok (.aload_n 0, 1) := by decide +kernel
theorem dL_law_190 : decode cL_law 190 = .ok (.iload 4, 2) := by decide +kernel
theorem dL_law_192 : decode cL_law 192 = .ok (.iconst 5, 1) := by decide +kernel
theorem dL_law_193 : decode cL_law 193 = .ok (.iadd, 1) := by decide +kernel
theorem dL_law_194 : decode cL_law 194 = .ok (.iaload, 1) := by decide +kernel
theorem dL_law_195 : decode cL_law 195 = .ok (.invokevirtual 82, 3) := by decide +kernel
theorem dL_law_198 : decode cL_law 198 = .ok (.aload_n 2, 1) := by decide +kernel
theorem dL_law_199 : decode cL_law 199 = .ok (.aload_n 0, 1) := by decide +kernel
theorem dL_law_200 : decode cL_law 200 = .ok (.iload 4, 2) := by decide +kernel
theorem dL_law_202 : decode cL_law 202 = .ok (.iconst 1, 1) := by decide +kernel
theorem dL_law_203 : decode cL_law 203 = .ok (.iadd, 1) := by decide +kernel
theorem dL_law_204 : decode cL_law 204 = .ok (.iaload, 1) := by decide +kernel
theorem dL_law_205 : decode cL_law 205 = .ok (.aload_n 0, 1) := by decide +kernel
theorem dL_law_206 : decode cL_law 206 = .ok (.iload 4, 2) := by decide +kernel
theorem dL_law_208 : decode cL_law 208 = .ok (.iconst 2, 1) := by decide +kernel
theorem dL_law_209 : decode cL_law 209 = .ok (.iadd, 1) := by decide +kernel
theorem dL_law_210 : decode cL_law 210 = .ok (.iaload, 1) := by decide +kernel
theorem dL_law_211 : decode cL_law 211 = .ok (.aload_n 0, 1) := by decide +kernel
theorem dL_law_212 : decode cL_law 212 = .ok (.iload 4, 2) := by decide +kernel
theorem dL_law_214 : decode cL_law 214 = .ok (.iconst 3, 1) := by decide +kernel
theorem dL_law_215 : decode cL_law 215 = .ok (.iadd, 1) := by decide +kernel
theorem dL_law_216 : decode cL_law 216 = .ok (.iaload, 1) := by decide +kernel
theorem dL_law_217 : decode cL_law 217 = .ok (.aload_n 0, 1) := by decide +kernel
theorem dL_law_218 : decode cL_law 218 = .ok (.iload 4, 2) := by decide +kernel
theorem dL_law_220 : decode cL_law 220 = .ok (.iconst 4, 1) := by decide +kernel
theorem dL_law_221 : decode cL_law 221 = .ok (.iadd, 1) := by decide +kernel
theorem dL_law_222 : decode cL_law 222 = .ok (.iaload, 1) := by decide +kernel
theorem dL_law_223 : decode cL_law 223 = .ok (.aload_n 0, 1) := by decide +kernel
theorem dL_law_224 : decode cL_law 224 = .ok (.iload 4, 2) := by decide +kernel
theorem dL_law_226 : decode cL_law 226 = .ok (.iconst 5, 1) := by decide +kernel
theorem dL_law_227 : decode cL_law 227 = .ok (.iadd, 1) := by decide +kernel
theorem dL_law_228 : decode cL_law 228 = .ok (.iaload, 1) := by decide +kernel
theorem dL_law_229 : decode cL_law 229 = .ok (.invokevirtual 86, 3) := by decide +kernel
theorem dL_law_232 : decode cL_law 232 = .ok (.if_icmp .eq 1437, 3) := by decide +kernel
theorem dL_law_235 : decode cL_law 235 = .ok (.iconst 0, 1) := by decide +kernel
theorem dL_law_236 : decode cL_law 236 = .ok (.ireturn, 1) := by decide +kernel
theorem dL_law_237 : decode cL_law 237 = .ok (.aload_n 1, 1) := by decide +kernel
theorem dL_law_238 : decode cL_law 238 = .ok (.aload_n 0, 1) := by decide +kernel
theorem dL_law_239 : decode cL_law 239 = .ok (.iload 4, 2) := by decide +kernel
theorem dL_law_241 : decode cL_law 241 = .ok (.iconst 1, 1) := by decide +kernel
theorem dL_law_242 : decode cL_law 242 = .ok (.iadd, 1) := by decide +kernel
theorem dL_law_243 : decode cL_law 243 = .ok (.iaload, 1) := by decide +kernel
theorem dL_law_244 : decode cL_law 244 = .ok (.aload_n 3, 1) := by decide +kernel
theorem dL_law_245 : decode cL_law 245 = .ok (.invokestatic 87, 3) := by decide +kernel
theorem dL_law_248 : decode cL_law 248 = .ok (.istore 5, 2) := by decide +kernel
theorem dL_law_250 : decode cL_law 250 = .ok (.aload_n 2, 1) := by decide +kernel
theorem dL_law_251 : decode cL_law 251 = .ok (.aload_n 0, 1) := by decide +kernel
theorem dL_law_252 : decode cL_law 252 = .ok (.iload 4, 2) := by decide +kernel
theorem dL_law_254 : decode cL_law 254 = .ok (.iconst 1, 1) := by decide +kernel
theorem dL_law_255 : decode cL_law 255 = .ok (.iadd, 1) := by decide +kernel
theorem dL_law_256 : decode cL_law 256 = .ok (.iaload, 1) := by decide +kernel
theorem dL_law_257 : decode cL_law 257 = .ok (.invokevirtual 92, 3) := by decide +kernel
theorem dL_law_260 : decode cL_law 260 = .ok (.istore 6, 2) := by decide +kernel
theorem dL_law_262 : decode cL_law 262 = .ok (.aload_n 2, 1) := by decide +kernel
theorem dL_law_263 : decode cL_law 263 = .ok (.invokevirtual 93, 3) := by decide +kernel
theorem dL_law_266 : decode cL_law 266 = .ok (.iload 5, 2) := by decide +kernel
theorem dL_law_268 : decode cL_law 268 = .ok (.if_icmp .eq 5, 3) := by decide +kernel
theorem dL_law_271 : decode cL_law 271 = .ok (.iconst 0, 1) := by decide +kernel
theorem dL_law_272 : decode cL_law 272 = .ok (.ireturn, 1) := by decide +kernel
theorem dL_law_273 : decode cL_law 273 = .ok (.iload 5, 2) := by decide +kernel
theorem dL_law_275 : decode cL_law 275 = .ok (.ifCond .ne 15, 3) := by decide +kernel
theorem dL_law_278 : decode cL_law 278 = .ok (.aload_n 3, 1) := by decide +kernel
theorem dL_law_279 : decode cL_law 279 = .ok (.iconst 0, 1) := by decide +kernel
theorem dL_law_280 : decode cL_law 280 = .ok (.laload, 1) := by decide +kernel
theorem dL_law_281 : decode cL_law 281 = .ok (.iload 6, 2) := by decide +kernel
theorem dL_law_283 : decode cL_law 283 = .ok (.i2l, 1) := by decide +kernel
theorem dL_law_284 : decode cL_law 284 = .ok (.lcmp, 1) := by decide +kernel
theorem dL_law_285 : decode cL_law 285 = .ok (.ifCond .eq 5, 3) := by decide +kernel
theorem dL_law_288 : decode cL_law 288 = .ok (.iconst 0, 1) := by decide +kernel
theorem dL_law_289 : decode cL_law 289 = .ok (.ireturn, 1) := by decide +kernel
theorem dL_law_290 : decode cL_law 290 = .ok (.goto 1379, 3) := by decide +kernel
theorem dL_law_293 : decode cL_law 293 = .ok (.aload_n 1, 1) := by decide +kernel
theorem dL_law_294 : decode cL_law 294 = .ok (.invokevirtual 96, 3) := by decide +kernel
theorem dL_law_297 : decode cL_law 297 = .ok (.aload_n 2, 1) := by decide +kernel
theorem dL_law_298 : decode cL_law 298 = .ok (.invokevirtual 99, 3) := by decide +kernel
theorem dL_law_301 : decode cL_law 301 = .ok (.if_icmp .eq 1368, 3) := by decide +kernel
theorem dL_law_304 : decode cL_law 304 = .ok (.iconst 0, 1) := by decide +kernel
theorem dL_law_305 : decode cL_law 305 = .ok (.ireturn, 1) := by decide +kernel
theorem dL_law_306 : decode cL_law 306 = .ok (.aload_n 1, 1) := by decide +kernel
theorem dL_law_307 : decode cL_law 307 = .ok (.aload_n 0, 1) := by decide +kernel
theorem dL_law_308 : decode cL_law 308 = .ok (.iload 4, 2) := by decide +kernel
theorem dL_law_310 : decode cL_law 310 = .ok (.iconst 1, 1) := by decide +kernel
theorem dL_law_311 : decode cL_law 311 = .ok (.iadd, 1) := by decide +kernel
theorem dL_law_312 : decode cL_law 312 = .ok (.iaload, 1) := by decide +kernel
theorem dL_law_313 : decode cL_law 313 = .ok (.aload_n 3, 1) := by decide +kernel
theorem dL_law_314 : decode cL_law 314 = .ok (.invokestatic 100, 3) := by decide +kernel
theorem dL_law_317 : decode cL_law 317 = .ok (.istore 5, 2) := by decide +kernel
theorem dL_law_319 : decode cL_law 319 = .ok (.aload_n 2, 1) := by decide +kernel
theorem dL_law_320 : decode cL_law 320 = .ok (.aload_n 0, 1) := by decide +kernel
theorem dL_law_321 : decode cL_law 321 = .ok (.iload 4, 2) := by decide +kernel
theorem dL_law_323 : decode cL_law 323 = .ok (.iconst 1, 1) := by decide +kernel
theorem dL_law_324 : decode cL_law 324 = .ok (.iadd, 1) := by decide +kernel
theorem dL_law_325 : decode cL_law 325 = .ok (.iaload, 1) := by decide +kernel
theorem dL_law_326 : decode cL_law 326 = .ok (.invokevirtual 102, 3) := by decide +kernel
theorem dL_law_329 : decode cL_law 329 = .ok (.istore 6, 2) := by decide +kernel
theorem dL_law_331 : decode cL_law 331 = .ok (.aload_n 2, 1) := by decide +kernel
theorem dL_law_332 : decode cL_law 332 = .ok (.invokevirtual 93, 3) := by decide +kernel
theorem dL_law_335 : decode cL_law 335 = .ok (.iload 5, 2) := by decide +kernel
theorem dL_law_337 : decode cL_law 337 = .ok (.if_icmp .eq 5, 3) := by decide +kernel
theorem dL_law_340 : decode cL_law 340 = .ok (.iconst 0, 1) := by decide +kernel
theorem dL_law_341 : decode cL_law 341 = .ok (.ireturn, 1) := by decide +kernel
theorem dL_law_342 : decode cL_law 342 = .ok (.iload 5, 2) := by decide +kernel
theorem dL_law_344 : decode cL_law 344 = .ok (.ifCond .ne 15, 3) := by decide +kernel
theorem dL_law_347 : decode cL_law 347 = .ok (.aload_n 3, 1) := by decide +kernel
theorem dL_law_348 : decode cL_law 348 = .ok (.iconst 0, 1) := by decide +kernel
theorem dL_law_349 : decode cL_law 349 = .ok (.laload, 1) := by decide +kernel
theorem dL_law_350 : decode cL_law 350 = .ok (.iload 6, 2) := by decide +kernel
theorem dL_law_352 : decode cL_law 352 = .ok (.i2l, 1) := by decide +kernel
theorem dL_law_353 : decode cL_law 353 = .ok (.lcmp, 1) := by decide +kernel
theorem dL_law_354 : decode cL_law 354 = .ok (.ifCond .eq 5, 3) := by decide +kernel
theorem dL_law_357 : decode cL_law 357 = .ok (.iconst 0, 1) := by decide +kernel
theorem dL_law_358 : decode cL_law 358 = .ok (.ireturn, 1) := by decide +kernel
theorem dL_law_359 : decode cL_law 359 = .ok (.goto 1310, 3) := by decide +kernel
theorem dL_law_362 : decode cL_law 362 = .ok (.aload_n 1, 1) := by decide +kernel
theorem dL_law_363 : decode cL_law 363 = .ok (.aload_n 0, 1) := by decide +kernel
theorem dL_law_364 : decode cL_law 364 = .ok (.iload 4, 2) := by decide +kernel
theorem dL_law_366 : decode cL_law 366 = .ok (.iconst 1, 1) := by decide +kernel
theorem dL_law_367 : decode cL_law 367 = .ok (.iadd, 1) := by decide +kernel
theorem dL_law_368 : decode cL_law 368 = .ok (.iaload, 1) := by decide +kernel
theorem dL_law_369 : decode cL_law 369 = .ok (.aload_n 0, 1) := by decide +kernel
theorem dL_law_370 : decode cL_law 370 = .ok (.iload 4, 2) := by decide +kernel
theorem dL_law_372 : decode cL_law 372 = .ok (.iconst 2, 1) := by decide +kernel
theorem dL_law_373 : decode cL_law 373 = .ok (.iadd, 1) := by decide +kernel
theorem dL_law_374 : decode cL_law 374 = .ok (.iaload, 1) := by decide +kernel
theorem dL_law_375 : decode cL_law 375 = .ok (.aload_n 3, 1) := by decide +kernel
theorem dL_law_376 : decode cL_law 376 = .ok (.invokestatic 103, 3) := by decide +kernel
theorem dL_law_379 : decode cL_law 379 = .ok (.istore 5, 2) := by decide +kernel
theorem dL_law_381 : decode cL_law 381 = .ok (.aload_n 2, 1) := by decide +kernel
theorem dL_law_382 : decode cL_law 382 = .ok (.aload_n 0, 1) := by decide +kernel
theorem dL_law_383 : decode cL_law 383 = .ok (.iload 4, 2) := by decide +kernel
theorem dL_law_385 : decode cL_law 385 = .ok (.iconst 1, 1) := by decide +kernel
theorem dL_law_386 : decode cL_law 386 = .ok (.iadd, 1) := by decide +kernel
theorem dL_law_387 : decode cL_law 387 = .ok (.iaload, 1) := by decide +kernel
theorem dL_law_388 : decode cL_law 388 = .ok (.aload_n 0, 1) := by decide +kernel
theorem dL_law_389 : decode cL_law 389 = .ok (.iload 4, 2) := by decide +kernel
theorem dL_law_391 : decode cL_law 391 = .ok (.iconst 2, 1) := by decide +kernel
theorem dL_law_392 : decode cL_law 392 = .ok (.iadd, 1) := by decide +kernel
theorem dL_law_393 : decode cL_law 393 = .ok (.iaload, 1) := by decide +kernel
theorem dL_law_394 : decode cL_law 394 = .ok (.invokevirtual 106, 3) := by decide +kernel
theorem dL_law_397 : decode cL_law 397 = .ok (.istore 6, 2) := by decide +kernel
theorem dL_law_399 : decode cL_law 399 = .ok (.aload_n 2, 1) := by decide +kernel
theorem dL_law_400 : decode cL_law 400 = .ok (.invokevirtual 93, 3) := by decide +kernel
theorem dL_law_403 : decode cL_law 403 = .ok (.iload 5, 2) := by decide +kernel
theorem dL_law_405 : decode cL_law 405 = .ok (.if_icmp .eq 5, 3) := by decide +kernel
theorem dL_law_408 : decode cL_law 408 = .ok (.iconst 0, 1) := by decide +kernel
theorem dL_law_409 : decode cL_law 409 = .ok (.ireturn, 1) := by decide +kernel
theorem dL_law_410 : decode cL_law 410 = .ok (.iload 5, 2) := by decide +kernel
theorem dL_law_412 : decode cL_law 412 = .ok (.ifCond .ne 15, 3) := by decide +kernel
theorem dL_law_415 : decode cL_law 415 = .ok (.aload_n 3, 1) := by decide +kernel
theorem dL_law_416 : decode cL_law 416 = .ok (.iconst 0, 1) := by decide +kernel
theorem dL_law_417 : decode cL_law 417 = .ok (.laload, 1) := by decide +kernel
theorem dL_law_418 : decode cL_law 418 = .ok (.iload 6, 2) := by decide +kernel
theorem dL_law_420 : decode cL_law 420 = .ok (.i2l, 1) := by decide +kernel
theorem dL_law_421 : decode cL_law 421 = .ok (.lcmp, 1) := by decide +kernel
theorem dL_law_422 : decode cL_law 422 = .ok (.ifCond .eq 5, 3) := by decide +kernel
theorem dL_law_425 : decode cL_law 425 = .ok (.iconst 0, 1) := by decide +kernel
theorem dL_law_426 : decode cL_law 426 = .ok (.ireturn, 1) := by decide +kernel
theorem dL_law_427 : decode cL_law 427 = .ok (.goto 1242, 3) := by decide +kernel
theorem dL_law_430 : decode cL_law 430 = .ok (.aload_n 1, 1) := by decide +kernel
theorem dL_law_431 : decode cL_law 431 = .ok (.aload_n 0, 1) := by decide +kernel
theorem dL_law_432 : decode cL_law 432 = .ok (.iload 4, 2) := by decide +kernel
theorem dL_law_434 : decode cL_law 434 = .ok (.iconst 1, 1) := by decide +kernel
theorem dL_law_435 : decode cL_law 435 = .ok (.iadd, 1) := by decide +kernel
theorem dL_law_436 : decode cL_law 436 = .ok (.iaload, 1) := by decide +kernel
theorem dL_law_437 : decode cL_law 437 = .ok (.aload_n 0, 1) := by decide +kernel
theorem dL_law_438 : decode cL_law 438 = .ok (.iload 4, 2) := by decide +kernel
theorem dL_law_440 : decode cL_law 440 = .ok (.iconst 2, 1) := by decide +kernel
theorem dL_law_441 : decode cL_law 441 = .ok (.iadd, 1) := by decide +kernel
theorem dL_law_442 : decode cL_law 442 = .ok (.iaload, 1) := by decide +kernel
theorem dL_law_443 : decode cL_law 443 = .ok (.aload_n 3, 1) := by decide +kernel
theorem dL_law_444 : decode cL_law 444 = .ok (.invokestatic 107, 3) := by decide +kernel
theorem dL_law_447 : decode cL_law 447 = .ok (.istore 5, 2) := by decide +kernel
theorem dL_law_449 : decode cL_law 449 = .ok (.aload_n 2, 1) := by decide +kernel
theorem dL_law_450 : decode cL_law 450 = .ok (.aload_n 0, 1) := by decide +kernel
theorem dL_law_451 : decode cL_law 451 = .ok (.iload 4, 2) := by decide +kernel
theorem dL_law_453 : decode cL_law 453 = .ok (.iconst 1, 1) := by decide +kernel
theorem dL_law_454 : decode cL_law 454 = .ok (.iadd, 1) := by decide +kernel
theorem dL_law_455 : decode cL_law 455 = .ok (.iaload, 1) := by decide +kernel
theorem dL_law_456 : decode cL_law 456 = .ok (.aload_n 0, 1) := by decide +kernel
theorem dL_law_457 : decode cL_law 457 = .ok (.iload 4, 2) := by decide +kernel
theorem dL_law_459 : decode cL_law 459 = .ok (.iconst 2, 1) := by decide +kernel
theorem dL_law_460 : decode cL_law 460 = .ok (.iadd, 1) := by decide +kernel
theorem dL_law_461 : decode cL_law 461 = .ok (.iaload, 1) := by decide +kernel
theorem dL_law_462 : decode cL_law 462 = .ok (.invokevirtual 109, 3) := by decide +kernel
theorem dL_law_465 : decode cL_law 465 = .ok (.istore 6, 2) := by decide +kernel
theorem dL_law_467 : decode cL_law 467 = .ok (.aload_n 2, 1) := by decide +kernel
theorem dL_law_468 : decode cL_law 468 = .ok (.invokevirtual 93, 3) := by decide +kernel
theorem dL_law_471 : decode cL_law 471 = .ok (.iload 5, 2) := by decide +kernel
theorem dL_law_473 : decode cL_law 473 = .ok (.if_icmp .eq 5, 3) := by decide +kernel
theorem dL_law_476 : decode cL_law 476 = .ok (.iconst 0, 1) := by decide +kernel
theorem dL_law_477 : decode cL_law 477 = .ok (.ireturn, 1) := by decide +kernel
theorem dL_law_478 : decode cL_law 478 = .ok (.iload 5, 2) := by decide +kernel
theorem dL_law_480 : decode cL_law 480 = .ok (.ifCond .ne 15, 3) := by decide +kernel
theorem dL_law_483 : decode cL_law 483 = .ok (.aload_n 3, 1) := by decide +kernel
theorem dL_law_484 : decode cL_law 484 = .ok (.iconst 0, 1) := by decide +kernel
theorem dL_law_485 : decode cL_law 485 = .ok (.laload, 1) := by decide +kernel
theorem dL_law_486 : decode cL_law 486 = .ok (.iload 6, 2) := by decide +kernel
theorem dL_law_488 : decode cL_law 488 = .ok (.i2l, 1) := by decide +kernel
theorem dL_law_489 : decode cL_law 489 = .ok (.lcmp, 1) := by decide +kernel
theorem dL_law_490 : decode cL_law 490 = .ok (.ifCond .eq 5, 3) := by decide +kernel
theorem dL_law_493 : decode cL_law 493 = .ok (.iconst 0, 1) := by decide +kernel
theorem dL_law_494 : decode cL_law 494 = .ok (.ireturn, 1) := by decide +kernel
theorem dL_law_495 : decode cL_law 495 = .ok (.goto 1174, 3) := by decide +kernel
theorem dL_law_498 : decode cL_law 498 = .ok (.aload_n 1, 1) := by decide +kernel
theorem dL_law_499 : decode cL_law 499 = .ok (.aload_n 0, 1) := by decide +kernel
theorem dL_law_500 : decode cL_law 500 = .ok (.iload 4, 2) := by decide +kernel
theorem dL_law_502 : decode cL_law 502 = .ok (.iconst 1, 1) := by decide +kernel
theorem dL_law_503 : decode cL_law 503 = .ok (.iadd, 1) := by decide +kernel
theorem dL_law_504 : decode cL_law 504 = .ok (.iaload, 1) := by decide +kernel
theorem dL_law_505 : decode cL_law 505 = .ok (.aload_n 0, 1) := by decide +kernel
theorem dL_law_506 : decode cL_law 506 = .ok (.iload 4, 2) := by decide +kernel
theorem dL_law_508 : decode cL_law 508 = .ok (.iconst 2, 1) := by decide +kernel
theorem dL_law_509 : decode cL_law 509 = .ok (.iadd, 1) := by decide +kernel
theorem dL_law_510 : decode cL_law 510 = .ok (.iaload, 1) := by decide +kernel
theorem dL_law_511 : decode cL_law 511 = .ok (.aload_n 3, 1) := by decide +kernel
theorem dL_law_512 : decode cL_law 512 = .ok (.invokestatic 110, 3) := by decide +kernel
theorem dL_law_515 : decode cL_law 515 = .ok (.istore 5, 2) := by decide +kernel
theorem dL_law_517 : decode cL_law 517 = .ok (.aload_n 2, 1) := by decide +kernel
theorem dL_law_518 : decode cL_law 518 = .ok (.aload_n 0, 1) := by decide +kernel
theorem dL_law_519 : decode cL_law 519 = .ok (.iload 4, 2) := by decide +kernel
theorem dL_law_521 : decode cL_law 521 = .ok (.iconst 1, 1) := by decide +kernel
theorem dL_law_522 : decode cL_law 522 = .ok (.iadd, 1) := by decide +kernel
theorem dL_law_523 : decode cL_law 523 = .ok (.iaload, 1) := by decide +kernel
theorem dL_law_524 : decode cL_law 524 = .ok (.aload_n 0, 1) := by decide +kernel
theorem dL_law_525 : decode cL_law 525 = .ok (.iload 4, 2) := by decide +kernel
theorem dL_law_527 : decode cL_law 527 = .ok (.iconst 2, 1) := by decide +kernel
theorem dL_law_528 : decode cL_law 528 = .ok (.iadd, 1) := by decide +kernel
theorem dL_law_529 : decode cL_law 529 = .ok (.iaload, 1) := by decide +kernel
theorem dL_law_530 : decode cL_law 530 = .ok (.invokevirtual 112, 3) := by decide +kernel
theorem dL_law_533 : decode cL_law 533 = .ok (.istore 6, 2) := by decide +kernel
theorem dL_law_535 : decode cL_law 535 = .ok (.aload_n 2, 1) := by decide +kernel
theorem dL_law_536 : decode cL_law 536 = .ok (.invokevirtual 93, 3) := by decide +kernel
theorem dL_law_539 : decode cL_law 539 = .ok (.iload 5, 2) := by decide +kernel
theorem dL_law_541 : decode cL_law 541 = .ok (.if_icmp .eq 5, 3) := by decide +kernel
theorem dL_law_544 : decode cL_law 544 = .ok (.iconst 0, 1) := by decide +kernel
theorem dL_law_545 : decode cL_law 545 = .ok (.ireturn, 1) := by decide +kernel
theorem dL_law_546 : decode cL_law 546 = .ok (.iload 5, 2) := by decide +kernel
theorem dL_law_548 : decode cL_law 548 = .ok (.ifCond .ne 15, 3) := by decide +kernel
theorem dL_law_551 : decode cL_law 551 = .ok (.aload_n 3, 1) := by decide +kernel
theorem dL_law_552 : decode cL_law 552 = .ok (.iconst 0, 1) := by decide +kernel
theorem dL_law_553 : decode cL_law 553 = .ok (.laload, 1) := by decide +kernel
theorem dL_law_554 : decode cL_law 554 = .ok (.iload 6, 2) := by decide +kernel
theorem dL_law_556 : decode cL_law 556 = .ok (.i2l, 1) := by decide +kernel
theorem dL_law_557 : decode cL_law 557 = .ok (.lcmp, 1) := by decide +kernel
theorem dL_law_558 : decode cL_law 558 = .ok (.ifCond .eq 5, 3) := by decide +kernel
theorem dL_law_561 : decode cL_law 561 = .ok (.iconst 0, 1) := by decide +kernel
theorem dL_law_562 : decode cL_law 562 = .ok (.ireturn, 1) := by decide +kernel
theorem dL_law_563 : decode cL_law 563 = .ok (.goto 1106, 3) := by decide +kernel
theorem dL_law_566 : decode cL_law 566 = .ok (.aload_n 1, 1) := by decide +kernel
theorem dL_law_567 : decode cL_law 567 = .ok (.aload_n 0, 1) := by decide +kernel
theorem dL_law_568 : decode cL_law 568 = .ok (.iload 4, 2) := by decide +kernel
theorem dL_law_570 : decode cL_law 570 = .ok (.iconst 1, 1) := by decide +kernel
theorem dL_law_571 : decode cL_law 571 = .ok (.iadd, 1) := by decide +kernel
theorem dL_law_572 : decode cL_law 572 = .ok (.iaload, 1) := by decide +kernel
theorem dL_law_573 : decode cL_law 573 = .ok (.invokevirtual 113, 3) := by decide +kernel
theorem dL_law_576 : decode cL_law 576 = .ok (.aload_n 2, 1) := by decide +kernel
theorem dL_law_577 : decode cL_law 577 = .ok (.aload_n 0, 1) := by decide +kernel
theorem dL_law_578 : decode cL_law 578 = .ok (.iload 4, 2) := by decide +kernel
theorem dL_law_580 : decode cL_law 580 = .ok (.iconst 1, 1) := by decide +kernel
theorem dL_law_581 : decode cL_law 581 = .ok (.iadd, 1) := by decide +kernel
theorem dL_law_582 : decode cL_law 582 = .ok (.iaload, 1) := by decide +kernel
theorem dL_law_583 : decode cL_law 583 = .ok (.invokevirtual 117, 3) := by decide +kernel
theorem dL_law_586 : decode cL_law 586 = .ok (.if_icmp .eq 1083, 3) := by decide +kernel
theorem dL_law_589 : decode cL_law 589 = .ok (.iconst 0, 1) := by decide +kernel
theorem dL_law_590 : decode cL_law 590 = .ok (.ireturn, 1) := by decide +kernel
theorem dL_law_591 : decode cL_law 591 = .ok (.aload_n 1, 1) := by decide +kernel
theorem dL_law_592 : decode cL_law 592 = .ok (.aload_n 0, 1) := by decide +kernel
theorem dL_law_593 : decode cL_law 593 = .ok (.iload 4, 2) := by decide +kernel
theorem dL_law_595 : decode cL_law 595 = .ok (.iconst 1, 1) := by decide +kernel
theorem dL_law_596 : decode cL_law 596 = .ok (.iadd, 1) := by decide +kernel
theorem dL_law_597 : decode cL_law 597 = .ok (.iaload, 1) := by decide +kernel
theorem dL_law_598 : decode cL_law 598 = .ok (.i2l, 1) := by decide +kernel
theorem dL_law_599 : decode cL_law 599 = .ok (.bipush 32, 2) := by decide +kernel
theorem dL_law_601 : decode cL_law 601 = .ok (.lshl, 1) := by decide +kernel
theorem dL_law_602 : decode cL_law 602 = .ok (.aload_n 0, 1) := by decide +kernel
theorem dL_law_603 : decode cL_law 603 = .ok (.iload 4, 2) := by decide +kernel
theorem dL_law_605 : decode cL_law 605 = .ok (.iconst 2, 1) := by decide +kernel
theorem dL_law_606 : decode cL_law 606 = .ok (.iadd, 1) := by decide +kernel
theorem dL_law_607 : decode cL_law 607 = .ok (.iaload, 1) := by decide +kernel
theorem dL_law_608 : decode cL_law 608 = .ok (.i2l, 1) := by decide +kernel
theorem dL_law_609 : decode cL_law 609 = .ok (.ldc2_w 118, 3) := by decide +kernel
theorem dL_law_612 : decode cL_law 612 = .ok (.land, 1) := by decide +kernel
theorem dL_law_613 : decode cL_law 613 = .ok (.lor, 1) := by decide +kernel
theorem dL_law_614 : decode cL_law 614 = .ok (.invokevirtual 120, 3) := by decide +kernel
theorem dL_law_617 : decode cL_law 617 = .ok (.aload_n 2, 1) := by decide +kernel
theorem dL_law_618 : decode cL_law 618 = .ok (.aload_n 0, 1) := by decide +kernel
theorem dL_law_619 : decode cL_law 619 = .ok (.iload 4, 2) := by decide +kernel
theorem dL_law_621 : decode cL_law 621 = .ok (.iconst 1, 1) := by decide +kernel
theorem dL_law_622 : decode cL_law 622 = .ok (.iadd, 1) := by decide +kernel
theorem dL_law_623 : decode cL_law 623 = .ok (.iaload, 1) := by decide +kernel
theorem dL_law_624 : decode cL_law 624 = .ok (.i2l, 1) := by decide +kernel
theorem dL_law_625 : decode cL_law 625 = .ok (.bipush 32, 2) := by decide +kernel
theorem dL_law_627 : decode cL_law 627 = .ok (.lshl, 1) := by decide +kernel
theorem dL_law_628 : decode cL_law 628 = .ok (.aload_n 0, 1) := by decide +kernel
theorem dL_law_629 : decode cL_law 629 = .ok (.iload 4, 2) := by decide +kernel
theorem dL_law_631 : decode cL_law 631 = .ok (.iconst 2, 1) := by decide +kernel
theorem dL_law_632 : decode cL_law 632 = .ok (.iadd, 1) := by decide +kernel
theorem dL_law_633 : decode cL_law 633 = .ok (.iaload, 1) := by decide +kernel
theorem dL_law_634 : decode cL_law 634 = .ok (.i2l, 1) := by decide +kernel
theorem dL_law_635 : decode cL_law 635 = .ok (.ldc2_w 118, 3) := by decide +kernel
theorem dL_law_638 : decode cL_law 638 = .ok (.land, 1) := by decide +kernel
theorem dL_law_639 : decode cL_law 639 = .ok (.lor, 1) := by decide +kernel
theorem dL_law_640 : decode cL_law 640 = .ok (.invokevirtual 124, 3) := by decide +kernel
theorem dL_law_643 : decode cL_law 643 = .ok (.if_icmp .eq 1026, 3) := by decide +kernel
theorem dL_law_646 : decode cL_law 646 = .ok (.iconst 0, 1) := by decide +kernel
theorem dL_law_647 : decode cL_law 647 = .ok (.ireturn, 1) := by decide +kernel
theorem dL_law_648 : decode cL_law 648 = .ok (.aload_n 1, 1) := by decide +kernel
theorem dL_law_649 : decode cL_law 649 = .ok (.aload_n 0, 1) := by decide +kernel
theorem dL_law_650 : decode cL_law 650 = .ok (.iload 4, 2) := by decide +kernel
theorem dL_law_652 : decode cL_law 652 = .ok (.iconst 1, 1) := by decide +kernel
theorem dL_law_653 : decode cL_law 653 = .ok (.iadd, 1) := by decide +kernel
theorem dL_law_654 : decode cL_law 654 = .ok (.iaload, 1) := by decide +kernel
theorem dL_law_655 : decode cL_law 655 = .ok (.aload_n 0, 1) := by decide +kernel
theorem dL_law_656 : decode cL_law 656 = .ok (.iload 4, 2) := by decide +kernel
theorem dL_law_658 : decode cL_law 658 = .ok (.iconst 2, 1) := by decide +kernel
theorem dL_law_659 : decode cL_law 659 = .ok (.iadd, 1) := by decide +kernel
theorem dL_law_660 : decode cL_law 660 = .ok (.iaload, 1) := by decide +kernel
theorem dL_law_661 : decode cL_law 661 = .ok (.aload_n 3, 1) := by decide +kernel
theorem dL_law_662 : decode cL_law 662 = .ok (.invokestatic 125, 3) := by decide +kernel
theorem dL_law_665 : decode cL_law 665 = .ok (.istore 5, 2) := by decide +kernel
theorem dL_law_667 : decode cL_law 667 = .ok (.aload_n 2, 1) := by decide +kernel
theorem dL_law_668 : decode cL_law 668 = .ok (.aload_n 0, 1) := by decide +kernel
theorem dL_law_669 : decode cL_law 669 = .ok (.iload 4, 2) := by decide +kernel
theorem dL_law_671 : decode cL_law 671 = .ok (.iconst 1, 1) := by decide +kernel
theorem dL_law_672 : decode cL_law 672 = .ok (.iadd, 1) := by decide +kernel
theorem dL_law_673 : decode cL_law 673 = .ok (.iaload, 1) := by decide +kernel
theorem dL_law_674 : decode cL_law 674 = .ok (.aload_n 0, 1) := by decide +kernel
theorem dL_law_675 : decode cL_law 675 = .ok (.iload 4, 2) := by decide +kernel
theorem dL_law_677 : decode cL_law 677 = .ok (.iconst 2, 1) := by decide +kernel
theorem dL_law_678 : decode cL_law 678 = .ok (.iadd, 1) := by decide +kernel
theorem dL_law_679 : decode cL_law 679 = .ok (.iaload, 1) := by decide +kernel
theorem dL_law_680 : decode cL_law 680 = .ok (.invokevirtual 127, 3) := by decide +kernel
theorem dL_law_683 : decode cL_law 683 = .ok (.istore 6, 2) := by decide +kernel
theorem dL_law_685 : decode cL_law 685 = .ok (.aload_n 2, 1) := by decide +kernel
theorem dL_law_686 : decode cL_law 686 = .ok (.invokevirtual 93, 3) := by decide +kernel
theorem dL_law_689 : decode cL_law 689 = .ok (.iload 5, 2) := by decide +kernel
theorem dL_law_691 : decode cL_law 691 = .ok (.if_icmp .eq 5, 3) := by decide +kernel
theorem dL_law_694 : decode cL_law 694 = .ok (.iconst 0, 1) := by decide +kernel
theorem dL_law_695 : decode cL_law 695 = .ok (.ireturn, 1) := by decide +kernel
theorem dL_law_696 : decode cL_law 696 = .ok (.iload 5, 2) := by decide +kernel
theorem dL_law_698 : decode cL_law 698 = .ok (.ifCond .ne 15, 3) := by decide +kernel
theorem dL_law_701 : decode cL_law 701 = .ok (.aload_n 3, 1) := by decide +kernel
theorem dL_law_702 : decode cL_law 702 = .ok (.iconst 0, 1) := by decide +kernel
theorem dL_law_703 : decode cL_law 703 = .ok (.laload, 1) := by decide +kernel
theorem dL_law_704 : decode cL_law 704 = .ok (.iload 6, 2) := by decide +kernel
theorem dL_law_706 : decode cL_law 706 = .ok (.i2l, 1) := by decide +kernel
theorem dL_law_707 : decode cL_law 707 = .ok (.lcmp, 1) := by decide +kernel
theorem dL_law_708 : decode cL_law 708 = .ok (.ifCond .eq 5, 3) := by decide +kernel
theorem dL_law_711 : decode cL_law 711 = .ok (.iconst 0, 1) := by decide +kernel
theorem dL_law_712 : decode cL_law 712 = .ok (.ireturn, 1) := by decide +kernel
theorem dL_law_713 : decode cL_law 713 = .ok (.goto 956, 3) := by decide +kernel
theorem dL_law_716 : decode cL_law 716 = .ok (.aload_n 1, 1) := by decide +kernel
theorem dL_law_717 : decode cL_law 717 = .ok (.aload_n 0, 1) := by decide +kernel
theorem dL_law_718 : decode cL_law 718 = .ok (.iload 4, 2) := by decide +kernel
theorem dL_law_720 : decode cL_law 720 = .ok (.iconst 1, 1) := by decide +kernel
theorem dL_law_721 : decode cL_law 721 = .ok (.iadd, 1) := by decide +kernel
theorem dL_law_722 : decode cL_law 722 = .ok (.iaload, 1) := by decide +kernel
theorem dL_law_723 : decode cL_law 723 = .ok (.aload_n 0, 1) := by decide +kernel
theorem dL_law_724 : decode cL_law 724 = .ok (.iload 4, 2) := by decide +kernel
theorem dL_law_726 : decode cL_law 726 = .ok (.iconst 2, 1) := by decide +kernel
theorem dL_law_727 : decode cL_law 727 = .ok (.iadd, 1) := by decide +kernel
theorem dL_law_728 : decode cL_law 728 = .ok (.iaload, 1) := by decide +kernel
theorem dL_law_729 : decode cL_law 729 = .ok (.aload_n 3, 1) := by decide +kernel
theorem dL_law_730 : decode cL_law 730 = .ok (.invokestatic 128, 3) := by decide +kernel
theorem dL_law_733 : decode cL_law 733 = .ok (.istore 5, 2) := by decide +kernel
theorem dL_law_735 : decode cL_law 735 = .ok (.aload_n 2, 1) := by decide +kernel
theorem dL_law_736 : decode cL_law 736 = .ok (.aload_n 0, 1) := by decide +kernel
theorem dL_law_737 : decode cL_law 737 = .ok (.iload 4, 2) := by decide +kernel
theorem dL_law_739 : decode cL_law 739 = .ok (.iconst 1, 1) := by decide +kernel
theorem dL_law_740 : decode cL_law 740 = .ok (.iadd, 1) := by decide +kernel
theorem dL_law_741 : decode cL_law 741 = .ok (.iaload, 1) := by decide +kernel
theorem dL_law_742 : decode cL_law 742 = .ok (.aload_n 0, 1) := by decide +kernel
theorem dL_law_743 : decode cL_law 743 = .ok (.iload 4, 2) := by decide +kernel
theorem dL_law_745 : decode cL_law 745 = .ok (.iconst 2, 1) := by decide +kernel
theorem dL_law_746 : decode cL_law 746 = .ok (.iadd, 1) := by decide +kernel
theorem dL_law_747 : decode cL_law 747 = .ok (.iaload, 1) := by decide +kernel
theorem dL_law_748 : decode cL_law 748 = .ok (.invokevirtual 130, 3) := by decide +kernel
theorem dL_law_751 : decode cL_law 751 = .ok (.istore 6, 2) := by decide +kernel
theorem dL_law_753 : decode cL_law 753 = .ok (.aload_n 2, 1) := by decide +kernel
theorem dL_law_754 : decode cL_law 754 = .ok (.invokevirtual 93, 3) := by decide +kernel
theorem dL_law_757 : decode cL_law 757 = .ok (.iload 5, 2) := by decide +kernel
theorem dL_law_759 : decode cL_law 759 = .ok (.if_icmp .eq 5, 3) := by decide +kernel
theorem dL_law_762 : decode cL_law 762 = .ok (.iconst 0, 1) := by decide +kernel
theorem dL_law_763 : decode cL_law 763 = .ok (.ireturn, 1) := by decide +kernel
theorem dL_law_764 : decode cL_law 764 = .ok (.iload 5, 2) := by decide +kernel
theorem dL_law_766 : decode cL_law 766 = .ok (.ifCond .ne 15, 3) := by decide +kernel
theorem dL_law_769 : decode cL_law 769 = .ok (.aload_n 3, 1) := by decide +kernel
theorem dL_law_770 : decode cL_law 770 = .ok (.iconst 0, 1) := by decide +kernel
theorem dL_law_771 : decode cL_law 771 = .ok (.laload, 1) := by decide +kernel
theorem dL_law_772 : decode cL_law 772 = .ok (.iload 6, 2) := by decide +kernel
theorem dL_law_774 : decode cL_law 774 = .ok (.i2l, 1) := by decide +kernel
theorem dL_law_775 : decode cL_law 775 = .ok (.lcmp, 1) := by decide +kernel
theorem dL_law_776 : decode cL_law 776 = .ok (.ifCond .eq 5, 3) := by decide +kernel
theorem dL_law_779 : decode cL_law 779 = .ok (.iconst 0, 1) := by decide +kernel
theorem dL_law_780 : decode cL_law 780 = .ok (.ireturn, 1) := by decide +kernel
theorem dL_law_781 : decode cL_law 781 = .ok (.goto 888, 3) := by decide +kernel
theorem dL_law_784 : decode cL_law 784 = .ok (.aload_n 1, 1) := by decide +kernel
theorem dL_law_785 : decode cL_law 785 = .ok (.aload_n 0, 1) := by decide +kernel
theorem dL_law_786 : decode cL_law 786 = .ok (.iload 4, 2) := by decide +kernel
theorem dL_law_788 : decode cL_law 788 = .ok (.iconst 1, 1) := by decide +kernel
theorem dL_law_789 : decode cL_law 789 = .ok (.iadd, 1) := by decide +kernel
theorem dL_law_790 : decode cL_law 790 = .ok (.iaload, 1) := by decide +kernel
theorem dL_law_791 : decode cL_law 791 = .ok (.aload_n 0, 1) := by decide +kernel
theorem dL_law_792 : decode cL_law 792 = .ok (.iload 4, 2) := by decide +kernel
theorem dL_law_794 : decode cL_law 794 = .ok (.iconst 2, 1) := by decide +kernel
theorem dL_law_795 : decode cL_law 795 = .ok (.iadd, 1) := by decide +kernel
theorem dL_law_796 : decode cL_law 796 = .ok (.iaload, 1) := by decide +kernel
theorem dL_law_797 : decode cL_law 797 = .ok (.aload_n 3, 1) := by decide +kernel
theorem dL_law_798 : decode cL_law 798 = .ok (.invokestatic 131, 3) := by decide +kernel
theorem dL_law_801 : decode cL_law 801 = .ok (.istore 5, 2) := by decide +kernel
theorem dL_law_803 : decode cL_law 803 = .ok (.aload_n 2, 1) := by decide +kernel
theorem dL_law_804 : decode cL_law 804 = .ok (.aload_n 0, 1) := by decide +kernel
theorem dL_law_805 : decode cL_law 805 = .ok (.iload 4, 2) := by decide +kernel
theorem dL_law_807 : decode cL_law 807 = .ok (.iconst 1, 1) := by decide +kernel
theorem dL_law_808 : decode cL_law 808 = .ok (.iadd, 1) := by decide +kernel
theorem dL_law_809 : decode cL_law 809 = .ok (.iaload, 1) := by decide +kernel
theorem dL_law_810 : decode cL_law 810 = .ok (.aload_n 0, 1) := by decide +kernel
theorem dL_law_811 : decode cL_law 811 = .ok (.iload 4, 2) := by decide +kernel
theorem dL_law_813 : decode cL_law 813 = .ok (.iconst 2, 1) := by decide +kernel
theorem dL_law_814 : decode cL_law 814 = .ok (.iadd, 1) := by decide +kernel
theorem dL_law_815 : decode cL_law 815 = .ok (.iaload, 1) := by decide +kernel
theorem dL_law_816 : decode cL_law 816 = .ok (.invokevirtual 133, 3) := by decide +kernel
theorem dL_law_819 : decode cL_law 819 = .ok (.istore 6, 2) := by decide +kernel
theorem dL_law_821 : decode cL_law 821 = .ok (.aload_n 2, 1) := by decide +kernel
theorem dL_law_822 : decode cL_law 822 = .ok (.invokevirtual 93, 3) := by decide +kernel
theorem dL_law_825 : decode cL_law 825 = .ok (.iload 5, 2) := by decide +kernel
theorem dL_law_827 : decode cL_law 827 = .ok (.if_icmp .eq 5, 3) := by decide +kernel
theorem dL_law_830 : decode cL_law 830 = .ok (.iconst 0, 1) := by decide +kernel
theorem dL_law_831 : decode cL_law 831 = .ok (.ireturn, 1) := by decide +kernel
theorem dL_law_832 : decode cL_law 832 = .ok (.iload 5, 2) := by decide +kernel
theorem dL_law_834 : decode cL_law 834 = .ok (.ifCond .ne 15, 3) := by decide +kernel
theorem dL_law_837 : decode cL_law 837 = .ok (.aload_n 3, 1) := by decide +kernel
theorem dL_law_838 : decode cL_law 838 = .ok (.iconst 0, 1) := by decide +kernel
theorem dL_law_839 : decode cL_law 839 = .ok (.laload, 1) := by decide +kernel
theorem dL_law_840 : decode cL_law 840 = .ok (.iload 6, 2) := by decide +kernel
theorem dL_law_842 : decode cL_law 842 = .ok (.i2l, 1) := by decide +kernel
theorem dL_law_843 : decode cL_law 843 = .ok (.lcmp, 1) := by decide +kernel
theorem dL_law_844 : decode cL_law 844 = .ok (.ifCond .eq 5, 3) := by decide +kernel
theorem dL_law_847 : decode cL_law 847 = .ok (.iconst 0, 1) := by decide +kernel
theorem dL_law_848 : decode cL_law 848 = .ok (.ireturn, 1) := by decide +kernel
theorem dL_law_849 : decode cL_law 849 = .ok (.goto 820, 3) := by decide +kernel
theorem dL_law_852 : decode cL_law 852 = .ok (.aload_n 1, 1) := by decide +kernel
theorem dL_law_853 : decode cL_law 853 = .ok (.aload_n 0, 1) := by decide +kernel
theorem dL_law_854 : decode cL_law 854 = .ok (.iload 4, 2) := by decide +kernel
theorem dL_law_856 : decode cL_law 856 = .ok (.iconst 1, 1) := by decide +kernel
theorem dL_law_857 : decode cL_law 857 = .ok (.iadd, 1) := by decide +kernel
theorem dL_law_858 : decode cL_law 858 = .ok (.iaload, 1) := by decide +kernel
theorem dL_law_859 : decode cL_law 859 = .ok (.aload_n 0, 1) := by decide +kernel
theorem dL_law_860 : decode cL_law 860 = .ok (.iload 4, 2) := by decide +kernel
theorem dL_law_862 : decode cL_law 862 = .ok (.iconst 2, 1) := by decide +kernel
theorem dL_law_863 : decode cL_law 863 = .ok (.iadd, 1) := by decide +kernel
theorem dL_law_864 : decode cL_law 864 = .ok (.iaload, 1) := by decide +kernel
theorem dL_law_865 : decode cL_law 865 = .ok (.aload_n 3, 1) := by decide +kernel
theorem dL_law_866 : decode cL_law 866 = .ok (.invokestatic 134, 3) := by decide +kernel
theorem dL_law_869 : decode cL_law 869 = .ok (.istore 5, 2) := by decide +kernel
theorem dL_law_871 : decode cL_law 871 = .ok (.aload_n 2, 1) := by decide +kernel
theorem dL_law_872 : decode cL_law 872 = .ok (.aload_n 0, 1) := by decide +kernel
theorem dL_law_873 : decode cL_law 873 = .ok (.iload 4, 2) := by decide +kernel
theorem dL_law_875 : decode cL_law 875 = .ok (.iconst 1, 1) := by decide +kernel
theorem dL_law_876 : decode cL_law 876 = .ok (.iadd, 1) := by decide +kernel
theorem dL_law_877 : decode cL_law 877 = .ok (.iaload, 1) := by decide +kernel
theorem dL_law_878 : decode cL_law 878 = .ok (.aload_n 0, 1) := by decide +kernel
theorem dL_law_879 : decode cL_law 879 = .ok (.iload 4, 2) := by decide +kernel
theorem dL_law_881 : decode cL_law 881 = .ok (.iconst 2, 1) := by decide +kernel
theorem dL_law_882 : decode cL_law 882 = .ok (.iadd, 1) := by decide +kernel
theorem dL_law_883 : decode cL_law 883 = .ok (.iaload, 1) := by decide +kernel
theorem dL_law_884 : decode cL_law 884 = .ok (.invokevirtual 136, 3) := by decide +kernel
theorem dL_law_887 : decode cL_law 887 = .ok (.istore 6, 2) := by decide +kernel
theorem dL_law_889 : decode cL_law 889 = .ok (.aload_n 2, 1) := by decide +kernel
theorem dL_law_890 : decode cL_law 890 = .ok (.invokevirtual 93, 3) := by decide +kernel
theorem dL_law_893 : decode cL_law 893 = .ok (.iload 5, 2) := by decide +kernel
theorem dL_law_895 : decode cL_law 895 = .ok (.if_icmp .eq 5, 3) := by decide +kernel
theorem dL_law_898 : decode cL_law 898 = .ok (.iconst 0, 1) := by decide +kernel
theorem dL_law_899 : decode cL_law 899 = .ok (.ireturn, 1) := by decide +kernel
theorem dL_law_900 : decode cL_law 900 = .ok (.iload 5, 2) := by decide +kernel
theorem dL_law_902 : decode cL_law 902 = .ok (.ifCond .ne 15, 3) := by decide +kernel
theorem dL_law_905 : decode cL_law 905 = .ok (.aload_n 3, 1) := by decide +kernel
theorem dL_law_906 : decode cL_law 906 = .ok (.iconst 0, 1) := by decide +kernel
theorem dL_law_907 : decode cL_law 907 = .ok (.laload, 1) := by decide +kernel
theorem dL_law_908 : decode cL_law 908 = .ok (.iload 6, 2) := by decide +kernel
theorem dL_law_910 : decode cL_law 910 = .ok (.i2l, 1) := by decide +kernel
theorem dL_law_911 : decode cL_law 911 = .ok (.lcmp, 1) := by decide +kernel
theorem dL_law_912 : decode cL_law 912 = .ok (.ifCond .eq 5, 3) := by decide +kernel
theorem dL_law_915 : decode cL_law 915 = .ok (.iconst 0, 1) := by decide +kernel
theorem dL_law_916 : decode cL_law 916 = .ok (.ireturn, 1) := by decide +kernel
theorem dL_law_917 : decode cL_law 917 = .ok (.goto 752, 3) := by decide +kernel
theorem dL_law_920 : decode cL_law 920 = .ok (.aload_n 1, 1) := by decide +kernel
theorem dL_law_921 : decode cL_law 921 = .ok (.aload_n 0, 1) := by decide +kernel
theorem dL_law_922 : decode cL_law 922 = .ok (.iload 4, 2) := by decide +kernel
theorem dL_law_924 : decode cL_law 924 = .ok (.iconst 1, 1) := by decide +kernel
theorem dL_law_925 : decode cL_law 925 = .ok (.iadd, 1) := by decide +kernel
theorem dL_law_926 : decode cL_law 926 = .ok (.iaload, 1) := by decide +kernel
theorem dL_law_927 : decode cL_law 927 = .ok (.aload_n 3, 1) := by decide +kernel
theorem dL_law_928 : decode cL_law 928 = .ok (.invokestatic 137, 3) := by decide +kernel
theorem dL_law_931 : decode cL_law 931 = .ok (.istore 5, 2) := by decide +kernel
theorem dL_law_933 : decode cL_law 933 = .ok (.aload_n 2, 1) := by decide +kernel
theorem dL_law_934 : decode cL_law 934 = .ok (.aload_n 0, 1) := by decide +kernel
theorem dL_law_935 : decode cL_law 935 = .ok (.iload 4, 2) := by decide +kernel
theorem dL_law_937 : decode cL_law 937 = .ok (.iconst 1, 1) := by decide +kernel
theorem dL_law_938 : decode cL_law 938 = .ok (.iadd, 1) := by decide +kernel
theorem dL_law_939 : decode cL_law 939 = .ok (.iaload, 1) := by decide +kernel
theorem dL_law_940 : decode cL_law 940 = .ok (.invokevirtual 139, 3) := by decide +kernel
theorem dL_law_943 : decode cL_law 943 = .ok (.istore 6, 2) := by decide +kernel
theorem dL_law_945 : decode cL_law 945 = .ok (.aload_n 2, 1) := by decide +kernel
theorem dL_law_946 : decode cL_law 946 = .ok (.invokevirtual 93, 3) := by decide +kernel
theorem dL_law_949 : decode cL_law 949 = .ok (.iload 5, 2) := by decide +kernel
theorem dL_law_951 : decode cL_law 951 = .ok (.if_icmp .eq 5, 3) := by decide +kernel
theorem dL_law_954 : decode cL_law 954 = .ok (.iconst 0, 1) := by decide +kernel
theorem dL_law_955 : decode cL_law 955 = .ok (.ireturn, 1) := by decide +kernel
theorem dL_law_956 : decode cL_law 956 = .ok (.iload 5, 2) := by decide +kernel
theorem dL_law_958 : decode cL_law 958 = .ok (.ifCond .ne 15, 3) := by decide +kernel
theorem dL_law_961 : decode cL_law 961 = .ok (.aload_n 3, 1) := by decide +kernel
theorem dL_law_962 : decode cL_law 962 = .ok (.iconst 0, 1) := by decide +kernel
theorem dL_law_963 : decode cL_law 963 = .ok (.laload, 1) := by decide +kernel
theorem dL_law_964 : decode cL_law 964 = .ok (.iload 6, 2) := by decide +kernel
theorem dL_law_966 : decode cL_law 966 = .ok (.i2l, 1) := by decide +kernel
theorem dL_law_967 : decode cL_law 967 = .ok (.lcmp, 1) := by decide +kernel
theorem dL_law_968 : decode cL_law 968 = .ok (.ifCond .eq 5, 3) := by decide +kernel
theorem dL_law_971 : decode cL_law 971 = .ok (.iconst 0, 1) := by decide +kernel
theorem dL_law_972 : decode cL_law 972 = .ok (.ireturn, 1) := by decide +kernel
theorem dL_law_973 : decode cL_law 973 = .ok (.goto 696, 3) := by decide +kernel
theorem dL_law_976 : decode cL_law 976 = .ok (.aload_n 1, 1) := by decide +kernel
theorem dL_law_977 : decode cL_law 977 = .ok (.aload_n 0, 1) := by decide +kernel
theorem dL_law_978 : decode cL_law 978 = .ok (.iload 4, 2) := by decide +kernel
theorem dL_law_980 : decode cL_law 980 = .ok (.iconst 1, 1) := by decide +kernel
theorem dL_law_981 : decode cL_law 981 = .ok (.iadd, 1) := by decide +kernel
theorem dL_law_982 : decode cL_law 982 = .ok (.iaload, 1) := by decide +kernel
theorem dL_law_983 : decode cL_law 983 = .ok (.aload_n 3, 1) := by decide +kernel
theorem dL_law_984 : decode cL_law 984 = .ok (.invokestatic 140, 3) := by decide +kernel
theorem dL_law_987 : decode cL_law 987 = .ok (.istore 5, 2) := by decide +kernel
theorem dL_law_989 : decode cL_law 989 = .ok (.aload_n 2, 1) := by decide +kernel
theorem dL_law_990 : decode cL_law 990 = .ok (.aload_n 0, 1) := by decide +kernel
theorem dL_law_991 : decode cL_law 991 = .ok (.iload 4, 2) := by decide +kernel
theorem dL_law_993 : decode cL_law 993 = .ok (.iconst 1, 1) := by decide +kernel
theorem dL_law_994 : decode cL_law 994 = .ok (.iadd, 1) := by decide +kernel
theorem dL_law_995 : decode cL_law 995 = .ok (.iaload, 1) := by decide +kernel
theorem dL_law_996 : decode cL_law 996 = .ok (.invokevirtual 142, 3) := by decide +kernel
theorem dL_law_999 : decode cL_law 999 = .ok (.istore 6, 2) := by decide +kernel
theorem dL_law_1001 : decode cL_law 1001 = .ok (.aload_n 2, 1) := by decide +kernel
theorem dL_law_1002 : decode cL_law 1002 = .ok (.invokevirtual 93, 3) := by decide +kernel
theorem dL_law_1005 : decode cL_law 1005 = .ok (.iload 5, 2) := by decide +kernel
theorem dL_law_1007 : decode cL_law 1007 = .ok (.if_icmp .eq 5, 3) := by decide +kernel
theorem dL_law_1010 : decode cL_law 1010 = .ok (.iconst 0, 1) := by decide +kernel
theorem dL_law_1011 : decode cL_law 1011 = .ok (.ireturn, 1) := by decide +kernel
theorem dL_law_1012 : decode cL_law 1012 = .ok (.iload 5, 2) := by decide +kernel
theorem dL_law_1014 : decode cL_law 1014 = .ok (.ifCond .ne 15, 3) := by decide +kernel
theorem dL_law_1017 : decode cL_law 1017 = .ok (.aload_n 3, 1) := by decide +kernel
theorem dL_law_1018 : decode cL_law 1018 = .ok (.iconst 0, 1) := by decide +kernel
theorem dL_law_1019 : decode cL_law 1019 = .ok (.laload, 1) := by decide +kernel
theorem dL_law_1020 : decode cL_law 1020 = .ok (.iload 6, 2) := by decide +kernel
theorem dL_law_1022 : decode cL_law 1022 = .ok (.i2l, 1) := by decide +kernel
theorem dL_law_1023 : decode cL_law 1023 = .ok (.lcmp, 1) := by decide +kernel
theorem dL_law_1024 : decode cL_law 1024 = .ok (.ifCond .eq 5, 3) := by decide +kernel
theorem dL_law_1027 : decode cL_law 1027 = .ok (.iconst 0, 1) := by decide +kernel
theorem dL_law_1028 : decode cL_law 1028 = .ok (.ireturn, 1) := by decide +kernel
theorem dL_law_1029 : decode cL_law 1029 = .ok (.goto 640, 3) := by decide +kernel
theorem dL_law_1032 : decode cL_law 1032 = .ok (.aload_n 1, 1) := by decide +kernel
theorem dL_law_1033 : decode cL_law 1033 = .ok (.aload_n 0, 1) := by decide +kernel
theorem dL_law_1034 : decode cL_law 1034 = .ok (.iload 4, 2) := by decide +kernel
theorem dL_law_1036 : decode cL_law 1036 = .ok (.iconst 1, 1) := by decide +kernel
theorem dL_law_1037 : decode cL_law 1037 = .ok (.iadd, 1) := by decide +kernel
theorem dL_law_1038 : decode cL_law 1038 = .ok (.iaload, 1) := by decide +kernel
theorem dL_law_1039 : decode cL_law 1039 = .ok (.aload_n 3, 1) := by decide +kernel
theorem dL_law_1040 : decode cL_law 1040 = .ok (.invokestatic 143, 3) := by decide +kernel
theorem dL_law_1043 : decode cL_law 1043 = .ok (.istore 5, 2) := by decide +kernel
theorem dL_law_1045 : decode cL_law 1045 = .ok (.aload_n 2, 1) := by decide +kernel
theorem dL_law_1046 : decode cL_law 1046 = .ok (.aload_n 0, 1) := by decide +kernel
theorem dL_law_1047 : decode cL_law 1047 = .ok (.iload 4, 2) := by decide +kernel
theorem dL_law_1049 : decode cL_law 1049 = .ok (.iconst 1, 1) := by decide +kernel
theorem dL_law_1050 : decode cL_law 1050 = .ok (.iadd, 1) := by decide +kernel
theorem dL_law_1051 : decode cL_law 1051 = .ok (.iaload, 1) := by decide +kernel
theorem dL_law_1052 : decode cL_law 1052 = .ok (.invokevirtual 145, 3) := by decide +kernel
theorem dL_law_1055 : decode cL_law 1055 = .ok (.lstore 6, 2) := by decide +kernel
theorem dL_law_1057 : decode cL_law 1057 = .ok (.aload_n 2, 1) := by decide +kernel
theorem dL_law_1058 : decode cL_law 1058 = .ok (.invokevirtual 93, 3) := by decide +kernel
theorem dL_law_1061 : decode cL_law 1061 = .ok (.iload 5, 2) := by decide +kernel
theorem dL_law_1063 : decode cL_law 1063 = .ok (.if_icmp .eq 5, 3) := by decide +kernel
theorem dL_law_1066 : decode cL_law 1066 = .ok (.iconst 0, 1) := by decide +kernel
theorem dL_law_1067 : decode cL_law 1067 = .ok (.ireturn, 1) := by decide +kernel
theorem dL_law_1068 : decode cL_law 1068 = .ok (.iload 5, 2) := by decide +kernel
theorem dL_law_1070 : decode cL_law 1070 = .ok (.ifCond .ne 14, 3) := by decide +kernel
theorem dL_law_1073 : decode cL_law 1073 = .ok (.aload_n 3, 1) := by decide +kernel
theorem dL_law_1074 : decode cL_law 1074 = .ok (.iconst 0, 1) := by decide +kernel
theorem dL_law_1075 : decode cL_law 1075 = .ok (.laload, 1) := by decide +kernel
theorem dL_law_1076 : decode cL_law 1076 = .ok (.lload 6, 2) := by decide +kernel
theorem dL_law_1078 : decode cL_law 1078 = .ok (.lcmp, 1) := by decide +kernel
theorem dL_law_1079 : decode cL_law 1079 = .ok (.ifCond .eq 5, 3) := by decide +kernel
theorem dL_law_1082 : decode cL_law 1082 = .ok (.iconst 0, 1) := by decide +kernel
theorem dL_law_1083 : decode cL_law 1083 = .ok (.ireturn, 1) := by decide +kernel
theorem dL_law_1084 : decode cL_law 1084 = .ok (.goto 585, 3) := by decide +kernel
theorem dL_law_1087 : decode cL_law 1087 = .ok (.aload_n 1, 1) := by decide +kernel
theorem dL_law_1088 : decode cL_law 1088 = .ok (.aload_n 0, 1) := by decide +kernel
theorem dL_law_1089 : decode cL_law 1089 = .ok (.iload 4, 2) := by decide +kernel
theorem dL_law_1091 : decode cL_law 1091 = .ok (.iconst 1, 1) := by decide +kernel
theorem dL_law_1092 : decode cL_law 1092 = .ok (.iadd, 1) := by decide +kernel
theorem dL_law_1093 : decode cL_law 1093 = .ok (.iaload, 1) := by decide +kernel
theorem dL_law_1094 : decode cL_law 1094 = .ok (.aload_n 0, 1) := by decide +kernel
theorem dL_law_1095 : decode cL_law 1095 = .ok (.iload 4, 2) := by decide +kernel
theorem dL_law_1097 : decode cL_law 1097 = .ok (.iconst 2, 1) := by decide +kernel
theorem dL_law_1098 : decode cL_law 1098 = .ok (.iadd, 1) := by decide +kernel
theorem dL_law_1099 : decode cL_law 1099 = .ok (.iaload, 1) := by decide +kernel
theorem dL_law_1100 : decode cL_law 1100 = .ok (.aload_n 3, 1) := by decide +kernel
theorem dL_law_1101 : decode cL_law 1101 = .ok (.invokestatic 146, 3) := by decide +kernel
theorem dL_law_1104 : decode cL_law 1104 = .ok (.istore 5, 2) := by decide +kernel
theorem dL_law_1106 : decode cL_law 1106 = .ok (.aload_n 2, 1) := by decide +kernel
theorem dL_law_1107 : decode cL_law 1107 = .ok (.aload_n 0, 1) := by decide +kernel
theorem dL_law_1108 : decode cL_law 1108 = .ok (.iload 4, 2) := by decide +kernel
theorem dL_law_1110 : decode cL_law 1110 = .ok (.iconst 1, 1) := by decide +kernel
theorem dL_law_1111 : decode cL_law 1111 = .ok (.iadd, 1) := by decide +kernel
theorem dL_law_1112 : decode cL_law 1112 = .ok (.iaload, 1) := by decide +kernel
theorem dL_law_1113 : decode cL_law 1113 = .ok (.aload_n 0, 1) := by decide +kernel
theorem dL_law_1114 : decode cL_law 1114 = .ok (.iload 4, 2) := by decide +kernel
theorem dL_law_1116 : decode cL_law 1116 = .ok (.iconst 2, 1) := by decide +kernel
theorem dL_law_1117 : decode cL_law 1117 = .ok (.iadd, 1) := by decide +kernel
theorem dL_law_1118 : decode cL_law 1118 = .ok (.iaload, 1) := by decide +kernel
theorem dL_law_1119 : decode cL_law 1119 = .ok (.invokevirtual 148, 3) := by decide +kernel
theorem dL_law_1122 : decode cL_law 1122 = .ok (.istore 6, 2) := by decide +kernel
theorem dL_law_1124 : decode cL_law 1124 = .ok (.aload_n 2, 1) := by decide +kernel
theorem dL_law_1125 : decode cL_law 1125 = .ok (.invokevirtual 93, 3) := by decide +kernel
theorem dL_law_1128 : decode cL_law 1128 = .ok (.iload 5, 2) := by decide +kernel
theorem dL_law_1130 : decode cL_law 1130 = .ok (.if_icmp .eq 5, 3) := by decide +kernel
theorem dL_law_1133 : decode cL_law 1133 = .ok (.iconst 0, 1) := by decide +kernel
theorem dL_law_1134 : decode cL_law 1134 = .ok (.ireturn, 1) := by decide +kernel
theorem dL_law_1135 : decode cL_law 1135 = .ok (.iload 5, 2) := by decide +kernel
theorem dL_law_1137 : decode cL_law 1137 = .ok (.ifCond .ne 15, 3) := by decide +kernel
theorem dL_law_1140 : decode cL_law 1140 = .ok (.aload_n 3, 1) := by decide +kernel
theorem dL_law_1141 : decode cL_law 1141 = .ok (.iconst 0, 1) := by decide +kernel
theorem dL_law_1142 : decode cL_law 1142 = .ok (.laload, 1) := by decide +kernel
theorem dL_law_1143 : decode cL_law 1143 = .ok (.iload 6, 2) := by decide +kernel
theorem dL_law_1145 : decode cL_law 1145 = .ok (.i2l, 1) := by decide +kernel
theorem dL_law_1146 : decode cL_law 1146 = .ok (.lcmp, 1) := by decide +kernel
theorem dL_law_1147 : decode cL_law 1147 = .ok (.ifCond .eq 5, 3) := by decide +kernel
theorem dL_law_1150 : decode cL_law 1150 = .ok (.iconst 0, 1) := by decide +kernel
theorem dL_law_1151 : decode cL_law 1151 = .ok (.ireturn, 1) := by decide +kernel
theorem dL_law_1152 : decode cL_law 1152 = .ok (.goto 517, 3) := by decide +kernel
theorem dL_law_1155 : decode cL_law 1155 = .ok (.aload_n 1, 1) := by decide +kernel
theorem dL_law_1156 : decode cL_law 1156 = .ok (.aload_n 0, 1) := by decide +kernel
theorem dL_law_1157 : decode cL_law 1157 = .ok (.iload 4, 2) := by decide +kernel
theorem dL_law_1159 : decode cL_law 1159 = .ok (.iconst 1, 1) := by decide +kernel
theorem dL_law_1160 : decode cL_law 1160 = .ok (.iadd, 1) := by decide +kernel
theorem dL_law_1161 : decode cL_law 1161 = .ok (.iaload, 1) := by decide +kernel
