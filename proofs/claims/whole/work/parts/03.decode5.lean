theorem dX12_write_49 : decode cX12_write 49 = .ok (.iconst 1, 1) := by decide +kernel
theorem dX12_write_50 : decode cX12_write 50 = .ok (.iadd, 1) := by decide +kernel
theorem dX12_write_51 : decode cX12_write 51 = .ok (.iastore, 1) := by decide +kernel
theorem dX12_write_52 : decode cX12_write 52 = .ok (.return_, 1) := by decide +kernel
theorem dX12_isDone_0 : decode cX12_isDone 0 = .ok (.iload_n 1, 1) := by decide +kernel
theorem dX12_isDone_1 : decode cX12_isDone 1 = .ok (.sipush 205, 3) := by decide +kernel
theorem dX12_isDone_4 : decode cX12_isDone 4 = .ok (.if_icmp .ne 10, 3) := by decide +kernel
theorem dX12_isDone_7 : decode cX12_isDone 7 = .ok (.aload_n 0, 1) := by decide +kernel
theorem dX12_isDone_8 : decode cX12_isDone 8 = .ok (.iload_n 2, 1) := by decide +kernel
theorem dX12_isDone_9 : decode cX12_isDone 9 = .ok (.iload_n 3, 1) := by decide +kernel
theorem dX12_isDone_10 : decode cX12_isDone 10 = .ok (.invokevirtual 160, 3) := by decide +kernel
theorem dX12_isDone_13 : decode cX12_isDone 13 = .ok (.ireturn, 1) := by decide +kernel
theorem dX12_isDone_14 : decode cX12_isDone 14 = .ok (.aload_n 0, 1) := by decide +kernel
theorem dX12_isDone_15 : decode cX12_isDone 15 = .ok (.iload_n 2, 1) := by decide +kernel
theorem dX12_isDone_16 : decode cX12_isDone 16 = .ok (.invokevirtual 144, 3) := by decide +kernel
theorem dX12_isDone_19 : decode cX12_isDone 19 = .ok (.istore 4, 2) := by decide +kernel
theorem dX12_isDone_21 : decode cX12_isDone 21 = .ok (.iload_n 1, 1) := by decide +kernel
theorem dX12_isDone_22 : decode cX12_isDone 22 = .ok (.sipush 209, 3) := by decide +kernel
theorem dX12_isDone_25 : decode cX12_isDone 25 = .ok (.if_icmp .ne 10, 3) := by decide +kernel
theorem dX12_isDone_28 : decode cX12_isDone 28 = .ok (.aload_n 0, 1) := by decide +kernel
theorem dX12_isDone_29 : decode cX12_isDone 29 = .ok (.iload 4, 2) := by decide +kernel
theorem dX12_isDone_31 : decode cX12_isDone 31 = .ok (.invokevirtual 163, 3) := by decide +kernel
theorem dX12_isDone_34 : decode cX12_isDone 34 = .ok (.ireturn, 1) := by decide +kernel
theorem dX12_isDone_35 : decode cX12_isDone 35 = .ok (.iload_n 1, 1) := by decide +kernel
theorem dX12_isDone_36 : decode cX12_isDone 36 = .ok (.sipush 208, 3) := by decide +kernel
theorem dX12_isDone_39 : decode cX12_isDone 39 = .ok (.if_icmp .ne 12, 3) := by decide +kernel
theorem dX12_isDone_42 : decode cX12_isDone 42 = .ok (.aload_n 0, 1) := by decide +kernel
theorem dX12_isDone_43 : decode cX12_isDone 43 = .ok (.iload 4, 2) := by decide +kernel
theorem dX12_isDone_45 : decode cX12_isDone 45 = .ok (.invokevirtual 166, 3) := by decide +kernel
theorem dX12_isDone_48 : decode cX12_isDone 48 = .ok (.goto 18, 3) := by decide +kernel
theorem dX12_isDone_51 : decode cX12_isDone 51 = .ok (.aload_n 0, 1) := by decide +kernel
theorem dX12_isDone_52 : decode cX12_isDone 52 = .ok (.iconst 0, 1) := by decide +kernel
theorem dX12_isDone_53 : decode cX12_isDone 53 = .ok (.bipush 120, 2) := by decide +kernel
theorem dX12_isDone_55 : decode cX12_isDone 55 = .ok (.iload 4, 2) := by decide +kernel
theorem dX12_isDone_57 : decode cX12_isDone 57 = .ok (.invokestatic 169, 3) := by decide +kernel
theorem dX12_isDone_60 : decode cX12_isDone 60 = .ok (.invokestatic 92, 3) := by decide +kernel
theorem dX12_isDone_63 : decode cX12_isDone 63 = .ok (.invokevirtual 127, 3) := by decide +kernel
theorem dX12_isDone_66 : decode cX12_isDone 66 = .ok (.iconst 1, 1) := by decide +kernel
theorem dX12_isDone_67 : decode cX12_isDone 67 = .ok (.ireturn, 1) := by decide +kernel
theorem dX12_run_0 : decode cX12_run 0 = .ok (.aload_n 0, 1) := by decide +kernel
theorem dX12_run_1 : decode cX12_run 1 = .ok (.getfield 20, 3) := by decide +kernel
theorem dX12_run_4 : decode cX12_run 4 = .ok (.getfield 172, 3) := by decide +kernel
theorem dX12_run_7 : decode cX12_run 7 = .ok (.iload_n 1, 1) := by decide +kernel
theorem dX12_run_8 : decode cX12_run 8 = .ok (.iaload, 1) := by decide +kernel
theorem dX12_run_9 : decode cX12_run 9 = .ok (.istore_n 2, 1) := by decide +kernel
theorem dX12_run_10 : decode cX12_run 10 = .ok (.iconst 0, 1) := by decide +kernel
theorem dX12_run_11 : decode cX12_run 11 = .ok (.istore_n 3, 1) := by decide +kernel
theorem dX12_run_12 : decode cX12_run 12 = .ok (.iconst 0, 1) := by decide +kernel
theorem dX12_run_13 : decode cX12_run 13 = .ok (.istore 4, 2) := by decide +kernel
theorem dX12_run_15 : decode cX12_run 15 = .ok (.iload 4, 2) := by decide +kernel
theorem dX12_run_17 : decode cX12_run 17 = .ok (.bipush 100, 2) := by decide +kernel
theorem dX12_run_19 : decode cX12_run 19 = .ok (.if_icmp .ge 192, 3) := by decide +kernel
theorem dX12_run_22 : decode cX12_run 22 = .ok (.iconst 4, 1) := by decide +kernel
theorem dX12_run_23 : decode cX12_run 23 = .ok (.iload_n 2, 1) := by decide +kernel
theorem dX12_run_24 : decode cX12_run 24 = .ok (.imul, 1) := by decide +kernel
theorem dX12_run_25 : decode cX12_run 25 = .ok (.istore 5, 2) := by decide +kernel
theorem dX12_run_27 : decode cX12_run 27 = .ok (.aload_n 0, 1) := by decide +kernel
theorem dX12_run_28 : decode cX12_run 28 = .ok (.getfield 20, 3) := by decide +kernel
theorem dX12_run_31 : decode cX12_run 31 = .ok (.getfield 175, 3) := by decide +kernel
theorem dX12_run_34 : decode cX12_run 34 = .ok (.iload 5, 2) := by decide +kernel
theorem dX12_run_36 : decode cX12_run 36 = .ok (.iconst 0, 1) := by decide +kernel
theorem dX12_run_37 : decode cX12_run 37 = .ok (.iadd, 1) := by decide +kernel
theorem dX12_run_38 : decode cX12_run 38 = .ok (.iaload, 1) := by decide +kernel
theorem dX12_run_39 : decode cX12_run 39 = .ok (.istore 6, 2) := by decide +kernel
theorem dX12_run_41 : decode cX12_run 41 = .ok (.aload_n 0, 1) := by decide +kernel
theorem dX12_run_42 : decode cX12_run 42 = .ok (.getfield 20, 3) := by decide +kernel
theorem dX12_run_45 : decode cX12_run 45 = .ok (.getfield 175, 3) := by decide +kernel
theorem dX12_run_48 : decode cX12_run 48 = .ok (.iload 5, 2) := by decide +kernel
theorem dX12_run_50 : decode cX12_run 50 = .ok (.iconst 1, 1) := by decide +kernel
theorem dX12_run_51 : decode cX12_run 51 = .ok (.iadd, 1) := by decide +kernel
theorem dX12_run_52 : decode cX12_run 52 = .ok (.iaload, 1) := by decide +kernel
theorem dX12_run_53 : decode cX12_run 53 = .ok (.istore 7, 2) := by decide +kernel
theorem dX12_run_55 : decode cX12_run 55 = .ok (.iinc 2 1, 3) := by decide +kernel
theorem dX12_run_58 : decode cX12_run 58 = .ok (.iload 6, 2) := by decide +kernel
theorem dX12_run_60 : decode cX12_run 60 = .ok (.sipush 300, 3) := by decide +kernel
theorem dX12_run_63 : decode cX12_run 63 = .ok (.if_icmp .ne 9, 3) := by decide +kernel
theorem dX12_run_66 : decode cX12_run 66 = .ok (.iload 7, 2) := by decide +kernel
theorem dX12_run_68 : decode cX12_run 68 = .ok (.istore_n 2, 1) := by decide +kernel
theorem dX12_run_69 : decode cX12_run 69 = .ok (.goto 139, 3) := by decide +kernel
theorem dX12_run_72 : decode cX12_run 72 = .ok (.iload 6, 2) := by decide +kernel
theorem dX12_run_74 : decode cX12_run 74 = .ok (.sipush 301, 3) := by decide +kernel
theorem dX12_run_77 : decode cX12_run 77 = .ok (.if_icmp .ne 23, 3) := by decide +kernel
theorem dX12_run_80 : decode cX12_run 80 = .ok (.iload_n 3, 1) := by decide +kernel
theorem dX12_run_81 : decode cX12_run 81 = .ok (.ifCond .ne 6, 3) := by decide +kernel
theorem dX12_run_84 : decode cX12_run 84 = .ok (.iload 4, 2) := by decide +kernel
theorem dX12_run_86 : decode cX12_run 86 = .ok (.ireturn, 1) := by decide +kernel
theorem dX12_run_87 : decode cX12_run 87 = .ok (.iinc 3 (-1), 3) := by decide +kernel
theorem dX12_run_90 : decode cX12_run 90 = .ok (.aload_n 0, 1) := by decide +kernel
theorem dX12_run_91 : decode cX12_run 91 = .ok (.getfield 31, 3) := by decide +kernel
theorem dX12_run_94 : decode cX12_run 94 = .ok (.iload_n 3, 1) := by decide +kernel
theorem dX12_run_95 : decode cX12_run 95 = .ok (.iaload, 1) := by decide +kernel
theorem dX12_run_96 : decode cX12_run 96 = .ok (.istore_n 2, 1) := by decide +kernel
theorem dX12_run_97 : decode cX12_run 97 = .ok (.goto 111, 3) := by decide +kernel
theorem dX12_run_100 : decode cX12_run 100 = .ok (.iload 6, 2) := by decide +kernel
theorem dX12_run_102 : decode cX12_run 102 = .ok (.sipush 210, 3) := by decide +kernel
theorem dX12_run_105 : decode cX12_run 105 = .ok (.if_icmp .ne 30, 3) := by decide +kernel
theorem dX12_run_108 : decode cX12_run 108 = .ok (.aload_n 0, 1) := by decide +kernel
theorem dX12_run_109 : decode cX12_run 109 = .ok (.getfield 31, 3) := by decide +kernel
theorem dX12_run_112 : decode cX12_run 112 = .ok (.iload_n 3, 1) := by decide +kernel
theorem dX12_run_113 : decode cX12_run 113 = .ok (.iload_n 2, 1) := by decide +kernel
theorem dX12_run_114 : decode cX12_run 114 = .ok (.iastore, 1) := by decide +kernel
theorem dX12_run_115 : decode cX12_run 115 = .ok (.iinc 3 1, 3) := by decide +kernel
theorem dX12_run_118 : decode cX12_run 118 = .ok (.aload_n 0, 1) := by decide +kernel
theorem dX12_run_119 : decode cX12_run 119 = .ok (.getfield 20, 3) := by decide +kernel
theorem dX12_run_122 : decode cX12_run 122 = .ok (.getfield 172, 3) := by decide +kernel
theorem dX12_run_125 : decode cX12_run 125 = .ok (.iload 7, 2) := by decide +kernel
theorem dX12_run_127 : decode cX12_run 127 = .ok (.iaload, 1) := by decide +kernel
theorem dX12_run_128 : decode cX12_run 128 = .ok (.istore_n 2, 1) := by decide +kernel
theorem dX12_run_129 : decode cX12_run 129 = .ok (.iinc 4 1, 3) := by decide +kernel
theorem dX12_run_132 : decode cX12_run 132 = .ok (.goto 76, 3) := by decide +kernel
theorem dX12_run_135 : decode cX12_run 135 = .ok (.iload 6, 2) := by decide +kernel
theorem dX12_run_137 : decode cX12_run 137 = .ok (.sipush 211, 3) := by decide +kernel
theorem dX12_run_140 : decode cX12_run 140 = .ok (.if_icmp .eq 11, 3) := by decide +kernel
theorem dX12_run_143 : decode cX12_run 143 = .ok (.iload 6, 2) := by decide +kernel
theorem dX12_run_145 : decode cX12_run 145 = .ok (.sipush 212, 3) := by decide +kernel
theorem dX12_run_148 : decode cX12_run 148 = .ok (.if_icmp .ne 31, 3) := by decide +kernel
theorem dX12_run_151 : decode cX12_run 151 = .ok (.aload_n 0, 1) := by decide +kernel
theorem dX12_run_152 : decode cX12_run 152 = .ok (.iload 7, 2) := by decide +kernel
theorem dX12_run_154 : decode cX12_run 154 = .ok (.invokevirtual 178, 3) := by decide +kernel
theorem dX12_run_157 : decode cX12_run 157 = .ok (.ifCond .ne 16, 3) := by decide +kernel
theorem dX12_run_160 : decode cX12_run 160 = .ok (.aload_n 0, 1) := by decide +kernel
theorem dX12_run_161 : decode cX12_run 161 = .ok (.getfield 20, 3) := by decide +kernel
theorem dX12_run_164 : decode cX12_run 164 = .ok (.getfield 175, 3) := by decide +kernel
theorem dX12_run_167 : decode cX12_run 167 = .ok (.iload 5, 2) := by decide +kernel
theorem dX12_run_169 : decode cX12_run 169 = .ok (.iconst 3, 1) := by decide +kernel
theorem dX12_run_170 : decode cX12_run 170 = .ok (.iadd, 1) := by decide +kernel
theorem dX12_run_171 : decode cX12_run 171 = .ok (.iaload, 1) := by decide +kernel
theorem dX12_run_172 : decode cX12_run 172 = .ok (.istore_n 2, 1) := by decide +kernel
theorem dX12_run_173 : decode cX12_run 173 = .ok (.iinc 4 1, 3) := by decide +kernel
theorem dX12_run_176 : decode cX12_run 176 = .ok (.goto 32, 3) := by decide +kernel
theorem dX12_run_179 : decode cX12_run 179 = .ok (.aload_n 0, 1) := by decide +kernel
theorem dX12_run_180 : decode cX12_run 180 = .ok (.iload 6, 2) := by decide +kernel
theorem dX12_run_182 : decode cX12_run 182 = .ok (.iload 7, 2) := by decide +kernel
theorem dX12_run_184 : decode cX12_run 184 = .ok (.aload_n 0, 1) := by decide +kernel
theorem dX12_run_185 : decode cX12_run 185 = .ok (.getfield 20, 3) := by decide +kernel
theorem dX12_run_188 : decode cX12_run 188 = .ok (.getfield 175, 3) := by decide +kernel
theorem dX12_run_191 : decode cX12_run 191 = .ok (.iload 5, 2) := by decide +kernel
theorem dX12_run_193 : decode cX12_run 193 = .ok (.iconst 2, 1) := by decide +kernel
theorem dX12_run_194 : decode cX12_run 194 = .ok (.iadd, 1) := by decide +kernel
theorem dX12_run_195 : decode cX12_run 195 = .ok (.iaload, 1) := by decide +kernel
theorem dX12_run_196 : decode cX12_run 196 = .ok (.invokevirtual 181, 3) := by decide +kernel
theorem dX12_run_199 : decode cX12_run 199 = .ok (.ifCond .ne 6, 3) := by decide +kernel
theorem dX12_run_202 : decode cX12_run 202 = .ok (.iload 4, 2) := by decide +kernel
theorem dX12_run_204 : decode cX12_run 204 = .ok (.ireturn, 1) := by decide +kernel
theorem dX12_run_205 : decode cX12_run 205 = .ok (.iinc 4 1, 3) := by decide +kernel
theorem dX12_run_208 : decode cX12_run 208 = .ok (.goto (-193), 3) := by decide +kernel
theorem dX12_run_211 : decode cX12_run 211 = .ok (.iload 4, 2) := by decide +kernel
theorem dX12_run_213 : decode cX12_run 213 = .ok (.ireturn, 1) := by decide +kernel
theorem dX12_reckon_0 : decode cX12_reckon 0 = .ok (.iconst 1, 1) := by decide +kernel
theorem dX12_reckon_1 : decode cX12_reckon 1 = .ok (.aload_n 0, 1) := by decide +kernel
theorem dX12_reckon_2 : decode cX12_reckon 2 = .ok (.getfield 20, 3) := by decide +kernel
theorem dX12_reckon_5 : decode cX12_reckon 5 = .ok (.getfield 131, 3) := by decide +kernel
theorem dX12_reckon_8 : decode cX12_reckon 8 = .ok (.ishl, 1) := by decide +kernel
theorem dX12_reckon_9 : decode cX12_reckon 9 = .ok (.istore_n 1, 1) := by decide +kernel
theorem dX12_reckon_10 : decode cX12_reckon 10 = .ok (.iconst 0, 1) := by decide +kernel
theorem dX12_reckon_11 : decode cX12_reckon 11 = .ok (.istore_n 2, 1) := by decide +kernel
theorem dX12_reckon_12 : decode cX12_reckon 12 = .ok (.iload_n 2, 1) := by decide +kernel
theorem dX12_reckon_13 : decode cX12_reckon 13 = .ok (.iconst 2, 1) := by decide +kernel
theorem dX12_reckon_14 : decode cX12_reckon 14 = .ok (.iload_n 1, 1) := by decide +kernel
theorem dX12_reckon_15 : decode cX12_reckon 15 = .ok (.imul, 1) := by decide +kernel
theorem dX12_reckon_16 : decode cX12_reckon 16 = .ok (.if_icmp .ge 17, 3) := by decide +kernel
theorem dX12_reckon_19 : decode cX12_reckon 19 = .ok (.aload_n 0, 1) := by decide +kernel
theorem dX12_reckon_20 : decode cX12_reckon 20 = .ok (.getfield 34, 3) := by decide +kernel
theorem dX12_reckon_23 : decode cX12_reckon 23 = .ok (.iload_n 2, 1) := by decide +kernel
theorem dX12_reckon_24 : decode cX12_reckon 24 = .ok (.ldc 184, 2) := by decide +kernel
theorem dX12_reckon_26 : decode cX12_reckon 26 = .ok (.iastore, 1) := by decide +kernel
theorem dX12_reckon_27 : decode cX12_reckon 27 = .ok (.iinc 2 1, 3) := by decide +kernel
theorem dX12_reckon_30 : decode cX12_reckon 30 = .ok (.goto (-18), 3) := by decide +kernel
theorem dX12_reckon_33 : decode cX12_reckon 33 = .ok (.aload_n 0, 1) := by decide +kernel
theorem dX12_reckon_34 : decode cX12_reckon 34 = .ok (.getfield 34, 3) := by decide +kernel
theorem dX12_reckon_37 : decode cX12_reckon 37 = .ok (.iconst 1, 1) := by decide +kernel
theorem dX12_reckon_38 : decode cX12_reckon 38 = .ok (.iconst 0, 1) := by decide +kernel
theorem dX12_reckon_39 : decode cX12_reckon 39 = .ok (.iastore, 1) := by decide +kernel
theorem dX12_reckon_40 : decode cX12_reckon 40 = .ok (.iconst 1, 1) := by decide +kernel
theorem dX12_reckon_41 : decode cX12_reckon 41 = .ok (.istore_n 2, 1) := by decide +kernel
theorem dX12_reckon_42 : decode cX12_reckon 42 = .ok (.iload_n 2, 1) := by decide +kernel
theorem dX12_reckon_43 : decode cX12_reckon 43 = .ok (.ifCond .eq 76, 3) := by decide +kernel
theorem dX12_reckon_46 : decode cX12_reckon 46 = .ok (.iconst 0, 1) := by decide +kernel
theorem dX12_reckon_47 : decode cX12_reckon 47 = .ok (.istore_n 2, 1) := by decide +kernel
theorem dX12_reckon_48 : decode cX12_reckon 48 = .ok (.iconst 0, 1) := by decide +kernel
theorem dX12_reckon_49 : decode cX12_reckon 49 = .ok (.istore_n 3, 1) := by decide +kernel
theorem dX12_reckon_50 : decode cX12_reckon 50 = .ok (.iload_n 3, 1) := by decide +kernel
theorem dX12_reckon_51 : decode cX12_reckon 51 = .ok (.iload_n 1, 1) := by decide +kernel
theorem dX12_reckon_52 : decode cX12_reckon 52 = .ok (.if_icmp .ge 64, 3) := by decide +kernel
theorem dX12_reckon_55 : decode cX12_reckon 55 = .ok (.iconst 0, 1) := by decide +kernel
theorem dX12_reckon_56 : decode cX12_reckon 56 = .ok (.istore 4, 2) := by decide +kernel
theorem dX12_reckon_58 : decode cX12_reckon 58 = .ok (.iload 4, 2) := by decide +kernel
theorem dX12_reckon_60 : decode cX12_reckon 60 = .ok (.aload_n 0, 1) := by decide +kernel
theorem dX12_reckon_61 : decode cX12_reckon 61 = .ok (.getfield 20, 3) := by decide +kernel
theorem dX12_reckon_64 : decode cX12_reckon 64 = .ok (.getfield 131, 3) := by decide +kernel
theorem dX12_reckon_67 : decode cX12_reckon 67 = .ok (.if_icmp .ge 43, 3) := by decide +kernel
theorem dX12_reckon_70 : decode cX12_reckon 70 = .ok (.iload 4, 2) := by decide +kernel
theorem dX12_reckon_72 : decode cX12_reckon 72 = .ok (.istore 5, 2) := by decide +kernel
theorem dX12_reckon_74 : decode cX12_reckon 74 = .ok (.iload 5, 2) := by decide +kernel
theorem dX12_reckon_76 : decode cX12_reckon 76 = .ok (.aload_n 0, 1) := by decide +kernel
theorem dX12_reckon_77 : decode cX12_reckon 77 = .ok (.getfield 20, 3) := by decide +kernel
theorem dX12_reckon_80 : decode cX12_reckon 80 = .ok (.getfield 131, 3) := by decide +kernel
theorem dX12_reckon_83 : decode cX12_reckon 83 = .ok (.if_icmp .ge 21, 3) := by decide +kernel
theorem dX12_reckon_86 : decode cX12_reckon 86 = .ok (.iload_n 2, 1) := by decide +kernel
theorem dX12_reckon_87 : decode cX12_reckon 87 = .ok (.aload_n 0, 1) := by decide +kernel
theorem dX12_reckon_88 : decode cX12_reckon 88 = .ok (.iload_n 3, 1) := by decide +kernel
theorem dX12_reckon_89 : decode cX12_reckon 89 = .ok (.iload 4, 2) := by decide +kernel
theorem dX12_reckon_91 : decode cX12_reckon 91 = .ok (.iload 5, 2) := by decide +kernel
theorem dX12_reckon_93 : decode cX12_reckon 93 = .ok (.invokevirtual 185, 3) := by decide +kernel
theorem dX12_reckon_96 : decode cX12_reckon 96 = .ok (.ior, 1) := by decide +kernel
theorem dX12_reckon_97 : decode cX12_reckon 97 = .ok (.istore_n 2, 1) := by decide +kernel
theorem dX12_reckon_98 : decode cX12_reckon 98 = .ok (.iinc 5 1, 3) := by decide +kernel
theorem dX12_reckon_101 : decode cX12_reckon 101 = .ok (.goto (-27), 3) := by decide +kernel
theorem dX12_reckon_104 : decode cX12_reckon 104 = .ok (.iinc 4 1, 3) := by decide +kernel
theorem dX12_reckon_107 : decode cX12_reckon 107 = .ok (.goto (-49), 3) := by decide +kernel
theorem dX12_reckon_110 : decode cX12_reckon 110 = .ok (.iinc 3 1, 3) := by decide +kernel
theorem dX12_reckon_113 : decode cX12_reckon 113 = .ok (.goto (-63), 3) := by decide +kernel
theorem dX12_reckon_116 : decode cX12_reckon 116 = .ok (.goto (-74), 3) := by decide +kernel
theorem dX12_reckon_119 : decode cX12_reckon 119 = .ok (.return_, 1) := by decide +kernel
theorem dX12_betters_0 : decode cX12_betters 0 = .ok (.iconst 1, 1) := by decide +kernel
theorem dX12_betters_1 : decode cX12_betters 1 = .ok (.iload_n 2, 1) := by decide +kernel
theorem dX12_betters_2 : decode cX12_betters 2 = .ok (.ishl, 1) := by decide +kernel
theorem dX12_betters_3 : decode cX12_betters 3 = .ok (.iconst 1, 1) := by decide +kernel
theorem dX12_betters_4 : decode cX12_betters 4 = .ok (.iload_n 3, 1) := by decide +kernel
theorem dX12_betters_5 : decode cX12_betters 5 = .ok (.ishl, 1) := by decide +kernel
theorem dX12_betters_6 : decode cX12_betters 6 = .ok (.ior, 1) := by decide +kernel
theorem dX12_betters_7 : decode cX12_betters 7 = .ok (.istore 4, 2) := by decide +kernel
theorem dX12_betters_9 : decode cX12_betters 9 = .ok (.iload_n 1, 1) := by decide +kernel
theorem dX12_betters_10 : decode cX12_betters 10 = .ok (.iload 4, 2) := by decide +kernel
theorem dX12_betters_12 : decode cX12_betters 12 = .ok (.iand, 1) := by decide +kernel
theorem dX12_betters_13 : decode cX12_betters 13 = .ok (.iload 4, 2) := by decide +kernel
theorem dX12_betters_15 : decode cX12_betters 15 = .ok (.if_icmp .eq 5, 3) := by decide +kernel
theorem dX12_betters_18 : decode cX12_betters 18 = .ok (.iconst 0, 1) := by decide +kernel
theorem dX12_betters_19 : decode cX12_betters 19 = .ok (.ireturn, 1) := by decide +kernel
theorem dX12_betters_20 : decode cX12_betters 20 = .ok (.aload_n 0, 1) := by decide +kernel
theorem dX12_betters_21 : decode cX12_betters 21 = .ok (.getfield 20, 3) := by decide +kernel
theorem dX12_betters_24 : decode cX12_betters 24 = .ok (.getfield 105, 3) := by decide +kernel
theorem dX12_betters_27 : decode cX12_betters 27 = .ok (.iload_n 2, 1) := by decide +kernel
theorem dX12_betters_28 : decode cX12_betters 28 = .ok (.iaload, 1) := by decide +kernel
theorem dX12_betters_29 : decode cX12_betters 29 = .ok (.aload_n 0, 1) := by decide +kernel
theorem dX12_betters_30 : decode cX12_betters 30 = .ok (.getfield 20, 3) := by decide +kernel
theorem dX12_betters_33 : decode cX12_betters 33 = .ok (.getfield 105, 3) := by decide +kernel
theorem dX12_betters_36 : decode cX12_betters 36 = .ok (.iload_n 3, 1) := by decide +kernel
theorem dX12_betters_37 : decode cX12_betters 37 = .ok (.iaload, 1) := by decide +kernel
theorem dX12_betters_38 : decode cX12_betters 38 = .ok (.invokestatic 92, 3) := by decide +kernel
theorem dX12_betters_41 : decode cX12_betters 41 = .ok (.istore 5, 2) := by decide +kernel
theorem dX12_betters_43 : decode cX12_betters 43 = .ok (.iconst 2, 1) := by decide +kernel
theorem dX12_betters_44 : decode cX12_betters 44 = .ok (.iload_n 1, 1) := by decide +kernel
theorem dX12_betters_45 : decode cX12_betters 45 = .ok (.imul, 1) := by decide +kernel
theorem dX12_betters_46 : decode cX12_betters 46 = .ok (.istore 6, 2) := by decide +kernel
theorem dX12_betters_48 : decode cX12_betters 48 = .ok (.iconst 2, 1) := by decide +kernel
theorem dX12_betters_49 : decode cX12_betters 49 = .ok (.iload_n 1, 1) := by decide +kernel
theorem dX12_betters_50 : decode cX12_betters 50 = .ok (.iload 4, 2) := by decide +kernel
theorem dX12_betters_52 : decode cX12_betters 52 = .ok (.iconst (-1), 1) := by decide +kernel
theorem dX12_betters_53 : decode cX12_betters 53 = .ok (.ixor, 1) := by decide +kernel
theorem dX12_betters_54 : decode cX12_betters 54 = .ok (.iand, 1) := by decide +kernel
theorem dX12_betters_55 : decode cX12_betters 55 = .ok (.imul, 1) := by decide +kernel
theorem dX12_betters_56 : decode cX12_betters 56 = .ok (.iconst 1, 1) := by decide +kernel
theorem dX12_betters_57 : decode cX12_betters 57 = .ok (.iadd, 1) := by decide +kernel
theorem dX12_betters_58 : decode cX12_betters 58 = .ok (.istore 7, 2) := by decide +kernel
theorem dX12_betters_60 : decode cX12_betters 60 = .ok (.iconst 0, 1) := by decide +kernel
theorem dX12_betters_61 : decode cX12_betters 61 = .ok (.istore 8, 2) := by decide +kernel
theorem dX12_betters_63 : decode cX12_betters 63 = .ok (.aload_n 0, 1) := by decide +kernel
theorem dX12_betters_64 : decode cX12_betters 64 = .ok (.getfield 34, 3) := by decide +kernel
theorem dX12_betters_67 : decode cX12_betters 67 = .ok (.iload 7, 2) := by decide +kernel
theorem dX12_betters_69 : decode cX12_betters 69 = .ok (.iaload, 1) := by decide +kernel
theorem dX12_betters_70 : decode cX12_betters 70 = .ok (.iload 5, 2) := by decide +kernel
theorem dX12_betters_72 : decode cX12_betters 72 = .ok (.iadd, 1) := by decide +kernel
theorem dX12_betters_73 : decode cX12_betters 73 = .ok (.aload_n 0, 1) := by decide +kernel
theorem dX12_betters_74 : decode cX12_betters 74 = .ok (.getfield 34, 3) := by decide +kernel
theorem dX12_betters_77 : decode cX12_betters 77 = .ok (.iload 6, 2) := by decide +kernel
theorem dX12_betters_79 : decode cX12_betters 79 = .ok (.iaload, 1) := by decide +kernel
theorem dX12_betters_80 : decode cX12_betters 80 = .ok (.if_icmp .ge 23, 3) := by decide +kernel
theorem dX12_betters_83 : decode cX12_betters 83 = .ok (.aload_n 0, 1) := by decide +kernel
theorem dX12_betters_84 : decode cX12_betters 84 = .ok (.getfield 34, 3) := by decide +kernel
theorem dX12_betters_87 : decode cX12_betters 87 = .ok (.iload 6, 2) := by decide +kernel
theorem dX12_betters_89 : decode cX12_betters 89 = .ok (.aload_n 0, 1) := by decide +kernel
theorem dX12_betters_90 : decode cX12_betters 90 = .ok (.getfield 34, 3) := by decide +kernel
theorem dX12_betters_93 : decode cX12_betters 93 = .ok (.iload 7, 2) := by decide +kernel
theorem dX12_betters_95 : decode cX12_betters 95 = .ok (.iaload, 1) := by decide +kernel
theorem dX12_betters_96 : decode cX12_betters 96 = .ok (.iload 5, 2) := by decide +kernel
theorem dX12_betters_98 : decode cX12_betters 98 = .ok (.iadd, 1) := by decide +kernel
theorem dX12_betters_99 : decode cX12_betters 99 = .ok (.iastore, 1) := by decide +kernel
theorem dX12_betters_100 : decode cX12_betters 100 = .ok (.iconst 1, 1) := by decide +kernel
theorem dX12_betters_101 : decode cX12_betters 101 = .ok (.istore 8, 2) := by decide +kernel
theorem dX12_betters_103 : decode cX12_betters 103 = .ok (.aload_n 0, 1) := by decide +kernel
theorem dX12_betters_104 : decode cX12_betters 104 = .ok (.getfield 34, 3) := by decide +kernel
theorem dX12_betters_107 : decode cX12_betters 107 = .ok (.iload 6, 2) := by decide +kernel
theorem dX12_betters_109 : decode cX12_betters 109 = .ok (.iaload, 1) := by decide +kernel
theorem dX12_betters_110 : decode cX12_betters 110 = .ok (.iload 5, 2) := by decide +kernel
theorem dX12_betters_112 : decode cX12_betters 112 = .ok (.iadd, 1) := by decide +kernel
theorem dX12_betters_113 : decode cX12_betters 113 = .ok (.aload_n 0, 1) := by decide +kernel
theorem dX12_betters_114 : decode cX12_betters 114 = .ok (.getfield 34, 3) := by decide +kernel
theorem dX12_betters_117 : decode cX12_betters 117 = .ok (.iload 7, 2) := by decide +kernel
theorem dX12_betters_119 : decode cX12_betters 119 = .ok (.iaload, 1) := by decide +kernel
theorem dX12_betters_120 : decode cX12_betters 120 = .ok (.if_icmp .ge 23, 3) := by decide +kernel
theorem dX12_betters_123 : decode cX12_betters 123 = .ok (.aload_n 0, 1) := by decide +kernel
theorem dX12_betters_124 : decode cX12_betters 124 = .ok (.getfield 34, 3) := by decide +kernel
theorem dX12_betters_127 : decode cX12_betters 127 = .ok (.iload 7, 2) := by decide +kernel
theorem dX12_betters_129 : decode cX12_betters 129 = .ok (.aload_n 0, 1) := by decide +kernel
theorem dX12_betters_130 : decode cX12_betters 130 = .ok (.getfield 34, 3) := by decide +kernel
theorem dX12_betters_133 : decode cX12_betters 133 = .ok (.iload 6, 2) := by decide +kernel
theorem dX12_betters_135 : decode cX12_betters 135 = .ok (.iaload, 1) := by decide +kernel
theorem dX12_betters_136 : decode cX12_betters 136 = .ok (.iload 5, 2) := by decide +kernel
theorem dX12_betters_138 : decode cX12_betters 138 = .ok (.iadd, 1) := by decide +kernel
theorem dX12_betters_139 : decode cX12_betters 139 = .ok (.iastore, 1) := by decide +kernel
theorem dX12_betters_140 : decode cX12_betters 140 = .ok (.iconst 1, 1) := by decide +kernel
theorem dX12_betters_141 : decode cX12_betters 141 = .ok (.istore 8, 2) := by decide +kernel
theorem dX12_betters_143 : decode cX12_betters 143 = .ok (.iload 8, 2) := by decide +kernel
theorem dX12_betters_145 : decode cX12_betters 145 = .ok (.ireturn, 1) := by decide +kernel
theorem dX12_state_0 : decode cX12_state 0 = .ok (.iconst 0, 1) := by decide +kernel
theorem dX12_state_1 : decode cX12_state 1 = .ok (.istore_n 1, 1) := by decide +kernel
theorem dX12_state_2 : decode cX12_state 2 = .ok (.iconst 0, 1) := by decide +kernel
theorem dX12_state_3 : decode cX12_state 3 = .ok (.istore_n 2, 1) := by decide +kernel
theorem dX12_state_4 : decode cX12_state 4 = .ok (.iload_n 2, 1) := by decide +kernel
theorem dX12_state_5 : decode cX12_state 5 = .ok (.aload_n 0, 1) := by decide +kernel
theorem dX12_state_6 : decode cX12_state 6 = .ok (.getfield 20, 3) := by decide +kernel
theorem dX12_state_9 : decode cX12_state 9 = .ok (.getfield 131, 3) := by decide +kernel
theorem dX12_state_12 : decode cX12_state 12 = .ok (.if_icmp .ge 25, 3) := by decide +kernel
theorem dX12_state_15 : decode cX12_state 15 = .ok (.iload_n 1, 1) := by decide +kernel
theorem dX12_state_16 : decode cX12_state 16 = .ok (.iconst 1, 1) := by decide +kernel
theorem dX12_state_17 : decode cX12_state 17 = .ok (.aload_n 0, 1) := by decide +kernel
theorem dX12_state_18 : decode cX12_state 18 = .ok (.getfield 24, 3) := by decide +kernel
theorem dX12_state_21 : decode cX12_state 21 = .ok (.bipush 8, 2) := by decide +kernel
theorem dX12_state_23 : decode cX12_state 23 = .ok (.iload_n 2, 1) := by decide +kernel
theorem dX12_state_24 : decode cX12_state 24 = .ok (.iadd, 1) := by decide +kernel
theorem dX12_state_25 : decode cX12_state 25 = .ok (.iaload, 1) := by decide +kernel
theorem dX12_state_26 : decode cX12_state 26 = .ok (.isub, 1) := by decide +kernel
theorem dX12_state_27 : decode cX12_state 27 = .ok (.iload_n 2, 1) := by decide +kernel
theorem dX12_state_28 : decode cX12_state 28 = .ok (.ishl, 1) := by decide +kernel
theorem dX12_state_29 : decode cX12_state 29 = .ok (.ior, 1) := by decide +kernel
theorem dX12_state_30 : decode cX12_state 30 = .ok (.istore_n 1, 1) := by decide +kernel
theorem dX12_state_31 : decode cX12_state 31 = .ok (.iinc 2 1, 3) := by decide +kernel
theorem dX12_state_34 : decode cX12_state 34 = .ok (.goto (-30), 3) := by decide +kernel
theorem dX12_state_37 : decode cX12_state 37 = .ok (.iconst 2, 1) := by decide +kernel
theorem dX12_state_38 : decode cX12_state 38 = .ok (.iload_n 1, 1) := by decide +kernel
theorem dX12_state_39 : decode cX12_state 39 = .ok (.imul, 1) := by decide +kernel
theorem dX12_state_40 : decode cX12_state 40 = .ok (.aload_n 0, 1) := by decide +kernel
theorem dX12_state_41 : decode cX12_state 41 = .ok (.getfield 24, 3) := by decide +kernel
theorem dX12_state_44 : decode cX12_state 44 = .ok (.iconst 0, 1) := by decide +kernel
theorem dX12_state_45 : decode cX12_state 45 = .ok (.iaload, 1) := by decide +kernel
theorem dX12_state_46 : decode cX12_state 46 = .ok (.iadd, 1) := by decide +kernel
theorem dX12_state_47 : decode cX12_state 47 = .ok (.ireturn, 1) := by decide +kernel
theorem dX12_canBegin_0 : decode cX12_canBegin 0 = .ok (.aload_n 0, 1) := by decide +kernel
theorem dX12_canBegin_1 : decode cX12_canBegin 1 = .ok (.getfield 24, 3) := by decide +kernel
theorem dX12_canBegin_4 : decode cX12_canBegin 4 = .ok (.bipush 8, 2) := by decide +kernel
theorem dX12_canBegin_6 : decode cX12_canBegin 6 = .ok (.iload_n 1, 1) := by decide +kernel
theorem dX12_canBegin_7 : decode cX12_canBegin 7 = .ok (.iadd, 1) := by decide +kernel
theorem dX12_canBegin_8 : decode cX12_canBegin 8 = .ok (.iaload, 1) := by decide +kernel
theorem dX12_canBegin_9 : decode cX12_canBegin 9 = .ok (.aload_n 0, 1) := by decide +kernel
theorem dX12_canBegin_10 : decode cX12_canBegin 10 = .ok (.getfield 24, 3) := by decide +kernel
theorem dX12_canBegin_13 : decode cX12_canBegin 13 = .ok (.iconst 0, 1) := by decide +kernel
theorem dX12_canBegin_14 : decode cX12_canBegin 14 = .ok (.iaload, 1) := by decide +kernel
theorem dX12_canBegin_15 : decode cX12_canBegin 15 = .ok (.if_icmp .ne 21, 3) := by decide +kernel
theorem dX12_canBegin_18 : decode cX12_canBegin 18 = .ok (.aload_n 0, 1) := by decide +kernel
theorem dX12_canBegin_19 : decode cX12_canBegin 19 = .ok (.getfield 24, 3) := by decide +kernel
theorem dX12_canBegin_22 : decode cX12_canBegin 22 = .ok (.bipush 8, 2) := by decide +kernel
theorem dX12_canBegin_24 : decode cX12_canBegin 24 = .ok (.iload_n 2, 1) := by decide +kernel
theorem dX12_canBegin_25 : decode cX12_canBegin 25 = .ok (.iadd, 1) := by decide +kernel
theorem dX12_canBegin_26 : decode cX12_canBegin 26 = .ok (.iaload, 1) := by decide +kernel
theorem dX12_canBegin_27 : decode cX12_canBegin 27 = .ok (.aload_n 0, 1) := by decide +kernel
theorem dX12_canBegin_28 : decode cX12_canBegin 28 = .ok (.getfield 24, 3) := by decide +kernel
theorem dX12_canBegin_31 : decode cX12_canBegin 31 = .ok (.iconst 0, 1) := by decide +kernel
theorem dX12_canBegin_32 : decode cX12_canBegin 32 = .ok (.iaload, 1) := by decide +kernel
theorem dX12_canBegin_33 : decode cX12_canBegin 33 = .ok (.if_icmp .eq 5, 3) := by decide +kernel
theorem dX12_canBegin_36 : decode cX12_canBegin 36 = .ok (.iconst 0, 1) := by decide +kernel
theorem dX12_canBegin_37 : decode cX12_canBegin 37 = .ok (.ireturn, 1) := by decide +kernel
theorem dX12_canBegin_38 : decode cX12_canBegin 38 = .ok (.aload_n 0, 1) := by decide +kernel
theorem dX12_canBegin_39 : decode cX12_canBegin 39 = .ok (.invokevirtual 188, 3) := by decide +kernel
theorem dX12_canBegin_42 : decode cX12_canBegin 42 = .ok (.istore_n 3, 1) := by decide +kernel
theorem dX12_canBegin_43 : decode cX12_canBegin 43 = .ok (.iload_n 3, 1) := by decide +kernel
theorem dX12_canBegin_44 : decode cX12_canBegin 44 = .ok (.iconst 2, 1) := by decide +kernel
theorem dX12_canBegin_45 : decode cX12_canBegin 45 = .ok (.iconst 1, 1) := by decide +kernel
theorem dX12_canBegin_46 : decode cX12_canBegin 46 = .ok (.iload_n 1, 1) := by decide +kernel
theorem dX12_canBegin_47 : decode cX12_canBegin 47 = .ok (.ishl, 1) := by decide +kernel
theorem dX12_canBegin_48 : decode cX12_canBegin 48 = .ok (.iconst 1, 1) := by decide +kernel
theorem dX12_canBegin_49 : decode cX12_canBegin 49 = .ok (.iload_n 2, 1) := by decide +kernel
theorem dX12_canBegin_50 : decode cX12_canBegin 50 = .ok (.ishl, 1) := by decide +kernel
theorem dX12_canBegin_51 : decode cX12_canBegin 51 = .ok (.ior, 1) := by decide +kernel
theorem dX12_canBegin_52 : decode cX12_canBegin 52 = .ok (.imul, 1) := by decide +kernel
theorem dX12_canBegin_53 : decode cX12_canBegin 53 = .ok (.ixor, 1) := by decide +kernel
theorem dX12_canBegin_54 : decode cX12_canBegin 54 = .ok (.iconst 1, 1) := by decide +kernel
theorem dX12_canBegin_55 : decode cX12_canBegin 55 = .ok (.ixor, 1) := by decide +kernel
theorem dX12_canBegin_56 : decode cX12_canBegin 56 = .ok (.istore 4, 2) := by decide +kernel
theorem dX12_canBegin_58 : decode cX12_canBegin 58 = .ok (.aload_n 0, 1) := by decide +kernel
theorem dX12_canBegin_59 : decode cX12_canBegin 59 = .ok (.getfield 34, 3) := by decide +kernel
theorem dX12_canBegin_62 : decode cX12_canBegin 62 = .ok (.iload_n 3, 1) := by decide +kernel
theorem dX12_canBegin_63 : decode cX12_canBegin 63 = .ok (.iaload, 1) := by decide +kernel
theorem dX12_canBegin_64 : decode cX12_canBegin 64 = .ok (.aload_n 0, 1) := by decide +kernel
theorem dX12_canBegin_65 : decode cX12_canBegin 65 = .ok (.getfield 34, 3) := by decide +kernel
theorem dX12_canBegin_68 : decode cX12_canBegin 68 = .ok (.iload 4, 2) := by decide +kernel
theorem dX12_canBegin_70 : decode cX12_canBegin 70 = .ok (.iaload, 1) := by decide +kernel
theorem dX12_canBegin_71 : decode cX12_canBegin 71 = .ok (.aload_n 0, 1) := by decide +kernel
theorem dX12_canBegin_72 : decode cX12_canBegin 72 = .ok (.getfield 20, 3) := by decide +kernel
theorem dX12_canBegin_75 : decode cX12_canBegin 75 = .ok (.getfield 105, 3) := by decide +kernel
theorem dX12_canBegin_78 : decode cX12_canBegin 78 = .ok (.iload_n 1, 1) := by decide +kernel
theorem dX12_canBegin_79 : decode cX12_canBegin 79 = .ok (.iaload, 1) := by decide +kernel
theorem dX12_canBegin_80 : decode cX12_canBegin 80 = .ok (.aload_n 0, 1) := by decide +kernel
theorem dX12_canBegin_81 : decode cX12_canBegin 81 = .ok (.getfield 20, 3) := by decide +kernel
theorem dX12_canBegin_84 : decode cX12_canBegin 84 = .ok (.getfield 105, 3) := by decide +kernel
theorem dX12_canBegin_87 : decode cX12_canBegin 87 = .ok (.iload_n 2, 1) := by decide +kernel
theorem dX12_canBegin_88 : decode cX12_canBegin 88 = .ok (.iaload, 1) := by decide +kernel
theorem dX12_canBegin_89 : decode cX12_canBegin 89 = .ok (.invokestatic 92, 3) := by decide +kernel
theorem dX12_canBegin_92 : decode cX12_canBegin 92 = .ok (.iadd, 1) := by decide +kernel
theorem dX12_canBegin_93 : decode cX12_canBegin 93 = .ok (.if_icmp .ne 7, 3) := by decide +kernel
theorem dX12_canBegin_96 : decode cX12_canBegin 96 = .ok (.iconst 1, 1) := by decide +kernel
theorem dX12_canBegin_97 : decode cX12_canBegin 97 = .ok (.goto 4, 3) := by decide +kernel
theorem dX12_canBegin_100 : decode cX12_canBegin 100 = .ok (.iconst 0, 1) := by decide +kernel
theorem dX12_canBegin_101 : decode cX12_canBegin 101 = .ok (.ireturn, 1) := by decide +kernel
theorem dX12_first_0 : decode cX12_first 0 = .ok (.aload_n 0, 1) := by decide +kernel
theorem dX12_first_1 : decode cX12_first 1 = .ok (.invokevirtual 191, 3) := by decide +kernel
theorem dX12_first_4 : decode cX12_first 4 = .ok (.iconst 0, 1) := by decide +kernel
theorem dX12_first_5 : decode cX12_first 5 = .ok (.istore_n 1, 1) := by decide +kernel
theorem dX12_first_6 : decode cX12_first 6 = .ok (.iload_n 1, 1) := by decide +kernel
theorem dX12_first_7 : decode cX12_first 7 = .ok (.aload_n 0, 1) := by decide +kernel
theorem dX12_first_8 : decode cX12_first 8 = .ok (.getfield 20, 3) := by decide +kernel
theorem dX12_first_11 : decode cX12_first 11 = .ok (.getfield 131, 3) := by decide +kernel
theorem dX12_first_14 : decode cX12_first 14 = .ok (.if_icmp .ge 39, 3) := by decide +kernel
theorem dX12_first_17 : decode cX12_first 17 = .ok (.iconst 0, 1) := by decide +kernel
theorem dX12_first_18 : decode cX12_first 18 = .ok (.istore_n 2, 1) := by decide +kernel
theorem dX12_first_19 : decode cX12_first 19 = .ok (.iload_n 2, 1) := by decide +kernel
theorem dX12_first_20 : decode cX12_first 20 = .ok (.aload_n 0, 1) := by decide +kernel
theorem dX12_first_21 : decode cX12_first 21 = .ok (.getfield 20, 3) := by decide +kernel
theorem dX12_first_24 : decode cX12_first 24 = .ok (.getfield 131, 3) := by decide +kernel
theorem dX12_first_27 : decode cX12_first 27 = .ok (.if_icmp .ge 20, 3) := by decide +kernel
theorem dX12_first_30 : decode cX12_first 30 = .ok (.aload_n 0, 1) := by decide +kernel
theorem dX12_first_31 : decode cX12_first 31 = .ok (.iload_n 1, 1) := by decide +kernel
theorem dX12_first_32 : decode cX12_first 32 = .ok (.iload_n 2, 1) := by decide +kernel
theorem dX12_first_33 : decode cX12_first 33 = .ok (.invokevirtual 194, 3) := by decide +kernel
theorem dX12_first_36 : decode cX12_first 36 = .ok (.ifCond .eq 5, 3) := by decide +kernel
theorem dX12_first_39 : decode cX12_first 39 = .ok (.iload_n 1, 1) := by decide +kernel
theorem dX12_first_40 : decode cX12_first 40 = .ok (.ireturn, 1) := by decide +kernel
theorem dX12_first_41 : decode cX12_first 41 = .ok (.iinc 2 1, 3) := by decide +kernel
theorem dX12_first_44 : decode cX12_first 44 = .ok (.goto (-25), 3) := by decide +kernel
theorem dX12_first_47 : decode cX12_first 47 = .ok (.iinc 1 1, 3) := by decide +kernel
theorem dX12_first_50 : decode cX12_first 50 = .ok (.goto (-44), 3) := by decide +kernel
theorem dX12_first_53 : decode cX12_first 53 = .ok (.iconst (-1), 1) := by decide +kernel
theorem dX12_first_54 : decode cX12_first 54 = .ok (.ireturn, 1) := by decide +kernel
theorem dX12_walkers_0 : decode cX12_walkers 0 = .ok (.aload_n 0, 1) := by decide +kernel
theorem dX12_walkers_1 : decode cX12_walkers 1 = .ok (.aload_n 0, 1) := by decide +kernel
theorem dX12_walkers_2 : decode cX12_walkers 2 = .ok (.getfield 20, 3) := by decide +kernel
theorem dX12_walkers_5 : decode cX12_walkers 5 = .ok (.getfield 131, 3) := by decide +kernel
theorem dX12_walkers_8 : decode cX12_walkers 8 = .ok (.invokevirtual 80, 3) := by decide +kernel
theorem dX12_walkers_11 : decode cX12_walkers 11 = .ok (.ireturn, 1) := by decide +kernel
theorem dX12_planks_0 : decode cX12_planks 0 = .ok (.aload_n 0, 1) := by decide +kernel
theorem dX12_planks_1 : decode cX12_planks 1 = .ok (.aload_n 0, 1) := by decide +kernel
theorem dX12_planks_2 : decode cX12_planks 2 = .ok (.getfield 20, 3) := by decide +kernel
theorem dX12_planks_5 : decode cX12_planks 5 = .ok (.getfield 37, 3) := by decide +kernel
theorem dX12_planks_8 : decode cX12_planks 8 = .ok (.invokevirtual 80, 3) := by decide +kernel
theorem dX12_planks_11 : decode cX12_planks 11 = .ok (.ireturn, 1) := by decide +kernel
theorem dX12_plans_0 : decode cX12_plans 0 = .ok (.aload_n 0, 1) := by decide +kernel
theorem dX12_plans_1 : decode cX12_plans 1 = .ok (.aload_n 0, 1) := by decide +kernel
theorem dX12_plans_2 : decode cX12_plans 2 = .ok (.getfield 20, 3) := by decide +kernel
theorem dX12_plans_5 : decode cX12_plans 5 = .ok (.getfield 197, 3) := by decide +kernel
theorem dX12_plans_8 : decode cX12_plans 8 = .ok (.invokevirtual 80, 3) := by decide +kernel
theorem dX12_plans_11 : decode cX12_plans 11 = .ok (.ireturn, 1) := by decide +kernel
theorem dX12_isWalker_0 : decode cX12_isWalker 0 = .ok (.iload_n 1, 1) := by decide +kernel
theorem dX12_isWalker_1 : decode cX12_isWalker 1 = .ok (.iconst 0, 1) := by decide +kernel
theorem dX12_isWalker_2 : decode cX12_isWalker 2 = .ok (.aload_n 0, 1) := by decide +kernel
theorem dX12_isWalker_3 : decode cX12_isWalker 3 = .ok (.getfield 20, 3) := by decide +kernel
theorem dX12_isWalker_6 : decode cX12_isWalker 6 = .ok (.getfield 131, 3) := by decide +kernel
theorem dX12_isWalker_9 : decode cX12_isWalker 9 = .ok (.iconst 1, 1) := by decide +kernel
theorem dX12_isWalker_10 : decode cX12_isWalker 10 = .ok (.isub, 1) := by decide +kernel
theorem dX12_isWalker_11 : decode cX12_isWalker 11 = .ok (.invokestatic 56, 3) := by decide +kernel
theorem dX12_isWalker_14 : decode cX12_isWalker 14 = .ok (.ireturn, 1) := by decide +kernel
theorem dX12_isPlank_0 : decode cX12_isPlank 0 = .ok (.iload_n 1, 1) := by decide +kernel
theorem dX12_isPlank_1 : decode cX12_isPlank 1 = .ok (.iconst 0, 1) := by decide +kernel
theorem dX12_isPlank_2 : decode cX12_isPlank 2 = .ok (.aload_n 0, 1) := by decide +kernel
theorem dX12_isPlank_3 : decode cX12_isPlank 3 = .ok (.getfield 20, 3) := by decide +kernel
theorem dX12_isPlank_6 : decode cX12_isPlank 6 = .ok (.getfield 37, 3) := by decide +kernel
theorem dX12_isPlank_9 : decode cX12_isPlank 9 = .ok (.iconst 1, 1) := by decide +kernel
theorem dX12_isPlank_10 : decode cX12_isPlank 10 = .ok (.isub, 1) := by decide +kernel
theorem dX12_isPlank_11 : decode cX12_isPlank 11 = .ok (.invokestatic 56, 3) := by decide +kernel
theorem dX12_isPlank_14 : decode cX12_isPlank 14 = .ok (.ireturn, 1) := by decide +kernel
theorem dX12_isPlan_0 : decode cX12_isPlan 0 = .ok (.iload_n 1, 1) := by decide +kernel
theorem dX12_isPlan_1 : decode cX12_isPlan 1 = .ok (.iconst 0, 1) := by decide +kernel
theorem dX12_isPlan_2 : decode cX12_isPlan 2 = .ok (.aload_n 0, 1) := by decide +kernel
theorem dX12_isPlan_3 : decode cX12_isPlan 3 = .ok (.getfield 20, 3) := by decide +kernel
theorem dX12_isPlan_6 : decode cX12_isPlan 6 = .ok (.getfield 197, 3) := by decide +kernel
theorem dX12_isPlan_9 : decode cX12_isPlan 9 = .ok (.iconst 1, 1) := by decide +kernel
theorem dX12_isPlan_10 : decode cX12_isPlan 10 = .ok (.isub, 1) := by decide +kernel
theorem dX12_isPlan_11 : decode cX12_isPlan 11 = .ok (.invokestatic 56, 3) := by decide +kernel
theorem dX12_isPlan_14 : decode cX12_isPlan 14 = .ok (.ireturn, 1) := by decide +kernel
theorem dX12_weightOf_0 : decode cX12_weightOf 0 = .ok (.aload_n 0, 1) := by decide +kernel
theorem dX12_weightOf_1 : decode cX12_weightOf 1 = .ok (.iconst 0, 1) := by decide +kernel
theorem dX12_weightOf_2 : decode cX12_weightOf 2 = .ok (.putfield 46, 3) := by decide +kernel
theorem dX12_weightOf_5 : decode cX12_weightOf 5 = .ok (.aload_n 0, 1) := by decide +kernel
theorem dX12_weightOf_6 : decode cX12_weightOf 6 = .ok (.iload_n 1, 1) := by decide +kernel
theorem dX12_weightOf_7 : decode cX12_weightOf 7 = .ok (.invokevirtual 200, 3) := by decide +kernel
theorem dX12_weightOf_10 : decode cX12_weightOf 10 = .ok (.ifCond .eq 15, 3) := by decide +kernel
theorem dX12_weightOf_13 : decode cX12_weightOf 13 = .ok (.aload_n 0, 1) := by decide +kernel
theorem dX12_weightOf_14 : decode cX12_weightOf 14 = .ok (.getfield 20, 3) := by decide +kernel
theorem dX12_weightOf_17 : decode cX12_weightOf 17 = .ok (.getfield 121, 3) := by decide +kernel
theorem dX12_weightOf_20 : decode cX12_weightOf 20 = .ok (.iload_n 1, 1) := by decide +kernel
theorem dX12_weightOf_21 : decode cX12_weightOf 21 = .ok (.iaload, 1) := by decide +kernel
theorem dX12_weightOf_22 : decode cX12_weightOf 22 = .ok (.goto 8, 3) := by decide +kernel
theorem dX12_weightOf_25 : decode cX12_weightOf 25 = .ok (.aload_n 0, 1) := by decide +kernel
theorem dX12_weightOf_26 : decode cX12_weightOf 26 = .ok (.iconst 1, 1) := by decide +kernel
theorem dX12_weightOf_27 : decode cX12_weightOf 27 = .ok (.invokevirtual 52, 3) := by decide +kernel
theorem dX12_weightOf_30 : decode cX12_weightOf 30 = .ok (.ireturn, 1) := by decide +kernel
theorem dX12_minutesOf_0 : decode cX12_minutesOf 0 = .ok (.aload_n 0, 1) := by decide +kernel
theorem dX12_minutesOf_1 : decode cX12_minutesOf 1 = .ok (.iconst 0, 1) := by decide +kernel
theorem dX12_minutesOf_2 : decode cX12_minutesOf 2 = .ok (.putfield 46, 3) := by decide +kernel
theorem dX12_minutesOf_5 : decode cX12_minutesOf 5 = .ok (.aload_n 0, 1) := by decide +kernel
theorem dX12_minutesOf_6 : decode cX12_minutesOf 6 = .ok (.iload_n 1, 1) := by decide +kernel
theorem dX12_minutesOf_7 : decode cX12_minutesOf 7 = .ok (.invokevirtual 200, 3) := by decide +kernel
theorem dX12_minutesOf_10 : decode cX12_minutesOf 10 = .ok (.ifCond .eq 15, 3) := by decide +kernel
theorem dX12_minutesOf_13 : decode cX12_minutesOf 13 = .ok (.aload_n 0, 1) := by decide +kernel
theorem dX12_minutesOf_14 : decode cX12_minutesOf 14 = .ok (.getfield 20, 3) := by decide +kernel
theorem dX12_minutesOf_17 : decode cX12_minutesOf 17 = .ok (.getfield 105, 3) := by decide +kernel
theorem dX12_minutesOf_20 : decode cX12_minutesOf 20 = .ok (.iload_n 1, 1) := by decide +kernel
theorem dX12_minutesOf_21 : decode cX12_minutesOf 21 = .ok (.iaload, 1) := by decide +kernel
theorem dX12_minutesOf_22 : decode cX12_minutesOf 22 = .ok (.goto 8, 3) := by decide +kernel
theorem dX12_minutesOf_25 : decode cX12_minutesOf 25 = .ok (.aload_n 0, 1) := by decide +kernel
theorem dX12_minutesOf_26 : decode cX12_minutesOf 26 = .ok (.iconst 1, 1) := by decide +kernel
theorem dX12_minutesOf_27 : decode cX12_minutesOf 27 = .ok (.invokevirtual 52, 3) := by decide +kernel
theorem dX12_minutesOf_30 : decode cX12_minutesOf 30 = .ok (.ireturn, 1) := by decide +kernel
theorem dX12_isNear_0 : decode cX12_isNear 0 = .ok (.aload_n 0, 1) := by decide +kernel
theorem dX12_isNear_1 : decode cX12_isNear 1 = .ok (.iconst 0, 1) := by decide +kernel
theorem dX12_isNear_2 : decode cX12_isNear 2 = .ok (.putfield 46, 3) := by decide +kernel
theorem dX12_isNear_5 : decode cX12_isNear 5 = .ok (.aload_n 0, 1) := by decide +kernel
theorem dX12_isNear_6 : decode cX12_isNear 6 = .ok (.iload_n 1, 1) := by decide +kernel
theorem dX12_isNear_7 : decode cX12_isNear 7 = .ok (.invokevirtual 200, 3) := by decide +kernel
theorem dX12_isNear_10 : decode cX12_isNear 10 = .ok (.ifCond .eq 23, 3) := by decide +kernel
theorem dX12_isNear_13 : decode cX12_isNear 13 = .ok (.aload_n 0, 1) := by decide +kernel
theorem dX12_isNear_14 : decode cX12_isNear 14 = .ok (.getfield 24, 3) := by decide +kernel
theorem dX12_isNear_17 : decode cX12_isNear 17 = .ok (.bipush 8, 2) := by decide +kernel
theorem dX12_isNear_19 : decode cX12_isNear 19 = .ok (.iload_n 1, 1) := by decide +kernel
theorem dX12_isNear_20 : decode cX12_isNear 20 = .ok (.iadd, 1) := by decide +kernel
theorem dX12_isNear_21 : decode cX12_isNear 21 = .ok (.iaload, 1) := by decide +kernel
theorem dX12_isNear_22 : decode cX12_isNear 22 = .ok (.ifCond .ne 7, 3) := by decide +kernel
theorem dX12_isNear_25 : decode cX12_isNear 25 = .ok (.iconst 1, 1) := by decide +kernel
theorem dX12_isNear_26 : decode cX12_isNear 26 = .ok (.goto 12, 3) := by decide +kernel
theorem dX12_isNear_29 : decode cX12_isNear 29 = .ok (.iconst 0, 1) := by decide +kernel
theorem dX12_isNear_30 : decode cX12_isNear 30 = .ok (.goto 8, 3) := by decide +kernel
theorem dX12_isNear_33 : decode cX12_isNear 33 = .ok (.aload_n 0, 1) := by decide +kernel
theorem dX12_isNear_34 : decode cX12_isNear 34 = .ok (.iconst 1, 1) := by decide +kernel
theorem dX12_isNear_35 : decode cX12_isNear 35 = .ok (.invokevirtual 203, 3) := by decide +kernel
theorem dX12_isNear_38 : decode cX12_isNear 38 = .ok (.ireturn, 1) := by decide +kernel
theorem dX12_walkersNear_0 : decode cX12_walkersNear 0 = .ok (.aload_n 0, 1) := by decide +kernel
theorem dX12_walkersNear_1 : decode cX12_walkersNear 1 = .ok (.aload_n 0, 1) := by decide +kernel
theorem dX12_walkersNear_2 : decode cX12_walkersNear 2 = .ok (.invokevirtual 134, 3) := by decide +kernel
theorem dX12_walkersNear_5 : decode cX12_walkersNear 5 = .ok (.invokevirtual 80, 3) := by decide +kernel
theorem dX12_walkersNear_8 : decode cX12_walkersNear 8 = .ok (.ireturn, 1) := by decide +kernel
theorem dX12_strengthOf_0 : decode cX12_strengthOf 0 = .ok (.aload_n 0, 1) := by decide +kernel
theorem dX12_strengthOf_1 : decode cX12_strengthOf 1 = .ok (.iconst 0, 1) := by decide +kernel
theorem dX12_strengthOf_2 : decode cX12_strengthOf 2 = .ok (.putfield 46, 3) := by decide +kernel
theorem dX12_strengthOf_5 : decode cX12_strengthOf 5 = .ok (.aload_n 0, 1) := by decide +kernel
theorem dX12_strengthOf_6 : decode cX12_strengthOf 6 = .ok (.iload_n 1, 1) := by decide +kernel
theorem dX12_strengthOf_7 : decode cX12_strengthOf 7 = .ok (.invokevirtual 206, 3) := by decide +kernel
theorem dX12_strengthOf_10 : decode cX12_strengthOf 10 = .ok (.ifCond .eq 15, 3) := by decide +kernel
theorem dX12_strengthOf_13 : decode cX12_strengthOf 13 = .ok (.aload_n 0, 1) := by decide +kernel
theorem dX12_strengthOf_14 : decode cX12_strengthOf 14 = .ok (.getfield 24, 3) := by decide +kernel
theorem dX12_strengthOf_17 : decode cX12_strengthOf 17 = .ok (.bipush 16, 2) := by decide +kernel
theorem dX12_strengthOf_19 : decode cX12_strengthOf 19 = .ok (.iload_n 1, 1) := by decide +kernel
theorem dX12_strengthOf_20 : decode cX12_strengthOf 20 = .ok (.iadd, 1) := by decide +kernel
theorem dX12_strengthOf_21 : decode cX12_strengthOf 21 = .ok (.iaload, 1) := by decide +kernel
theorem dX12_strengthOf_22 : decode cX12_strengthOf 22 = .ok (.goto 8, 3) := by decide +kernel
theorem dX12_strengthOf_25 : decode cX12_strengthOf 25 = .ok (.aload_n 0, 1) := by decide +kernel
theorem dX12_strengthOf_26 : decode cX12_strengthOf 26 = .ok (.iconst 1, 1) := by decide +kernel
theorem dX12_strengthOf_27 : decode cX12_strengthOf 27 = .ok (.invokevirtual 52, 3) := by decide +kernel
theorem dX12_strengthOf_30 : decode cX12_strengthOf 30 = .ok (.ireturn, 1) := by decide +kernel
theorem dX12_bears_0 : decode cX12_bears 0 = .ok (.aload_n 0, 1) := by decide +kernel
theorem dX12_bears_1 : decode cX12_bears 1 = .ok (.iconst 0, 1) := by decide +kernel
theorem dX12_bears_2 : decode cX12_bears 2 = .ok (.putfield 46, 3) := by decide +kernel
theorem dX12_bears_5 : decode cX12_bears 5 = .ok (.aload_n 0, 1) := by decide +kernel
theorem dX12_bears_6 : decode cX12_bears 6 = .ok (.iload_n 1, 1) := by decide +kernel
theorem dX12_bears_7 : decode cX12_bears 7 = .ok (.invokevirtual 206, 3) := by decide +kernel
theorem dX12_bears_10 : decode cX12_bears 10 = .ok (.ifCond .eq 11, 3) := by decide +kernel
theorem dX12_bears_13 : decode cX12_bears 13 = .ok (.aload_n 0, 1) := by decide +kernel
theorem dX12_bears_14 : decode cX12_bears 14 = .ok (.iload_n 1, 1) := by decide +kernel
theorem dX12_bears_15 : decode cX12_bears 15 = .ok (.invokevirtual 118, 3) := by decide +kernel
theorem dX12_bears_18 : decode cX12_bears 18 = .ok (.goto 8, 3) := by decide +kernel
theorem dX12_bears_21 : decode cX12_bears 21 = .ok (.aload_n 0, 1) := by decide +kernel
theorem dX12_bears_22 : decode cX12_bears 22 = .ok (.iconst 1, 1) := by decide +kernel
theorem dX12_bears_23 : decode cX12_bears 23 = .ok (.invokevirtual 52, 3) := by decide +kernel
theorem dX12_bears_26 : decode cX12_bears 26 = .ok (.ireturn, 1) := by decide +kernel
theorem dX12_isRotten_0 : decode cX12_isRotten 0 = .ok (.aload_n 0, 1) := by decide +kernel
theorem dX12_isRotten_1 : decode cX12_isRotten 1 = .ok (.iconst 0, 1) := by decide +kernel
theorem dX12_isRotten_2 : decode cX12_isRotten 2 = .ok (.putfield 46, 3) := by decide +kernel
theorem dX12_isRotten_5 : decode cX12_isRotten 5 = .ok (.aload_n 0, 1) := by decide +kernel
theorem dX12_isRotten_6 : decode cX12_isRotten 6 = .ok (.iload_n 1, 1) := by decide +kernel
theorem dX12_isRotten_7 : decode cX12_isRotten 7 = .ok (.invokevirtual 206, 3) := by decide +kernel
theorem dX12_isRotten_10 : decode cX12_isRotten 10 = .ok (.ifCond .eq 24, 3) := by decide +kernel
theorem dX12_isRotten_13 : decode cX12_isRotten 13 = .ok (.aload_n 0, 1) := by decide +kernel
theorem dX12_isRotten_14 : decode cX12_isRotten 14 = .ok (.getfield 24, 3) := by decide +kernel
theorem dX12_isRotten_17 : decode cX12_isRotten 17 = .ok (.bipush 28, 2) := by decide +kernel
theorem dX12_isRotten_19 : decode cX12_isRotten 19 = .ok (.iload_n 1, 1) := by decide +kernel
theorem dX12_isRotten_20 : decode cX12_isRotten 20 = .ok (.iadd, 1) := by decide +kernel
theorem dX12_isRotten_21 : decode cX12_isRotten 21 = .ok (.iaload, 1) := by decide +kernel
theorem dX12_isRotten_22 : decode cX12_isRotten 22 = .ok (.iconst 1, 1) := by decide +kernel
theorem dX12_isRotten_23 : decode cX12_isRotten 23 = .ok (.if_icmp .ne 7, 3) := by decide +kernel
theorem dX12_isRotten_26 : decode cX12_isRotten 26 = .ok (.iconst 1, 1) := by decide +kernel
theorem dX12_isRotten_27 : decode cX12_isRotten 27 = .ok (.goto 12, 3) := by decide +kernel
theorem dX12_isRotten_30 : decode cX12_isRotten 30 = .ok (.iconst 0, 1) := by decide +kernel
theorem dX12_isRotten_31 : decode cX12_isRotten 31 = .ok (.goto 8, 3) := by decide +kernel
theorem dX12_isRotten_34 : decode cX12_isRotten 34 = .ok (.aload_n 0, 1) := by decide +kernel
theorem dX12_isRotten_35 : decode cX12_isRotten 35 = .ok (.iconst 1, 1) := by decide +kernel
theorem dX12_isRotten_36 : decode cX12_isRotten 36 = .ok (.invokevirtual 203, 3) := by decide +kernel
theorem dX12_isRotten_39 : decode cX12_isRotten 39 = .ok (.ireturn, 1) := by decide +kernel
theorem dX12_missingPlanks_0 : decode cX12_missingPlanks 0 = .ok (.aload_n 0, 1) := by decide +kernel
theorem dX12_missingPlanks_1 : decode cX12_missingPlanks 1 = .ok (.aload_n 0, 1) := by decide +kernel
theorem dX12_missingPlanks_2 : decode cX12_missingPlanks 2 = .ok (.invokevirtual 138, 3) := by decide +kernel
theorem dX12_missingPlanks_5 : decode cX12_missingPlanks 5 = .ok (.invokevirtual 80, 3) := by decide +kernel
theorem dX12_missingPlanks_8 : decode cX12_missingPlanks 8 = .ok (.ireturn, 1) := by decide +kernel
theorem dX12_weakestPlank_0 : decode cX12_weakestPlank 0 = .ok (.aload_n 0, 1) := by decide +kernel
theorem dX12_weakestPlank_1 : decode cX12_weakestPlank 1 = .ok (.iconst 0, 1) := by decide +kernel
theorem dX12_weakestPlank_2 : decode cX12_weakestPlank 2 = .ok (.putfield 46, 3) := by decide +kernel
theorem dX12_weakestPlank_5 : decode cX12_weakestPlank 5 = .ok (.aload_n 0, 1) := by decide +kernel
theorem dX12_weakestPlank_6 : decode cX12_weakestPlank 6 = .ok (.iconst 0, 1) := by decide +kernel
theorem dX12_weakestPlank_7 : decode cX12_weakestPlank 7 = .ok (.invokevirtual 98, 3) := by decide +kernel
theorem dX12_weakestPlank_10 : decode cX12_weakestPlank 10 = .ok (.iconst (-1), 1) := by decide +kernel
theorem dX12_weakestPlank_11 : decode cX12_weakestPlank 11 = .ok (.if_icmp .ne 11, 3) := by decide +kernel
theorem dX12_weakestPlank_14 : decode cX12_weakestPlank 14 = .ok (.aload_n 0, 1) := by decide +kernel
theorem dX12_weakestPlank_15 : decode cX12_weakestPlank 15 = .ok (.iconst 1, 1) := by decide +kernel
theorem dX12_weakestPlank_16 : decode cX12_weakestPlank 16 = .ok (.invokevirtual 52, 3) := by decide +kernel
theorem dX12_weakestPlank_19 : decode cX12_weakestPlank 19 = .ok (.goto 8, 3) := by decide +kernel
theorem dX12_weakestPlank_22 : decode cX12_weakestPlank 22 = .ok (.aload_n 0, 1) := by decide +kernel
theorem dX12_weakestPlank_23 : decode cX12_weakestPlank 23 = .ok (.iconst 0, 1) := by decide +kernel
theorem dX12_weakestPlank_24 : decode cX12_weakestPlank 24 = .ok (.invokevirtual 98, 3) := by decide +kernel
theorem dX12_weakestPlank_27 : decode cX12_weakestPlank 27 = .ok (.ireturn, 1) := by decide +kernel
theorem dX12_isPassable_0 : decode cX12_isPassable 0 = .ok (.aload_n 0, 1) := by decide +kernel
theorem dX12_isPassable_1 : decode cX12_isPassable 1 = .ok (.aload_n 0, 1) := by decide +kernel
theorem dX12_isPassable_2 : decode cX12_isPassable 2 = .ok (.invokevirtual 115, 3) := by decide +kernel
theorem dX12_isPassable_5 : decode cX12_isPassable 5 = .ok (.invokevirtual 209, 3) := by decide +kernel
theorem dX12_isPassable_8 : decode cX12_isPassable 8 = .ok (.ireturn, 1) := by decide +kernel
theorem dX12_heaviestLoad_0 : decode cX12_heaviestLoad 0 = .ok (.aload_n 0, 1) := by decide +kernel
theorem dX12_heaviestLoad_1 : decode cX12_heaviestLoad 1 = .ok (.iconst 0, 1) := by decide +kernel
theorem dX12_heaviestLoad_2 : decode cX12_heaviestLoad 2 = .ok (.putfield 46, 3) := by decide +kernel
theorem dX12_heaviestLoad_5 : decode cX12_heaviestLoad 5 = .ok (.aload_n 0, 1) := by decide +kernel
theorem dX12_heaviestLoad_6 : decode cX12_heaviestLoad 6 = .ok (.iconst 0, 1) := by decide +kernel
theorem dX12_heaviestLoad_7 : decode cX12_heaviestLoad 7 = .ok (.invokevirtual 98, 3) := by decide +kernel
theorem dX12_heaviestLoad_10 : decode cX12_heaviestLoad 10 = .ok (.iconst (-1), 1) := by decide +kernel
theorem dX12_heaviestLoad_11 : decode cX12_heaviestLoad 11 = .ok (.if_icmp .ne 11, 3) := by decide +kernel
theorem dX12_heaviestLoad_14 : decode cX12_heaviestLoad 14 = .ok (.aload_n 0, 1) := by decide +kernel
theorem dX12_heaviestLoad_15 : decode cX12_heaviestLoad 15 = .ok (.iconst 1, 1) := by decide +kernel
theorem dX12_heaviestLoad_16 : decode cX12_heaviestLoad 16 = .ok (.invokevirtual 52, 3) := by decide +kernel
theorem dX12_heaviestLoad_19 : decode cX12_heaviestLoad 19 = .ok (.goto 12, 3) := by decide +kernel
theorem dX12_heaviestLoad_22 : decode cX12_heaviestLoad 22 = .ok (.aload_n 0, 1) := by decide +kernel
theorem dX12_heaviestLoad_23 : decode cX12_heaviestLoad 23 = .ok (.aload_n 0, 1) := by decide +kernel
theorem dX12_heaviestLoad_24 : decode cX12_heaviestLoad 24 = .ok (.iconst 0, 1) := by decide +kernel
theorem dX12_heaviestLoad_25 : decode cX12_heaviestLoad 25 = .ok (.invokevirtual 98, 3) := by decide +kernel
theorem dX12_heaviestLoad_28 : decode cX12_heaviestLoad 28 = .ok (.invokevirtual 118, 3) := by decide +kernel
theorem dX12_heaviestLoad_31 : decode cX12_heaviestLoad 31 = .ok (.ireturn, 1) := by decide +kernel
theorem dX12_isLampNear_0 : decode cX12_isLampNear 0 = .ok (.aload_n 0, 1) := by decide +kernel
theorem dX12_isLampNear_1 : decode cX12_isLampNear 1 = .ok (.aload_n 0, 1) := by decide +kernel
theorem dX12_isLampNear_2 : decode cX12_isLampNear 2 = .ok (.getfield 24, 3) := by decide +kernel
theorem dX12_isLampNear_5 : decode cX12_isLampNear 5 = .ok (.iconst 0, 1) := by decide +kernel
theorem dX12_isLampNear_6 : decode cX12_isLampNear 6 = .ok (.iaload, 1) := by decide +kernel
theorem dX12_isLampNear_7 : decode cX12_isLampNear 7 = .ok (.ifCond .ne 7, 3) := by decide +kernel
theorem dX12_isLampNear_10 : decode cX12_isLampNear 10 = .ok (.iconst 1, 1) := by decide +kernel
theorem dX12_isLampNear_11 : decode cX12_isLampNear 11 = .ok (.goto 4, 3) := by decide +kernel
theorem dX12_isLampNear_14 : decode cX12_isLampNear 14 = .ok (.iconst 0, 1) := by decide +kernel
theorem dX12_isLampNear_15 : decode cX12_isLampNear 15 = .ok (.invokevirtual 209, 3) := by decide +kernel
theorem dX12_isLampNear_18 : decode cX12_isLampNear 18 = .ok (.ireturn, 1) := by decide +kernel
theorem dX12_oilLeft_0 : decode cX12_oilLeft 0 = .ok (.aload_n 0, 1) := by decide +kernel
theorem dX12_oilLeft_1 : decode cX12_oilLeft 1 = .ok (.aload_n 0, 1) := by decide +kernel
theorem dX12_oilLeft_2 : decode cX12_oilLeft 2 = .ok (.getfield 24, 3) := by decide +kernel
theorem dX12_oilLeft_5 : decode cX12_oilLeft 5 = .ok (.iconst 1, 1) := by decide +kernel
theorem dX12_oilLeft_6 : decode cX12_oilLeft 6 = .ok (.iaload, 1) := by decide +kernel
theorem dX12_oilLeft_7 : decode cX12_oilLeft 7 = .ok (.invokevirtual 80, 3) := by decide +kernel
theorem dX12_oilLeft_10 : decode cX12_oilLeft 10 = .ok (.ireturn, 1) := by decide +kernel
theorem dX12_night_0 : decode cX12_night 0 = .ok (.aload_n 0, 1) := by decide +kernel
theorem dX12_night_1 : decode cX12_night 1 = .ok (.aload_n 0, 1) := by decide +kernel
theorem dX12_night_2 : decode cX12_night 2 = .ok (.getfield 24, 3) := by decide +kernel
theorem dX12_night_5 : decode cX12_night 5 = .ok (.iconst 2, 1) := by decide +kernel
theorem dX12_night_6 : decode cX12_night 6 = .ok (.iaload, 1) := by decide +kernel
theorem dX12_night_7 : decode cX12_night 7 = .ok (.invokevirtual 80, 3) := by decide +kernel
theorem dX12_night_10 : decode cX12_night 10 = .ok (.ireturn, 1) := by decide +kernel
theorem dX12_minute_0 : decode cX12_minute 0 = .ok (.aload_n 0, 1) := by decide +kernel
theorem dX12_minute_1 : decode cX12_minute 1 = .ok (.aload_n 0, 1) := by decide +kernel
theorem dX12_minute_2 : decode cX12_minute 2 = .ok (.getfield 24, 3) := by decide +kernel
theorem dX12_minute_5 : decode cX12_minute 5 = .ok (.iconst 3, 1) := by decide +kernel
theorem dX12_minute_6 : decode cX12_minute 6 = .ok (.iaload, 1) := by decide +kernel
theorem dX12_minute_7 : decode cX12_minute 7 = .ok (.invokevirtual 80, 3) := by decide +kernel
theorem dX12_minute_10 : decode cX12_minute 10 = .ok (.ireturn, 1) := by decide +kernel
theorem dX12_isWeakNight_0 : decode cX12_isWeakNight 0 = .ok (.aload_n 0, 1) := by decide +kernel
theorem dX12_isWeakNight_1 : decode cX12_isWeakNight 1 = .ok (.aload_n 0, 1) := by decide +kernel
theorem dX12_isWeakNight_2 : decode cX12_isWeakNight 2 = .ok (.invokevirtual 89, 3) := by decide +kernel
theorem dX12_isWeakNight_5 : decode cX12_isWeakNight 5 = .ok (.invokevirtual 209, 3) := by decide +kernel
theorem dX12_isWeakNight_8 : decode cX12_isWeakNight 8 = .ok (.ireturn, 1) := by decide +kernel
theorem dX12_crossAlone_0 : decode cX12_crossAlone 0 = .ok (.aload_n 0, 1) := by decide +kernel
theorem dX12_crossAlone_1 : decode cX12_crossAlone 1 = .ok (.iconst 0, 1) := by decide +kernel
theorem dX12_crossAlone_2 : decode cX12_crossAlone 2 = .ok (.putfield 46, 3) := by decide +kernel
theorem dX12_crossAlone_5 : decode cX12_crossAlone 5 = .ok (.aload_n 0, 1) := by decide +kernel
theorem dX12_crossAlone_6 : decode cX12_crossAlone 6 = .ok (.iload_n 1, 1) := by decide +kernel
theorem dX12_crossAlone_7 : decode cX12_crossAlone 7 = .ok (.invokevirtual 200, 3) := by decide +kernel
theorem dX12_crossAlone_10 : decode cX12_crossAlone 10 = .ok (.ifCond .ne 9, 3) := by decide +kernel
theorem dX12_crossAlone_13 : decode cX12_crossAlone 13 = .ok (.aload_n 0, 1) := by decide +kernel
theorem dX12_crossAlone_14 : decode cX12_crossAlone 14 = .ok (.iconst 1, 1) := by decide +kernel
theorem dX12_crossAlone_15 : decode cX12_crossAlone 15 = .ok (.invokevirtual 203, 3) := by decide +kernel
theorem dX12_crossAlone_18 : decode cX12_crossAlone 18 = .ok (.ireturn, 1) := by decide +kernel
theorem dX12_crossAlone_19 : decode cX12_crossAlone 19 = .ok (.aload_n 0, 1) := by decide +kernel
theorem dX12_crossAlone_20 : decode cX12_crossAlone 20 = .ok (.iload_n 1, 1) := by decide +kernel
theorem dX12_crossAlone_21 : decode cX12_crossAlone 21 = .ok (.iconst (-1), 1) := by decide +kernel
theorem dX12_crossAlone_22 : decode cX12_crossAlone 22 = .ok (.invokevirtual 153, 3) := by decide +kernel
theorem dX12_crossAlone_25 : decode cX12_crossAlone 25 = .ok (.ifCond .eq 12, 3) := by decide +kernel
theorem dX12_crossAlone_28 : decode cX12_crossAlone 28 = .ok (.aload_n 0, 1) := by decide +kernel
theorem dX12_crossAlone_29 : decode cX12_crossAlone 29 = .ok (.iload_n 1, 1) := by decide +kernel
theorem dX12_crossAlone_30 : decode cX12_crossAlone 30 = .ok (.iconst (-1), 1) := by decide +kernel
theorem dX12_crossAlone_31 : decode cX12_crossAlone 31 = .ok (.invokevirtual 157, 3) := by decide +kernel
theorem dX12_crossAlone_34 : decode cX12_crossAlone 34 = .ok (.goto 8, 3) := by decide +kernel
theorem dX12_crossAlone_37 : decode cX12_crossAlone 37 = .ok (.aload_n 0, 1) := by decide +kernel
theorem dX12_crossAlone_38 : decode cX12_crossAlone 38 = .ok (.iconst 2, 1) := by decide +kernel
theorem dX12_crossAlone_39 : decode cX12_crossAlone 39 = .ok (.invokevirtual 203, 3) := by decide +kernel
theorem dX12_crossAlone_42 : decode cX12_crossAlone 42 = .ok (.ireturn, 1) := by decide +kernel
theorem dX12_areTwo_0 : decode cX12_areTwo 0 = .ok (.aload_n 0, 1) := by decide +kernel
theorem dX12_areTwo_1 : decode cX12_areTwo 1 = .ok (.aload_n 0, 1) := by decide +kernel
theorem dX12_areTwo_2 : decode cX12_areTwo 2 = .ok (.iload_n 1, 1) := by decide +kernel
theorem dX12_areTwo_3 : decode cX12_areTwo 3 = .ok (.invokevirtual 200, 3) := by decide +kernel
theorem dX12_areTwo_6 : decode cX12_areTwo 6 = .ok (.ifCond .eq 11, 3) := by decide +kernel
theorem dX12_areTwo_9 : decode cX12_areTwo 9 = .ok (.aload_n 0, 1) := by decide +kernel
theorem dX12_areTwo_10 : decode cX12_areTwo 10 = .ok (.iload_n 2, 1) := by decide +kernel
theorem dX12_areTwo_11 : decode cX12_areTwo 11 = .ok (.invokevirtual 200, 3) := by decide +kernel
theorem dX12_areTwo_14 : decode cX12_areTwo 14 = .ok (.ifCond .ne 7, 3) := by decide +kernel
theorem dX12_areTwo_17 : decode cX12_areTwo 17 = .ok (.iconst 1, 1) := by decide +kernel
theorem dX12_areTwo_18 : decode cX12_areTwo 18 = .ok (.goto 13, 3) := by decide +kernel
theorem dX12_areTwo_21 : decode cX12_areTwo 21 = .ok (.iload_n 1, 1) := by decide +kernel
theorem dX12_areTwo_22 : decode cX12_areTwo 22 = .ok (.iload_n 2, 1) := by decide +kernel
theorem dX12_areTwo_23 : decode cX12_areTwo 23 = .ok (.if_icmp .ne 7, 3) := by decide +kernel
theorem dX12_areTwo_26 : decode cX12_areTwo 26 = .ok (.iconst 2, 1) := by decide +kernel
theorem dX12_areTwo_27 : decode cX12_areTwo 27 = .ok (.goto 4, 3) := by decide +kernel
theorem dX12_areTwo_30 : decode cX12_areTwo 30 = .ok (.iconst 0, 1) := by decide +kernel
theorem dX12_areTwo_31 : decode cX12_areTwo 31 = .ok (.putfield 46, 3) := by decide +kernel
theorem dX12_areTwo_34 : decode cX12_areTwo 34 = .ok (.aload_n 0, 1) := by decide +kernel
theorem dX12_areTwo_35 : decode cX12_areTwo 35 = .ok (.getfield 46, 3) := by decide +kernel
theorem dX12_areTwo_38 : decode cX12_areTwo 38 = .ok (.ifCond .ne 7, 3) := by decide +kernel
theorem dX12_areTwo_41 : decode cX12_areTwo 41 = .ok (.iconst 1, 1) := by decide +kernel
theorem dX12_areTwo_42 : decode cX12_areTwo 42 = .ok (.goto 4, 3) := by decide +kernel
theorem dX12_areTwo_45 : decode cX12_areTwo 45 = .ok (.iconst 0, 1) := by decide +kernel
theorem dX12_areTwo_46 : decode cX12_areTwo 46 = .ok (.ireturn, 1) := by decide +kernel
theorem dX12_crossTogether_0 : decode cX12_crossTogether 0 = .ok (.aload_n 0, 1) := by decide +kernel
theorem dX12_crossTogether_1 : decode cX12_crossTogether 1 = .ok (.iload_n 1, 1) := by decide +kernel
theorem dX12_crossTogether_2 : decode cX12_crossTogether 2 = .ok (.iload_n 2, 1) := by decide +kernel
theorem dX12_crossTogether_3 : decode cX12_crossTogether 3 = .ok (.invokevirtual 213, 3) := by decide +kernel
theorem dX12_crossTogether_6 : decode cX12_crossTogether 6 = .ok (.ifCond .ne 5, 3) := by decide +kernel
theorem dX12_crossTogether_9 : decode cX12_crossTogether 9 = .ok (.iconst 0, 1) := by decide +kernel
theorem dX12_crossTogether_10 : decode cX12_crossTogether 10 = .ok (.ireturn, 1) := by decide +kernel
theorem dX12_crossTogether_11 : decode cX12_crossTogether 11 = .ok (.aload_n 0, 1) := by decide +kernel
theorem dX12_crossTogether_12 : decode cX12_crossTogether 12 = .ok (.iload_n 1, 1) := by decide +kernel
theorem dX12_crossTogether_13 : decode cX12_crossTogether 13 = .ok (.iload_n 2, 1) := by decide +kernel
theorem dX12_crossTogether_14 : decode cX12_crossTogether 14 = .ok (.invokevirtual 153, 3) := by decide +kernel
theorem dX12_crossTogether_17 : decode cX12_crossTogether 17 = .ok (.ifCond .eq 12, 3) := by decide +kernel
theorem dX12_crossTogether_20 : decode cX12_crossTogether 20 = .ok (.aload_n 0, 1) := by decide +kernel
theorem dX12_crossTogether_21 : decode cX12_crossTogether 21 = .ok (.iload_n 1, 1) := by decide +kernel
theorem dX12_crossTogether_22 : decode cX12_crossTogether 22 = .ok (.iload_n 2, 1) := by decide +kernel
theorem dX12_crossTogether_23 : decode cX12_crossTogether 23 = .ok (.invokevirtual 157, 3) := by decide +kernel
theorem dX12_crossTogether_26 : decode cX12_crossTogether 26 = .ok (.goto 8, 3) := by decide +kernel
theorem dX12_crossTogether_29 : decode cX12_crossTogether 29 = .ok (.aload_n 0, 1) := by decide +kernel
theorem dX12_crossTogether_30 : decode cX12_crossTogether 30 = .ok (.iconst 3, 1) := by decide +kernel
theorem dX12_crossTogether_31 : decode cX12_crossTogether 31 = .ok (.invokevirtual 203, 3) := by decide +kernel
theorem dX12_crossTogether_34 : decode cX12_crossTogether 34 = .ok (.ireturn, 1) := by decide +kernel
theorem dX12_rest_0 : decode cX12_rest 0 = .ok (.aload_n 0, 1) := by decide +kernel
theorem dX12_rest_1 : decode cX12_rest 1 = .ok (.iconst 0, 1) := by decide +kernel
theorem dX12_rest_2 : decode cX12_rest 2 = .ok (.putfield 46, 3) := by decide +kernel
theorem dX12_rest_5 : decode cX12_rest 5 = .ok (.iload_n 1, 1) := by decide +kernel
theorem dX12_rest_6 : decode cX12_rest 6 = .ok (.iconst 1, 1) := by decide +kernel
theorem dX12_rest_7 : decode cX12_rest 7 = .ok (.sipush 600, 3) := by decide +kernel
theorem dX12_rest_10 : decode cX12_rest 10 = .ok (.invokestatic 56, 3) := by decide +kernel
theorem dX12_rest_13 : decode cX12_rest 13 = .ok (.ifCond .ne 9, 3) := by decide +kernel
theorem dX12_rest_16 : decode cX12_rest 16 = .ok (.aload_n 0, 1) := by decide +kernel
theorem dX12_rest_17 : decode cX12_rest 17 = .ok (.iconst 1, 1) := by decide +kernel
theorem dX12_rest_18 : decode cX12_rest 18 = .ok (.invokevirtual 52, 3) := by decide +kernel
theorem dX12_rest_21 : decode cX12_rest 21 = .ok (.ireturn, 1) := by decide +kernel
theorem dX12_rest_22 : decode cX12_rest 22 = .ok (.aload_n 0, 1) := by decide +kernel
theorem dX12_rest_23 : decode cX12_rest 23 = .ok (.getfield 24, 3) := by decide +kernel
theorem dX12_rest_26 : decode cX12_rest 26 = .ok (.iconst 2, 1) := by decide +kernel
theorem dX12_rest_27 : decode cX12_rest 27 = .ok (.iaload, 1) := by decide +kernel
theorem dX12_rest_28 : decode cX12_rest 28 = .ok (.istore_n 2, 1) := by decide +kernel
theorem dX12_rest_29 : decode cX12_rest 29 = .ok (.aload_n 0, 1) := by decide +kernel
theorem dX12_rest_30 : decode cX12_rest 30 = .ok (.iload_n 1, 1) := by decide +kernel
theorem dX12_rest_31 : decode cX12_rest 31 = .ok (.invokevirtual 127, 3) := by decide +kernel
theorem dX12_rest_34 : decode cX12_rest 34 = .ok (.aload_n 0, 1) := by decide +kernel
theorem dX12_rest_35 : decode cX12_rest 35 = .ok (.getfield 24, 3) := by decide +kernel
theorem dX12_rest_38 : decode cX12_rest 38 = .ok (.iconst 2, 1) := by decide +kernel
theorem dX12_rest_39 : decode cX12_rest 39 = .ok (.iaload, 1) := by decide +kernel
theorem dX12_rest_40 : decode cX12_rest 40 = .ok (.iload_n 2, 1) := by decide +kernel
theorem dX12_rest_41 : decode cX12_rest 41 = .ok (.isub, 1) := by decide +kernel
theorem dX12_rest_42 : decode cX12_rest 42 = .ok (.ireturn, 1) := by decide +kernel
theorem dX12_layPlank_0 : decode cX12_layPlank 0 = .ok (.aload_n 0, 1) := by decide +kernel
theorem dX12_layPlank_1 : decode cX12_layPlank 1 = .ok (.iconst 0, 1) := by decide +kernel
theorem dX12_layPlank_2 : decode cX12_layPlank 2 = .ok (.putfield 46, 3) := by decide +kernel
theorem dX12_layPlank_5 : decode cX12_layPlank 5 = .ok (.aload_n 0, 1) := by decide +kernel
theorem dX12_layPlank_6 : decode cX12_layPlank 6 = .ok (.iload_n 1, 1) := by decide +kernel
theorem dX12_layPlank_7 : decode cX12_layPlank 7 = .ok (.invokevirtual 206, 3) := by decide +kernel
theorem dX12_layPlank_10 : decode cX12_layPlank 10 = .ok (.ifCond .ne 9, 3) := by decide +kernel
theorem dX12_layPlank_13 : decode cX12_layPlank 13 = .ok (.aload_n 0, 1) := by decide +kernel
theorem dX12_layPlank_14 : decode cX12_layPlank 14 = .ok (.iconst 1, 1) := by decide +kernel
theorem dX12_layPlank_15 : decode cX12_layPlank 15 = .ok (.invokevirtual 52, 3) := by decide +kernel
theorem dX12_layPlank_18 : decode cX12_layPlank 18 = .ok (.ireturn, 1) := by decide +kernel
theorem dX12_layPlank_19 : decode cX12_layPlank 19 = .ok (.iload_n 2, 1) := by decide +kernel
theorem dX12_layPlank_20 : decode cX12_layPlank 20 = .ok (.iconst 1, 1) := by decide +kernel
theorem dX12_layPlank_21 : decode cX12_layPlank 21 = .ok (.bipush 30, 2) := by decide +kernel
theorem dX12_layPlank_23 : decode cX12_layPlank 23 = .ok (.invokestatic 56, 3) := by decide +kernel
theorem dX12_layPlank_26 : decode cX12_layPlank 26 = .ok (.ifCond .ne 9, 3) := by decide +kernel
theorem dX12_layPlank_29 : decode cX12_layPlank 29 = .ok (.aload_n 0, 1) := by decide +kernel
theorem dX12_layPlank_30 : decode cX12_layPlank 30 = .ok (.iconst 2, 1) := by decide +kernel
theorem dX12_layPlank_31 : decode cX12_layPlank 31 = .ok (.invokevirtual 52, 3) := by decide +kernel
theorem dX12_layPlank_34 : decode cX12_layPlank 34 = .ok (.ireturn, 1) := by decide +kernel
theorem dX12_layPlank_35 : decode cX12_layPlank 35 = .ok (.aload_n 0, 1) := by decide +kernel
theorem dX12_layPlank_36 : decode cX12_layPlank 36 = .ok (.getfield 24, 3) := by decide +kernel
theorem dX12_layPlank_39 : decode cX12_layPlank 39 = .ok (.bipush 16, 2) := by decide +kernel
theorem dX12_layPlank_41 : decode cX12_layPlank 41 = .ok (.iload_n 1, 1) := by decide +kernel
theorem dX12_layPlank_42 : decode cX12_layPlank 42 = .ok (.iadd, 1) := by decide +kernel
theorem dX12_layPlank_43 : decode cX12_layPlank 43 = .ok (.iaload, 1) := by decide +kernel
theorem dX12_layPlank_44 : decode cX12_layPlank 44 = .ok (.istore_n 3, 1) := by decide +kernel
theorem dX12_layPlank_45 : decode cX12_layPlank 45 = .ok (.aload_n 0, 1) := by decide +kernel
theorem dX12_layPlank_46 : decode cX12_layPlank 46 = .ok (.getfield 24, 3) := by decide +kernel
theorem dX12_layPlank_49 : decode cX12_layPlank 49 = .ok (.bipush 16, 2) := by decide +kernel
theorem dX12_layPlank_51 : decode cX12_layPlank 51 = .ok (.iload_n 1, 1) := by decide +kernel
theorem dX12_layPlank_52 : decode cX12_layPlank 52 = .ok (.iadd, 1) := by decide +kernel
theorem dX12_layPlank_53 : decode cX12_layPlank 53 = .ok (.iload_n 2, 1) := by decide +kernel
theorem dX12_layPlank_54 : decode cX12_layPlank 54 = .ok (.iastore, 1) := by decide +kernel
theorem dX12_layPlank_55 : decode cX12_layPlank 55 = .ok (.aload_n 0, 1) := by decide +kernel
theorem dX12_layPlank_56 : decode cX12_layPlank 56 = .ok (.getfield 24, 3) := by decide +kernel
theorem dX12_layPlank_59 : decode cX12_layPlank 59 = .ok (.bipush 28, 2) := by decide +kernel
theorem dX12_layPlank_61 : decode cX12_layPlank 61 = .ok (.iload_n 1, 1) := by decide +kernel
theorem dX12_layPlank_62 : decode cX12_layPlank 62 = .ok (.iadd, 1) := by decide +kernel
theorem dX12_layPlank_63 : decode cX12_layPlank 63 = .ok (.iconst 0, 1) := by decide +kernel
theorem dX12_layPlank_64 : decode cX12_layPlank 64 = .ok (.iastore, 1) := by decide +kernel
theorem dX12_layPlank_65 : decode cX12_layPlank 65 = .ok (.iload_n 3, 1) := by decide +kernel
theorem dX12_layPlank_66 : decode cX12_layPlank 66 = .ok (.ireturn, 1) := by decide +kernel
theorem dX12_runPlan_0 : decode cX12_runPlan 0 = .ok (.aload_n 0, 1) := by decide +kernel
theorem dX12_runPlan_1 : decode cX12_runPlan 1 = .ok (.iconst 0, 1) := by decide +kernel
theorem dX12_runPlan_2 : decode cX12_runPlan 2 = .ok (.putfield 46, 3) := by decide +kernel
theorem dX12_runPlan_5 : decode cX12_runPlan 5 = .ok (.aload_n 0, 1) := by decide +kernel
theorem dX12_runPlan_6 : decode cX12_runPlan 6 = .ok (.iload_n 1, 1) := by decide +kernel
theorem dX12_runPlan_7 : decode cX12_runPlan 7 = .ok (.invokevirtual 216, 3) := by decide +kernel
theorem dX12_runPlan_10 : decode cX12_runPlan 10 = .ok (.ifCond .eq 11, 3) := by decide +kernel
theorem dX12_runPlan_13 : decode cX12_runPlan 13 = .ok (.aload_n 0, 1) := by decide +kernel
theorem dX12_runPlan_14 : decode cX12_runPlan 14 = .ok (.iload_n 1, 1) := by decide +kernel
theorem dX12_runPlan_15 : decode cX12_runPlan 15 = .ok (.invokevirtual 219, 3) := by decide +kernel
theorem dX12_runPlan_18 : decode cX12_runPlan 18 = .ok (.goto 8, 3) := by decide +kernel
theorem dX12_runPlan_21 : decode cX12_runPlan 21 = .ok (.aload_n 0, 1) := by decide +kernel
theorem dX12_runPlan_22 : decode cX12_runPlan 22 = .ok (.iconst 1, 1) := by decide +kernel
theorem dX12_runPlan_23 : decode cX12_runPlan 23 = .ok (.invokevirtual 52, 3) := by decide +kernel
theorem dX12_runPlan_26 : decode cX12_runPlan 26 = .ok (.ireturn, 1) := by decide +kernel
theorem dX12_crossings_0 : decode cX12_crossings 0 = .ok (.aload_n 0, 1) := by decide +kernel
theorem dX12_crossings_1 : decode cX12_crossings 1 = .ok (.aload_n 0, 1) := by decide +kernel
theorem dX12_crossings_2 : decode cX12_crossings 2 = .ok (.getfield 24, 3) := by decide +kernel
theorem dX12_crossings_5 : decode cX12_crossings 5 = .ok (.iconst 4, 1) := by decide +kernel
theorem dX12_crossings_6 : decode cX12_crossings 6 = .ok (.iaload, 1) := by decide +kernel
theorem dX12_crossings_7 : decode cX12_crossings 7 = .ok (.invokevirtual 80, 3) := by decide +kernel
theorem dX12_crossings_10 : decode cX12_crossings 10 = .ok (.ireturn, 1) := by decide +kernel
theorem dX12_falls_0 : decode cX12_falls 0 = .ok (.aload_n 0, 1) := by decide +kernel
theorem dX12_falls_1 : decode cX12_falls 1 = .ok (.aload_n 0, 1) := by decide +kernel
theorem dX12_falls_2 : decode cX12_falls 2 = .ok (.getfield 24, 3) := by decide +kernel
theorem dX12_falls_5 : decode cX12_falls 5 = .ok (.iconst 5, 1) := by decide +kernel
theorem dX12_falls_6 : decode cX12_falls 6 = .ok (.iaload, 1) := by decide +kernel
theorem dX12_falls_7 : decode cX12_falls 7 = .ok (.invokevirtual 80, 3) := by decide +kernel
theorem dX12_falls_10 : decode cX12_falls 10 = .ok (.ireturn, 1) := by decide +kernel
theorem dX12_notes_0 : decode cX12_notes 0 = .ok (.aload_n 0, 1) := by decide +kernel
theorem dX12_notes_1 : decode cX12_notes 1 = .ok (.aload_n 0, 1) := by decide +kernel
theorem dX12_notes_2 : decode cX12_notes 2 = .ok (.getfield 24, 3) := by decide +kernel
theorem dX12_notes_5 : decode cX12_notes 5 = .ok (.bipush 6, 2) := by decide +kernel
theorem dX12_notes_7 : decode cX12_notes 7 = .ok (.iaload, 1) := by decide +kernel
theorem dX12_notes_8 : decode cX12_notes 8 = .ok (.invokevirtual 80, 3) := by decide +kernel
theorem dX12_notes_11 : decode cX12_notes 11 = .ok (.ireturn, 1) := by decide +kernel
theorem dX12_noteOf_0 : decode cX12_noteOf 0 = .ok (.aload_n 0, 1) := by decide +kernel
theorem dX12_noteOf_1 : decode cX12_noteOf 1 = .ok (.iconst 0, 1) := by decide +kernel
theorem dX12_noteOf_2 : decode cX12_noteOf 2 = .ok (.putfield 46, 3) := by decide +kernel
theorem dX12_noteOf_5 : decode cX12_noteOf 5 = .ok (.iload_n 1, 1) := by decide +kernel
theorem dX12_noteOf_6 : decode cX12_noteOf 6 = .ok (.iconst 0, 1) := by decide +kernel
theorem dX12_noteOf_7 : decode cX12_noteOf 7 = .ok (.bipush 10, 2) := by decide +kernel
theorem dX12_noteOf_9 : decode cX12_noteOf 9 = .ok (.aload_n 0, 1) := by decide +kernel
theorem dX12_noteOf_10 : decode cX12_noteOf 10 = .ok (.getfield 24, 3) := by decide +kernel
theorem dX12_noteOf_13 : decode cX12_noteOf 13 = .ok (.bipush 6, 2) := by decide +kernel
theorem dX12_noteOf_15 : decode cX12_noteOf 15 = .ok (.iaload, 1) := by decide +kernel
theorem dX12_noteOf_16 : decode cX12_noteOf 16 = .ok (.invokestatic 169, 3) := by decide +kernel
theorem dX12_noteOf_19 : decode cX12_noteOf 19 = .ok (.iconst 1, 1) := by decide +kernel
theorem dX12_noteOf_20 : decode cX12_noteOf 20 = .ok (.isub, 1) := by decide +kernel
theorem dX12_noteOf_21 : decode cX12_noteOf 21 = .ok (.invokestatic 56, 3) := by decide +kernel
theorem dX12_noteOf_24 : decode cX12_noteOf 24 = .ok (.ifCond .eq 15, 3) := by decide +kernel
theorem dX12_noteOf_27 : decode cX12_noteOf 27 = .ok (.aload_n 0, 1) := by decide +kernel
theorem dX12_noteOf_28 : decode cX12_noteOf 28 = .ok (.getfield 24, 3) := by decide +kernel
theorem dX12_noteOf_31 : decode cX12_noteOf 31 = .ok (.bipush 40, 2) := by decide +kernel
theorem dX12_noteOf_33 : decode cX12_noteOf 33 = .ok (.iload_n 1, 1) := by decide +kernel
theorem dX12_noteOf_34 : decode cX12_noteOf 34 = .ok (.iadd, 1) := by decide +kernel
theorem dX12_noteOf_35 : decode cX12_noteOf 35 = .ok (.iaload, 1) := by decide +kernel
theorem dX12_noteOf_36 : decode cX12_noteOf 36 = .ok (.goto 8, 3) := by decide +kernel
theorem dX12_noteOf_39 : decode cX12_noteOf 39 = .ok (.aload_n 0, 1) := by decide +kernel
theorem dX12_noteOf_40 : decode cX12_noteOf 40 = .ok (.iconst 1, 1) := by decide +kernel
theorem dX12_noteOf_41 : decode cX12_noteOf 41 = .ok (.invokevirtual 52, 3) := by decide +kernel
theorem dX12_noteOf_44 : decode cX12_noteOf 44 = .ok (.ireturn, 1) := by decide +kernel
theorem dX12_leads_0 : decode cX12_leads 0 = .ok (.aload_n 0, 1) := by decide +kernel
theorem dX12_leads_1 : decode cX12_leads 1 = .ok (.iload_n 1, 1) := by decide +kernel
theorem dX12_leads_2 : decode cX12_leads 2 = .ok (.iload_n 2, 1) := by decide +kernel
theorem dX12_leads_3 : decode cX12_leads 3 = .ok (.invokevirtual 153, 3) := by decide +kernel
theorem dX12_leads_6 : decode cX12_leads 6 = .ok (.ifCond .ne 5, 3) := by decide +kernel
theorem dX12_leads_9 : decode cX12_leads 9 = .ok (.iconst 0, 1) := by decide +kernel
theorem dX12_leads_10 : decode cX12_leads 10 = .ok (.ireturn, 1) := by decide +kernel
theorem dX12_leads_11 : decode cX12_leads 11 = .ok (.aload_n 0, 1) := by decide +kernel
theorem dX12_leads_12 : decode cX12_leads 12 = .ok (.invokevirtual 222, 3) := by decide +kernel
theorem dX12_leads_15 : decode cX12_leads 15 = .ok (.aload_n 0, 1) := by decide +kernel
theorem dX12_leads_16 : decode cX12_leads 16 = .ok (.iload_n 1, 1) := by decide +kernel
theorem dX12_leads_17 : decode cX12_leads 17 = .ok (.iload_n 2, 1) := by decide +kernel
theorem dX12_leads_18 : decode cX12_leads 18 = .ok (.invokevirtual 157, 3) := by decide +kernel
theorem dX12_leads_21 : decode cX12_leads 21 = .ok (.istore_n 3, 1) := by decide +kernel
theorem dX12_leads_22 : decode cX12_leads 22 = .ok (.aload_n 0, 1) := by decide +kernel
theorem dX12_leads_23 : decode cX12_leads 23 = .ok (.invokevirtual 225, 3) := by decide +kernel
theorem dX12_leads_26 : decode cX12_leads 26 = .ok (.iload_n 3, 1) := by decide +kernel
theorem dX12_leads_27 : decode cX12_leads 27 = .ok (.ireturn, 1) := by decide +kernel
theorem dX12_canCrossAlone_0 : decode cX12_canCrossAlone 0 = .ok (.aload_n 0, 1) := by decide +kernel
theorem dX12_canCrossAlone_1 : decode cX12_canCrossAlone 1 = .ok (.iconst 0, 1) := by decide +kernel
theorem dX12_canCrossAlone_2 : decode cX12_canCrossAlone 2 = .ok (.putfield 46, 3) := by decide +kernel
theorem dX12_canCrossAlone_5 : decode cX12_canCrossAlone 5 = .ok (.aload_n 0, 1) := by decide +kernel
theorem dX12_canCrossAlone_6 : decode cX12_canCrossAlone 6 = .ok (.iload_n 1, 1) := by decide +kernel
theorem dX12_canCrossAlone_7 : decode cX12_canCrossAlone 7 = .ok (.invokevirtual 200, 3) := by decide +kernel
theorem dX12_canCrossAlone_10 : decode cX12_canCrossAlone 10 = .ok (.ifCond .eq 12, 3) := by decide +kernel
theorem dX12_canCrossAlone_13 : decode cX12_canCrossAlone 13 = .ok (.aload_n 0, 1) := by decide +kernel
theorem dX12_canCrossAlone_14 : decode cX12_canCrossAlone 14 = .ok (.iload_n 1, 1) := by decide +kernel
theorem dX12_canCrossAlone_15 : decode cX12_canCrossAlone 15 = .ok (.iconst (-1), 1) := by decide +kernel
theorem dX12_canCrossAlone_16 : decode cX12_canCrossAlone 16 = .ok (.invokevirtual 228, 3) := by decide +kernel
theorem dX12_canCrossAlone_19 : decode cX12_canCrossAlone 19 = .ok (.goto 8, 3) := by decide +kernel
theorem dX12_canCrossAlone_22 : decode cX12_canCrossAlone 22 = .ok (.aload_n 0, 1) := by decide +kernel
theorem dX12_canCrossAlone_23 : decode cX12_canCrossAlone 23 = .ok (.iconst 1, 1) := by decide +kernel
theorem dX12_canCrossAlone_24 : decode cX12_canCrossAlone 24 = .ok (.invokevirtual 203, 3) := by decide +kernel
theorem dX12_canCrossAlone_27 : decode cX12_canCrossAlone 27 = .ok (.ireturn, 1) := by decide +kernel
theorem dX12_canCrossTogether_0 : decode cX12_canCrossTogether 0 = .ok (.aload_n 0, 1) := by decide +kernel
theorem dX12_canCrossTogether_1 : decode cX12_canCrossTogether 1 = .ok (.iload_n 1, 1) := by decide +kernel
theorem dX12_canCrossTogether_2 : decode cX12_canCrossTogether 2 = .ok (.iload_n 2, 1) := by decide +kernel
theorem dX12_canCrossTogether_3 : decode cX12_canCrossTogether 3 = .ok (.invokevirtual 213, 3) := by decide +kernel
theorem dX12_canCrossTogether_6 : decode cX12_canCrossTogether 6 = .ok (.ifCond .eq 16, 3) := by decide +kernel
theorem dX12_canCrossTogether_9 : decode cX12_canCrossTogether 9 = .ok (.aload_n 0, 1) := by decide +kernel
theorem dX12_canCrossTogether_10 : decode cX12_canCrossTogether 10 = .ok (.iload_n 1, 1) := by decide +kernel
theorem dX12_canCrossTogether_11 : decode cX12_canCrossTogether 11 = .ok (.iload_n 2, 1) := by decide +kernel
theorem dX12_canCrossTogether_12 : decode cX12_canCrossTogether 12 = .ok (.invokevirtual 228, 3) := by decide +kernel
theorem dX12_canCrossTogether_15 : decode cX12_canCrossTogether 15 = .ok (.ifCond .eq 7, 3) := by decide +kernel
theorem dX12_canCrossTogether_18 : decode cX12_canCrossTogether 18 = .ok (.iconst 1, 1) := by decide +kernel
theorem dX12_canCrossTogether_19 : decode cX12_canCrossTogether 19 = .ok (.goto 4, 3) := by decide +kernel
theorem dX12_canCrossTogether_22 : decode cX12_canCrossTogether 22 = .ok (.iconst 0, 1) := by decide +kernel
theorem dX12_canCrossTogether_23 : decode cX12_canCrossTogether 23 = .ok (.ireturn, 1) := by decide +kernel
theorem dX12_fewest_0 : decode cX12_fewest 0 = .ok (.aload_n 0, 1) := by decide +kernel
theorem dX12_fewest_1 : decode cX12_fewest 1 = .ok (.invokevirtual 134, 3) := by decide +kernel
theorem dX12_fewest_4 : decode cX12_fewest 4 = .ok (.ifCond .ne 5, 3) := by decide +kernel
theorem dX12_fewest_7 : decode cX12_fewest 7 = .ok (.iconst 0, 1) := by decide +kernel
theorem dX12_fewest_8 : decode cX12_fewest 8 = .ok (.ireturn, 1) := by decide +kernel
theorem dX12_fewest_9 : decode cX12_fewest 9 = .ok (.aload_n 0, 1) := by decide +kernel
theorem dX12_fewest_10 : decode cX12_fewest 10 = .ok (.invokevirtual 191, 3) := by decide +kernel
theorem dX12_fewest_13 : decode cX12_fewest 13 = .ok (.aload_n 0, 1) := by decide +kernel
theorem dX12_fewest_14 : decode cX12_fewest 14 = .ok (.getfield 34, 3) := by decide +kernel
theorem dX12_fewest_17 : decode cX12_fewest 17 = .ok (.aload_n 0, 1) := by decide +kernel
theorem dX12_fewest_18 : decode cX12_fewest 18 = .ok (.invokevirtual 188, 3) := by decide +kernel
theorem dX12_fewest_21 : decode cX12_fewest 21 = .ok (.iaload, 1) := by decide +kernel
theorem dX12_fewest_22 : decode cX12_fewest 22 = .ok (.ireturn, 1) := by decide +kernel
theorem dX12_fewestMinutes_0 : decode cX12_fewestMinutes 0 = .ok (.aload_n 0, 1) := by decide +kernel
theorem dX12_fewestMinutes_1 : decode cX12_fewestMinutes 1 = .ok (.aload_n 0, 1) := by decide +kernel
theorem dX12_fewestMinutes_2 : decode cX12_fewestMinutes 2 = .ok (.invokevirtual 231, 3) := by decide +kernel
theorem dX12_fewestMinutes_5 : decode cX12_fewestMinutes 5 = .ok (.invokevirtual 80, 3) := by decide +kernel
theorem dX12_fewestMinutes_8 : decode cX12_fewestMinutes 8 = .ok (.ireturn, 1) := by decide +kernel
theorem dX12_firstToCross_0 : decode cX12_firstToCross 0 = .ok (.aload_n 0, 1) := by decide +kernel
theorem dX12_firstToCross_1 : decode cX12_firstToCross 1 = .ok (.iconst 0, 1) := by decide +kernel
theorem dX12_firstToCross_2 : decode cX12_firstToCross 2 = .ok (.putfield 46, 3) := by decide +kernel
theorem dX12_firstToCross_5 : decode cX12_firstToCross 5 = .ok (.aload_n 0, 1) := by decide +kernel
theorem dX12_firstToCross_6 : decode cX12_firstToCross 6 = .ok (.invokevirtual 134, 3) := by decide +kernel
theorem dX12_firstToCross_9 : decode cX12_firstToCross 9 = .ok (.ifCond .ne 11, 3) := by decide +kernel
theorem dX12_firstToCross_12 : decode cX12_firstToCross 12 = .ok (.aload_n 0, 1) := by decide +kernel
theorem dX12_firstToCross_13 : decode cX12_firstToCross 13 = .ok (.iconst 1, 1) := by decide +kernel
theorem dX12_firstToCross_14 : decode cX12_firstToCross 14 = .ok (.invokevirtual 52, 3) := by decide +kernel
theorem dX12_firstToCross_17 : decode cX12_firstToCross 17 = .ok (.goto 7, 3) := by decide +kernel
theorem dX12_firstToCross_20 : decode cX12_firstToCross 20 = .ok (.aload_n 0, 1) := by decide +kernel
theorem dX12_firstToCross_21 : decode cX12_firstToCross 21 = .ok (.invokevirtual 234, 3) := by decide +kernel
theorem dX12_firstToCross_24 : decode cX12_firstToCross 24 = .ok (.ireturn, 1) := by decide +kernel
theorem dX12_secondToCross_0 : decode cX12_secondToCross 0 = .ok (.aload_n 0, 1) := by decide +kernel
theorem dX12_secondToCross_1 : decode cX12_secondToCross 1 = .ok (.iconst 0, 1) := by decide +kernel
theorem dX12_secondToCross_2 : decode cX12_secondToCross 2 = .ok (.putfield 46, 3) := by decide +kernel
theorem dX12_secondToCross_5 : decode cX12_secondToCross 5 = .ok (.aload_n 0, 1) := by decide +kernel
theorem dX12_secondToCross_6 : decode cX12_secondToCross 6 = .ok (.invokevirtual 134, 3) := by decide +kernel
theorem dX12_secondToCross_9 : decode cX12_secondToCross 9 = .ok (.ifCond .ne 9, 3) := by decide +kernel
theorem dX12_secondToCross_12 : decode cX12_secondToCross 12 = .ok (.aload_n 0, 1) := by decide +kernel
theorem dX12_secondToCross_13 : decode cX12_secondToCross 13 = .ok (.iconst 1, 1) := by decide +kernel
theorem dX12_secondToCross_14 : decode cX12_secondToCross 14 = .ok (.invokevirtual 52, 3) := by decide +kernel
theorem dX12_secondToCross_17 : decode cX12_secondToCross 17 = .ok (.ireturn, 1) := by decide +kernel
theorem dX12_secondToCross_18 : decode cX12_secondToCross 18 = .ok (.aload_n 0, 1) := by decide +kernel
theorem dX12_secondToCross_19 : decode cX12_secondToCross 19 = .ok (.invokevirtual 234, 3) := by decide +kernel
theorem dX12_secondToCross_22 : decode cX12_secondToCross 22 = .ok (.istore_n 1, 1) := by decide +kernel
theorem dX12_secondToCross_23 : decode cX12_secondToCross 23 = .ok (.aload_n 0, 1) := by decide +kernel
theorem dX12_secondToCross_24 : decode cX12_secondToCross 24 = .ok (.iload_n 1, 1) := by decide +kernel
theorem dX12_secondToCross_25 : decode cX12_secondToCross 25 = .ok (.iload_n 1, 1) := by decide +kernel
theorem dX12_secondToCross_26 : decode cX12_secondToCross 26 = .ok (.invokevirtual 194, 3) := by decide +kernel
theorem dX12_secondToCross_29 : decode cX12_secondToCross 29 = .ok (.ifCond .eq 5, 3) := by decide +kernel
theorem dX12_secondToCross_32 : decode cX12_secondToCross 32 = .ok (.iconst (-1), 1) := by decide +kernel
theorem dX12_secondToCross_33 : decode cX12_secondToCross 33 = .ok (.ireturn, 1) := by decide +kernel
theorem dX12_secondToCross_34 : decode cX12_secondToCross 34 = .ok (.iconst 0, 1) := by decide +kernel
theorem dX12_secondToCross_35 : decode cX12_secondToCross 35 = .ok (.istore_n 2, 1) := by decide +kernel
theorem dX12_secondToCross_36 : decode cX12_secondToCross 36 = .ok (.iload_n 2, 1) := by decide +kernel
theorem dX12_secondToCross_37 : decode cX12_secondToCross 37 = .ok (.aload_n 0, 1) := by decide +kernel
theorem dX12_secondToCross_38 : decode cX12_secondToCross 38 = .ok (.getfield 20, 3) := by decide +kernel
theorem dX12_secondToCross_41 : decode cX12_secondToCross 41 = .ok (.getfield 131, 3) := by decide +kernel
theorem dX12_secondToCross_44 : decode cX12_secondToCross 44 = .ok (.if_icmp .ge 20, 3) := by decide +kernel
theorem dX12_secondToCross_47 : decode cX12_secondToCross 47 = .ok (.aload_n 0, 1) := by decide +kernel
theorem dX12_secondToCross_48 : decode cX12_secondToCross 48 = .ok (.iload_n 1, 1) := by decide +kernel
theorem dX12_secondToCross_49 : decode cX12_secondToCross 49 = .ok (.iload_n 2, 1) := by decide +kernel
theorem dX12_secondToCross_50 : decode cX12_secondToCross 50 = .ok (.invokevirtual 194, 3) := by decide +kernel
theorem dX12_secondToCross_53 : decode cX12_secondToCross 53 = .ok (.ifCond .eq 5, 3) := by decide +kernel
theorem dX12_secondToCross_56 : decode cX12_secondToCross 56 = .ok (.iload_n 2, 1) := by decide +kernel
theorem dX12_secondToCross_57 : decode cX12_secondToCross 57 = .ok (.ireturn, 1) := by decide +kernel
theorem dX12_secondToCross_58 : decode cX12_secondToCross 58 = .ok (.iinc 2 1, 3) := by decide +kernel
theorem dX12_secondToCross_61 : decode cX12_secondToCross 61 = .ok (.goto (-25), 3) := by decide +kernel
theorem dX12_secondToCross_64 : decode cX12_secondToCross 64 = .ok (.iconst (-1), 1) := by decide +kernel
theorem dX12_secondToCross_65 : decode cX12_secondToCross 65 = .ok (.ireturn, 1) := by decide +kernel
theorem dX12_allMinutes_0 : decode cX12_allMinutes 0 = .ok (.bipush 120, 2) := by decide +kernel
theorem dX12_allMinutes_2 : decode cX12_allMinutes 2 = .ok (.aload_n 0, 1) := by decide +kernel
theorem dX12_allMinutes_3 : decode cX12_allMinutes 3 = .ok (.getfield 24, 3) := by decide +kernel
theorem dX12_allMinutes_6 : decode cX12_allMinutes 6 = .ok (.iconst 2, 1) := by decide +kernel
theorem dX12_allMinutes_7 : decode cX12_allMinutes 7 = .ok (.iaload, 1) := by decide +kernel
theorem dX12_allMinutes_8 : decode cX12_allMinutes 8 = .ok (.imul, 1) := by decide +kernel
theorem dX12_allMinutes_9 : decode cX12_allMinutes 9 = .ok (.aload_n 0, 1) := by decide +kernel
theorem dX12_allMinutes_10 : decode cX12_allMinutes 10 = .ok (.getfield 24, 3) := by decide +kernel
theorem dX12_allMinutes_13 : decode cX12_allMinutes 13 = .ok (.iconst 3, 1) := by decide +kernel
theorem dX12_allMinutes_14 : decode cX12_allMinutes 14 = .ok (.iaload, 1) := by decide +kernel
theorem dX12_allMinutes_15 : decode cX12_allMinutes 15 = .ok (.iadd, 1) := by decide +kernel
theorem dX12_allMinutes_16 : decode cX12_allMinutes 16 = .ok (.ireturn, 1) := by decide +kernel
theorem dX12_actsOfPlan_0 : decode cX12_actsOfPlan 0 = .ok (.aload_n 0, 1) := by decide +kernel
theorem dX12_actsOfPlan_1 : decode cX12_actsOfPlan 1 = .ok (.iconst 0, 1) := by decide +kernel
theorem dX12_actsOfPlan_2 : decode cX12_actsOfPlan 2 = .ok (.putfield 46, 3) := by decide +kernel
theorem dX12_actsOfPlan_5 : decode cX12_actsOfPlan 5 = .ok (.aload_n 0, 1) := by decide +kernel
theorem dX12_actsOfPlan_6 : decode cX12_actsOfPlan 6 = .ok (.iload_n 1, 1) := by decide +kernel
theorem dX12_actsOfPlan_7 : decode cX12_actsOfPlan 7 = .ok (.invokevirtual 216, 3) := by decide +kernel
theorem dX12_actsOfPlan_10 : decode cX12_actsOfPlan 10 = .ok (.ifCond .ne 9, 3) := by decide +kernel
theorem dX12_actsOfPlan_13 : decode cX12_actsOfPlan 13 = .ok (.aload_n 0, 1) := by decide +kernel
theorem dX12_actsOfPlan_14 : decode cX12_actsOfPlan 14 = .ok (.iconst 1, 1) := by decide +kernel
theorem dX12_actsOfPlan_15 : decode cX12_actsOfPlan 15 = .ok (.invokevirtual 52, 3) := by decide +kernel
theorem dX12_actsOfPlan_18 : decode cX12_actsOfPlan 18 = .ok (.ireturn, 1) := by decide +kernel
theorem dX12_actsOfPlan_19 : decode cX12_actsOfPlan 19 = .ok (.aload_n 0, 1) := by decide +kernel
theorem dX12_actsOfPlan_20 : decode cX12_actsOfPlan 20 = .ok (.invokevirtual 222, 3) := by decide +kernel
theorem dX12_actsOfPlan_23 : decode cX12_actsOfPlan 23 = .ok (.aload_n 0, 1) := by decide +kernel
theorem dX12_actsOfPlan_24 : decode cX12_actsOfPlan 24 = .ok (.iload_n 1, 1) := by decide +kernel
theorem dX12_actsOfPlan_25 : decode cX12_actsOfPlan 25 = .ok (.invokevirtual 219, 3) := by decide +kernel
theorem dX12_actsOfPlan_28 : decode cX12_actsOfPlan 28 = .ok (.istore_n 2, 1) := by decide +kernel
theorem dX12_actsOfPlan_29 : decode cX12_actsOfPlan 29 = .ok (.aload_n 0, 1) := by decide +kernel
theorem dX12_actsOfPlan_30 : decode cX12_actsOfPlan 30 = .ok (.invokevirtual 225, 3) := by decide +kernel
theorem dX12_actsOfPlan_33 : decode cX12_actsOfPlan 33 = .ok (.iload_n 2, 1) := by decide +kernel
theorem dX12_actsOfPlan_34 : decode cX12_actsOfPlan 34 = .ok (.ireturn, 1) := by decide +kernel
theorem dX12_farBehindPlan_0 : decode cX12_farBehindPlan 0 = .ok (.aload_n 0, 1) := by decide +kernel
theorem dX12_farBehindPlan_1 : decode cX12_farBehindPlan 1 = .ok (.iconst 0, 1) := by decide +kernel
theorem dX12_farBehindPlan_2 : decode cX12_farBehindPlan 2 = .ok (.putfield 46, 3) := by decide +kernel
theorem dX12_farBehindPlan_5 : decode cX12_farBehindPlan 5 = .ok (.aload_n 0, 1) := by decide +kernel
theorem dX12_farBehindPlan_6 : decode cX12_farBehindPlan 6 = .ok (.iload_n 1, 1) := by decide +kernel
theorem dX12_farBehindPlan_7 : decode cX12_farBehindPlan 7 = .ok (.invokevirtual 216, 3) := by decide +kernel
theorem dX12_farBehindPlan_10 : decode cX12_farBehindPlan 10 = .ok (.ifCond .ne 9, 3) := by decide +kernel
theorem dX12_farBehindPlan_13 : decode cX12_farBehindPlan 13 = .ok (.aload_n 0, 1) := by decide +kernel
theorem dX12_farBehindPlan_14 : decode cX12_farBehindPlan 14 = .ok (.iconst 1, 1) := by decide +kernel
theorem dX12_farBehindPlan_15 : decode cX12_farBehindPlan 15 = .ok (.invokevirtual 52, 3) := by decide +kernel
theorem dX12_farBehindPlan_18 : decode cX12_farBehindPlan 18 = .ok (.ireturn, 1) := by decide +kernel
theorem dX12_farBehindPlan_19 : decode cX12_farBehindPlan 19 = .ok (.aload_n 0, 1) := by decide +kernel
theorem dX12_farBehindPlan_20 : decode cX12_farBehindPlan 20 = .ok (.invokevirtual 222, 3) := by decide +kernel
theorem dX12_farBehindPlan_23 : decode cX12_farBehindPlan 23 = .ok (.aload_n 0, 1) := by decide +kernel
theorem dX12_farBehindPlan_24 : decode cX12_farBehindPlan 24 = .ok (.iload_n 1, 1) := by decide +kernel
theorem dX12_farBehindPlan_25 : decode cX12_farBehindPlan 25 = .ok (.invokevirtual 219, 3) := by decide +kernel
theorem dX12_farBehindPlan_28 : decode cX12_farBehindPlan 28 = .ok (.pop, 1) := by decide +kernel
theorem dX12_farBehindPlan_29 : decode cX12_farBehindPlan 29 = .ok (.aload_n 0, 1) := by decide +kernel
theorem dX12_farBehindPlan_30 : decode cX12_farBehindPlan 30 = .ok (.getfield 20, 3) := by decide +kernel
theorem dX12_farBehindPlan_33 : decode cX12_farBehindPlan 33 = .ok (.getfield 131, 3) := by decide +kernel
theorem dX12_farBehindPlan_36 : decode cX12_farBehindPlan 36 = .ok (.aload_n 0, 1) := by decide +kernel
theorem dX12_farBehindPlan_37 : decode cX12_farBehindPlan 37 = .ok (.invokevirtual 134, 3) := by decide +kernel
theorem dX12_farBehindPlan_40 : decode cX12_farBehindPlan 40 = .ok (.isub, 1) := by decide +kernel
theorem dX12_farBehindPlan_41 : decode cX12_farBehindPlan 41 = .ok (.istore_n 2, 1) := by decide +kernel
theorem dX12_farBehindPlan_42 : decode cX12_farBehindPlan 42 = .ok (.aload_n 0, 1) := by decide +kernel
theorem dX12_farBehindPlan_43 : decode cX12_farBehindPlan 43 = .ok (.invokevirtual 225, 3) := by decide +kernel
theorem dX12_farBehindPlan_46 : decode cX12_farBehindPlan 46 = .ok (.iload_n 2, 1) := by decide +kernel
theorem dX12_farBehindPlan_47 : decode cX12_farBehindPlan 47 = .ok (.ireturn, 1) := by decide +kernel
theorem dX12_minutesOfPlan_0 : decode cX12_minutesOfPlan 0 = .ok (.aload_n 0, 1) := by decide +kernel
theorem dX12_minutesOfPlan_1 : decode cX12_minutesOfPlan 1 = .ok (.iconst 0, 1) := by decide +kernel
theorem dX12_minutesOfPlan_2 : decode cX12_minutesOfPlan 2 = .ok (.putfield 46, 3) := by decide +kernel
theorem dX12_minutesOfPlan_5 : decode cX12_minutesOfPlan 5 = .ok (.aload_n 0, 1) := by decide +kernel
theorem dX12_minutesOfPlan_6 : decode cX12_minutesOfPlan 6 = .ok (.iload_n 1, 1) := by decide +kernel
theorem dX12_minutesOfPlan_7 : decode cX12_minutesOfPlan 7 = .ok (.invokevirtual 216, 3) := by decide +kernel
theorem dX12_minutesOfPlan_10 : decode cX12_minutesOfPlan 10 = .ok (.ifCond .ne 9, 3) := by decide +kernel
theorem dX12_minutesOfPlan_13 : decode cX12_minutesOfPlan 13 = .ok (.aload_n 0, 1) := by decide +kernel
theorem dX12_minutesOfPlan_14 : decode cX12_minutesOfPlan 14 = .ok (.iconst 1, 1) := by decide +kernel
theorem dX12_minutesOfPlan_15 : decode cX12_minutesOfPlan 15 = .ok (.invokevirtual 52, 3) := by decide +kernel
theorem dX12_minutesOfPlan_18 : decode cX12_minutesOfPlan 18 = .ok (.ireturn, 1) := by decide +kernel
theorem dX12_minutesOfPlan_19 : decode cX12_minutesOfPlan 19 = .ok (.aload_n 0, 1) := by decide +kernel
theorem dX12_minutesOfPlan_20 : decode cX12_minutesOfPlan 20 = .ok (.invokevirtual 222, 3) := by decide +kernel
theorem dX12_minutesOfPlan_23 : decode cX12_minutesOfPlan 23 = .ok (.aload_n 0, 1) := by decide +kernel
theorem dX12_minutesOfPlan_24 : decode cX12_minutesOfPlan 24 = .ok (.invokevirtual 237, 3) := by decide +kernel
theorem dX12_minutesOfPlan_27 : decode cX12_minutesOfPlan 27 = .ok (.istore_n 2, 1) := by decide +kernel
theorem dX12_minutesOfPlan_28 : decode cX12_minutesOfPlan 28 = .ok (.aload_n 0, 1) := by decide +kernel
theorem dX12_minutesOfPlan_29 : decode cX12_minutesOfPlan 29 = .ok (.iload_n 1, 1) := by decide +kernel
theorem dX12_minutesOfPlan_30 : decode cX12_minutesOfPlan 30 = .ok (.invokevirtual 219, 3) := by decide +kernel
theorem dX12_minutesOfPlan_33 : decode cX12_minutesOfPlan 33 = .ok (.pop, 1) := by decide +kernel
theorem dX12_minutesOfPlan_34 : decode cX12_minutesOfPlan 34 = .ok (.aload_n 0, 1) := by decide +kernel
theorem dX12_minutesOfPlan_35 : decode cX12_minutesOfPlan 35 = .ok (.invokevirtual 237, 3) := by decide +kernel
theorem dX12_minutesOfPlan_38 : decode cX12_minutesOfPlan 38 = .ok (.iload_n 2, 1) := by decide +kernel
theorem dX12_minutesOfPlan_39 : decode cX12_minutesOfPlan 39 = .ok (.isub, 1) := by decide +kernel
theorem dX12_minutesOfPlan_40 : decode cX12_minutesOfPlan 40 = .ok (.istore_n 3, 1) := by decide +kernel
theorem dX12_minutesOfPlan_41 : decode cX12_minutesOfPlan 41 = .ok (.aload_n 0, 1) := by decide +kernel
theorem dX12_minutesOfPlan_42 : decode cX12_minutesOfPlan 42 = .ok (.invokevirtual 225, 3) := by decide +kernel
theorem dX12_minutesOfPlan_45 : decode cX12_minutesOfPlan 45 = .ok (.iload_n 3, 1) := by decide +kernel
theorem dX12_minutesOfPlan_46 : decode cX12_minutesOfPlan 46 = .ok (.ireturn, 1) := by decide +kernel
theorem dX12_bestPlan_0 : decode cX12_bestPlan 0 = .ok (.aload_n 0, 1) := by decide +kernel
theorem dX12_bestPlan_1 : decode cX12_bestPlan 1 = .ok (.iconst 0, 1) := by decide +kernel
theorem dX12_bestPlan_2 : decode cX12_bestPlan 2 = .ok (.putfield 46, 3) := by decide +kernel
theorem dX12_bestPlan_5 : decode cX12_bestPlan 5 = .ok (.aload_n 0, 1) := by decide +kernel
theorem dX12_bestPlan_6 : decode cX12_bestPlan 6 = .ok (.getfield 20, 3) := by decide +kernel
theorem dX12_bestPlan_9 : decode cX12_bestPlan 9 = .ok (.getfield 197, 3) := by decide +kernel
theorem dX12_bestPlan_12 : decode cX12_bestPlan 12 = .ok (.ifCond .ne 9, 3) := by decide +kernel
theorem dX12_bestPlan_15 : decode cX12_bestPlan 15 = .ok (.aload_n 0, 1) := by decide +kernel
theorem dX12_bestPlan_16 : decode cX12_bestPlan 16 = .ok (.iconst 1, 1) := by decide +kernel
theorem dX12_bestPlan_17 : decode cX12_bestPlan 17 = .ok (.invokevirtual 52, 3) := by decide +kernel
theorem dX12_bestPlan_20 : decode cX12_bestPlan 20 = .ok (.ireturn, 1) := by decide +kernel
theorem dX12_bestPlan_21 : decode cX12_bestPlan 21 = .ok (.iconst (-1), 1) := by decide +kernel
theorem dX12_bestPlan_22 : decode cX12_bestPlan 22 = .ok (.istore_n 1, 1) := by decide +kernel
theorem dX12_bestPlan_23 : decode cX12_bestPlan 23 = .ok (.iconst (-1), 1) := by decide +kernel
theorem dX12_bestPlan_24 : decode cX12_bestPlan 24 = .ok (.istore_n 2, 1) := by decide +kernel
theorem dX12_bestPlan_25 : decode cX12_bestPlan 25 = .ok (.iconst 0, 1) := by decide +kernel
theorem dX12_bestPlan_26 : decode cX12_bestPlan 26 = .ok (.istore_n 3, 1) := by decide +kernel
theorem dX12_bestPlan_27 : decode cX12_bestPlan 27 = .ok (.aload_n 0, 1) := by decide +kernel
theorem dX12_bestPlan_28 : decode cX12_bestPlan 28 = .ok (.invokevirtual 222, 3) := by decide +kernel
theorem dX12_bestPlan_31 : decode cX12_bestPlan 31 = .ok (.iconst 0, 1) := by decide +kernel
theorem dX12_bestPlan_32 : decode cX12_bestPlan 32 = .ok (.istore 4, 2) := by decide +kernel
theorem dX12_bestPlan_34 : decode cX12_bestPlan 34 = .ok (.iload 4, 2) := by decide +kernel
theorem dX12_bestPlan_36 : decode cX12_bestPlan 36 = .ok (.aload_n 0, 1) := by decide +kernel
theorem dX12_bestPlan_37 : decode cX12_bestPlan 37 = .ok (.getfield 20, 3) := by decide +kernel
theorem dX12_bestPlan_40 : decode cX12_bestPlan 40 = .ok (.getfield 197, 3) := by decide +kernel
theorem dX12_bestPlan_43 : decode cX12_bestPlan 43 = .ok (.if_icmp .ge 79, 3) := by decide +kernel
theorem dX12_bestPlan_46 : decode cX12_bestPlan 46 = .ok (.aload_n 0, 1) := by decide +kernel
theorem dX12_bestPlan_47 : decode cX12_bestPlan 47 = .ok (.invokevirtual 237, 3) := by decide +kernel
theorem dX12_bestPlan_50 : decode cX12_bestPlan 50 = .ok (.istore 5, 2) := by decide +kernel
theorem dX12_bestPlan_52 : decode cX12_bestPlan 52 = .ok (.aload_n 0, 1) := by decide +kernel
theorem dX12_bestPlan_53 : decode cX12_bestPlan 53 = .ok (.iload 4, 2) := by decide +kernel
theorem dX12_bestPlan_55 : decode cX12_bestPlan 55 = .ok (.invokevirtual 219, 3) := by decide +kernel
theorem dX12_bestPlan_58 : decode cX12_bestPlan 58 = .ok (.pop, 1) := by decide +kernel
theorem dX12_bestPlan_59 : decode cX12_bestPlan 59 = .ok (.aload_n 0, 1) := by decide +kernel
theorem dX12_bestPlan_60 : decode cX12_bestPlan 60 = .ok (.getfield 20, 3) := by decide +kernel
theorem dX12_bestPlan_63 : decode cX12_bestPlan 63 = .ok (.getfield 131, 3) := by decide +kernel
theorem dX12_bestPlan_66 : decode cX12_bestPlan 66 = .ok (.aload_n 0, 1) := by decide +kernel
theorem dX12_bestPlan_67 : decode cX12_bestPlan 67 = .ok (.invokevirtual 134, 3) := by decide +kernel
theorem dX12_bestPlan_70 : decode cX12_bestPlan 70 = .ok (.isub, 1) := by decide +kernel
theorem dX12_bestPlan_71 : decode cX12_bestPlan 71 = .ok (.istore 6, 2) := by decide +kernel
theorem dX12_bestPlan_73 : decode cX12_bestPlan 73 = .ok (.aload_n 0, 1) := by decide +kernel
theorem dX12_bestPlan_74 : decode cX12_bestPlan 74 = .ok (.invokevirtual 237, 3) := by decide +kernel
theorem dX12_bestPlan_77 : decode cX12_bestPlan 77 = .ok (.iload 5, 2) := by decide +kernel
theorem dX12_bestPlan_79 : decode cX12_bestPlan 79 = .ok (.isub, 1) := by decide +kernel
theorem dX12_bestPlan_80 : decode cX12_bestPlan 80 = .ok (.istore 7, 2) := by decide +kernel
theorem dX12_bestPlan_82 : decode cX12_bestPlan 82 = .ok (.aload_n 0, 1) := by decide +kernel
theorem dX12_bestPlan_83 : decode cX12_bestPlan 83 = .ok (.invokevirtual 225, 3) := by decide +kernel
theorem dX12_bestPlan_86 : decode cX12_bestPlan 86 = .ok (.iload 6, 2) := by decide +kernel
theorem dX12_bestPlan_88 : decode cX12_bestPlan 88 = .ok (.iload_n 2, 1) := by decide +kernel
theorem dX12_bestPlan_89 : decode cX12_bestPlan 89 = .ok (.if_icmp .lt 27, 3) := by decide +kernel
theorem dX12_bestPlan_92 : decode cX12_bestPlan 92 = .ok (.iload 6, 2) := by decide +kernel
theorem dX12_bestPlan_94 : decode cX12_bestPlan 94 = .ok (.iload_n 2, 1) := by decide +kernel
theorem dX12_bestPlan_95 : decode cX12_bestPlan 95 = .ok (.if_icmp .ne 12, 3) := by decide +kernel
theorem dX12_bestPlan_98 : decode cX12_bestPlan 98 = .ok (.iload 7, 2) := by decide +kernel
theorem dX12_bestPlan_100 : decode cX12_bestPlan 100 = .ok (.iload_n 3, 1) := by decide +kernel
theorem dX12_bestPlan_101 : decode cX12_bestPlan 101 = .ok (.if_icmp .lt 6, 3) := by decide +kernel
theorem dX12_bestPlan_104 : decode cX12_bestPlan 104 = .ok (.goto 12, 3) := by decide +kernel
theorem dX12_bestPlan_107 : decode cX12_bestPlan 107 = .ok (.iload 4, 2) := by decide +kernel
theorem dX12_bestPlan_109 : decode cX12_bestPlan 109 = .ok (.istore_n 1, 1) := by decide +kernel
theorem dX12_bestPlan_110 : decode cX12_bestPlan 110 = .ok (.iload 6, 2) := by decide +kernel
theorem dX12_bestPlan_112 : decode cX12_bestPlan 112 = .ok (.istore_n 2, 1) := by decide +kernel
theorem dX12_bestPlan_113 : decode cX12_bestPlan 113 = .ok (.iload 7, 2) := by decide +kernel
theorem dX12_bestPlan_115 : decode cX12_bestPlan 115 = .ok (.istore_n 3, 1) := by decide +kernel
theorem dX12_bestPlan_116 : decode cX12_bestPlan 116 = .ok (.iinc 4 1, 3) := by decide +kernel
theorem dX12_bestPlan_119 : decode cX12_bestPlan 119 = .ok (.goto (-85), 3) := by decide +kernel
theorem dX12_bestPlan_122 : decode cX12_bestPlan 122 = .ok (.iload_n 1, 1) := by decide +kernel
theorem dX12_bestPlan_123 : decode cX12_bestPlan 123 = .ok (.ireturn, 1) := by decide +kernel
theorem dX12_meanStrength_0 : decode cX12_meanStrength 0 = .ok (.aload_n 0, 1) := by decide +kernel
theorem dX12_meanStrength_1 : decode cX12_meanStrength 1 = .ok (.iconst 0, 1) := by decide +kernel
theorem dX12_meanStrength_2 : decode cX12_meanStrength 2 = .ok (.putfield 46, 3) := by decide +kernel
theorem dX12_meanStrength_5 : decode cX12_meanStrength 5 = .ok (.iconst 0, 1) := by decide +kernel
theorem dX12_meanStrength_6 : decode cX12_meanStrength 6 = .ok (.istore_n 1, 1) := by decide +kernel
theorem dX12_meanStrength_7 : decode cX12_meanStrength 7 = .ok (.iconst 0, 1) := by decide +kernel
theorem dX12_meanStrength_8 : decode cX12_meanStrength 8 = .ok (.istore_n 2, 1) := by decide +kernel
theorem dX12_meanStrength_9 : decode cX12_meanStrength 9 = .ok (.iload_n 2, 1) := by decide +kernel
theorem dX12_meanStrength_10 : decode cX12_meanStrength 10 = .ok (.aload_n 0, 1) := by decide +kernel
theorem dX12_meanStrength_11 : decode cX12_meanStrength 11 = .ok (.getfield 20, 3) := by decide +kernel
theorem dX12_meanStrength_14 : decode cX12_meanStrength 14 = .ok (.getfield 37, 3) := by decide +kernel
theorem dX12_meanStrength_17 : decode cX12_meanStrength 17 = .ok (.if_icmp .ge 21, 3) := by decide +kernel
theorem dX12_meanStrength_20 : decode cX12_meanStrength 20 = .ok (.iload_n 1, 1) := by decide +kernel
theorem dX12_meanStrength_21 : decode cX12_meanStrength 21 = .ok (.aload_n 0, 1) := by decide +kernel
theorem dX12_meanStrength_22 : decode cX12_meanStrength 22 = .ok (.getfield 24, 3) := by decide +kernel
theorem dX12_meanStrength_25 : decode cX12_meanStrength 25 = .ok (.bipush 16, 2) := by decide +kernel
theorem dX12_meanStrength_27 : decode cX12_meanStrength 27 = .ok (.iload_n 2, 1) := by decide +kernel
theorem dX12_meanStrength_28 : decode cX12_meanStrength 28 = .ok (.iadd, 1) := by decide +kernel
theorem dX12_meanStrength_29 : decode cX12_meanStrength 29 = .ok (.iaload, 1) := by decide +kernel
theorem dX12_meanStrength_30 : decode cX12_meanStrength 30 = .ok (.iadd, 1) := by decide +kernel
theorem dX12_meanStrength_31 : decode cX12_meanStrength 31 = .ok (.istore_n 1, 1) := by decide +kernel
theorem dX12_meanStrength_32 : decode cX12_meanStrength 32 = .ok (.iinc 2 1, 3) := by decide +kernel
theorem dX12_meanStrength_35 : decode cX12_meanStrength 35 = .ok (.goto (-26), 3) := by decide +kernel
theorem dX12_meanStrength_38 : decode cX12_meanStrength 38 = .ok (.iload_n 1, 1) := by decide +kernel
theorem dX12_meanStrength_39 : decode cX12_meanStrength 39 = .ok (.i2d, 1) := by decide +kernel
theorem dX12_meanStrength_40 : decode cX12_meanStrength 40 = .ok (.aload_n 0, 1) := by decide +kernel
theorem dX12_meanStrength_41 : decode cX12_meanStrength 41 = .ok (.getfield 20, 3) := by decide +kernel
theorem dX12_meanStrength_44 : decode cX12_meanStrength 44 = .ok (.getfield 37, 3) := by decide +kernel
theorem dX12_meanStrength_47 : decode cX12_meanStrength 47 = .ok (.i2d, 1) := by decide +kernel
theorem dX12_meanStrength_48 : decode cX12_meanStrength 48 = .ok (.ddiv, 1) := by decide +kernel
theorem dX12_meanStrength_49 : decode cX12_meanStrength 49 = .ok (.dreturn, 1) := by decide +kernel
theorem dX12_digest_0 : decode cX12_digest 0 = .ok (.aload_n 0, 1) := by decide +kernel
theorem dX12_digest_1 : decode cX12_digest 1 = .ok (.iconst 0, 1) := by decide +kernel
theorem dX12_digest_2 : decode cX12_digest 2 = .ok (.putfield 46, 3) := by decide +kernel
theorem dX12_digest_5 : decode cX12_digest 5 = .ok (.bipush 13, 2) := by decide +kernel
theorem dX12_digest_7 : decode cX12_digest 7 = .ok (.newarray .int, 2) := by decide +kernel
theorem dX12_digest_9 : decode cX12_digest 9 = .ok (.dup, 1) := by decide +kernel
theorem dX12_digest_10 : decode cX12_digest 10 = .ok (.iconst 0, 1) := by decide +kernel
theorem dX12_digest_11 : decode cX12_digest 11 = .ok (.aload_n 0, 1) := by decide +kernel
theorem dX12_digest_12 : decode cX12_digest 12 = .ok (.getfield 20, 3) := by decide +kernel
theorem dX12_digest_15 : decode cX12_digest 15 = .ok (.getfield 131, 3) := by decide +kernel
theorem dX12_digest_18 : decode cX12_digest 18 = .ok (.iastore, 1) := by decide +kernel
theorem dX12_digest_19 : decode cX12_digest 19 = .ok (.dup, 1) := by decide +kernel
theorem dX12_digest_20 : decode cX12_digest 20 = .ok (.iconst 1, 1) := by decide +kernel
theorem dX12_digest_21 : decode cX12_digest 21 = .ok (.aload_n 0, 1) := by decide +kernel
theorem dX12_digest_22 : decode cX12_digest 22 = .ok (.getfield 20, 3) := by decide +kernel
theorem dX12_digest_25 : decode cX12_digest 25 = .ok (.getfield 37, 3) := by decide +kernel
theorem dX12_digest_28 : decode cX12_digest 28 = .ok (.iastore, 1) := by decide +kernel
theorem dX12_digest_29 : decode cX12_digest 29 = .ok (.dup, 1) := by decide +kernel
theorem dX12_digest_30 : decode cX12_digest 30 = .ok (.iconst 2, 1) := by decide +kernel
theorem dX12_digest_31 : decode cX12_digest 31 = .ok (.aload_n 0, 1) := by decide +kernel
theorem dX12_digest_32 : decode cX12_digest 32 = .ok (.getfield 20, 3) := by decide +kernel
theorem dX12_digest_35 : decode cX12_digest 35 = .ok (.getfield 197, 3) := by decide +kernel
theorem dX12_digest_38 : decode cX12_digest 38 = .ok (.iastore, 1) := by decide +kernel
theorem dX12_digest_39 : decode cX12_digest 39 = .ok (.dup, 1) := by decide +kernel
theorem dX12_digest_40 : decode cX12_digest 40 = .ok (.iconst 3, 1) := by decide +kernel
theorem dX12_digest_41 : decode cX12_digest 41 = .ok (.iconst 1, 1) := by decide +kernel
theorem dX12_digest_42 : decode cX12_digest 42 = .ok (.aload_n 0, 1) := by decide +kernel
theorem dX12_digest_43 : decode cX12_digest 43 = .ok (.getfield 24, 3) := by decide +kernel
theorem dX12_digest_46 : decode cX12_digest 46 = .ok (.iconst 0, 1) := by decide +kernel
theorem dX12_digest_47 : decode cX12_digest 47 = .ok (.iaload, 1) := by decide +kernel
theorem dX12_digest_48 : decode cX12_digest 48 = .ok (.isub, 1) := by decide +kernel
theorem dX12_digest_49 : decode cX12_digest 49 = .ok (.iastore, 1) := by decide +kernel
theorem dX12_digest_50 : decode cX12_digest 50 = .ok (.dup, 1) := by decide +kernel
theorem dX12_digest_51 : decode cX12_digest 51 = .ok (.iconst 4, 1) := by decide +kernel
theorem dX12_digest_52 : decode cX12_digest 52 = .ok (.aload_n 0, 1) := by decide +kernel
theorem dX12_digest_53 : decode cX12_digest 53 = .ok (.getfield 24, 3) := by decide +kernel
theorem dX12_digest_56 : decode cX12_digest 56 = .ok (.iconst 1, 1) := by decide +kernel
theorem dX12_digest_57 : decode cX12_digest 57 = .ok (.iaload, 1) := by decide +kernel
theorem dX12_digest_58 : decode cX12_digest 58 = .ok (.iastore, 1) := by decide +kernel
theorem dX12_digest_59 : decode cX12_digest 59 = .ok (.dup, 1) := by decide +kernel
theorem dX12_digest_60 : decode cX12_digest 60 = .ok (.iconst 5, 1) := by decide +kernel
theorem dX12_digest_61 : decode cX12_digest 61 = .ok (.aload_n 0, 1) := by decide +kernel
theorem dX12_digest_62 : decode cX12_digest 62 = .ok (.getfield 24, 3) := by decide +kernel
theorem dX12_digest_65 : decode cX12_digest 65 = .ok (.iconst 2, 1) := by decide +kernel
theorem dX12_digest_66 : decode cX12_digest 66 = .ok (.iaload, 1) := by decide +kernel
theorem dX12_digest_67 : decode cX12_digest 67 = .ok (.iastore, 1) := by decide +kernel
theorem dX12_digest_68 : decode cX12_digest 68 = .ok (.dup, 1) := by decide +kernel
theorem dX12_digest_69 : decode cX12_digest 69 = .ok (.bipush 6, 2) := by decide +kernel
theorem dX12_digest_71 : decode cX12_digest 71 = .ok (.aload_n 0, 1) := by decide +kernel
theorem dX12_digest_72 : decode cX12_digest 72 = .ok (.getfield 24, 3) := by decide +kernel
theorem dX12_digest_75 : decode cX12_digest 75 = .ok (.iconst 3, 1) := by decide +kernel
theorem dX12_digest_76 : decode cX12_digest 76 = .ok (.iaload, 1) := by decide +kernel
theorem dX12_digest_77 : decode cX12_digest 77 = .ok (.iastore, 1) := by decide +kernel
theorem dX12_digest_78 : decode cX12_digest 78 = .ok (.dup, 1) := by decide +kernel
theorem dX12_digest_79 : decode cX12_digest 79 = .ok (.bipush 7, 2) := by decide +kernel
theorem dX12_digest_81 : decode cX12_digest 81 = .ok (.aload_n 0, 1) := by decide +kernel
theorem dX12_digest_82 : decode cX12_digest 82 = .ok (.getfield 24, 3) := by decide +kernel
theorem dX12_digest_85 : decode cX12_digest 85 = .ok (.iconst 4, 1) := by decide +kernel
theorem dX12_digest_86 : decode cX12_digest 86 = .ok (.iaload, 1) := by decide +kernel
theorem dX12_digest_87 : decode cX12_digest 87 = .ok (.iastore, 1) := by decide +kernel
theorem dX12_digest_88 : decode cX12_digest 88 = .ok (.dup, 1) := by decide +kernel
theorem dX12_digest_89 : decode cX12_digest 89 = .ok (.bipush 8, 2) := by decide +kernel
theorem dX12_digest_91 : decode cX12_digest 91 = .ok (.aload_n 0, 1) := by decide +kernel
theorem dX12_digest_92 : decode cX12_digest 92 = .ok (.getfield 24, 3) := by decide +kernel
theorem dX12_digest_95 : decode cX12_digest 95 = .ok (.iconst 5, 1) := by decide +kernel
theorem dX12_digest_96 : decode cX12_digest 96 = .ok (.iaload, 1) := by decide +kernel
theorem dX12_digest_97 : decode cX12_digest 97 = .ok (.iastore, 1) := by decide +kernel
theorem dX12_digest_98 : decode cX12_digest 98 = .ok (.dup, 1) := by decide +kernel
theorem dX12_digest_99 : decode cX12_digest 99 = .ok (.bipush 9, 2) := by decide +kernel
theorem dX12_digest_101 : decode cX12_digest 101 = .ok (.aload_n 0, 1) := by decide +kernel
theorem dX12_digest_102 : decode cX12_digest 102 = .ok (.getfield 24, 3) := by decide +kernel
theorem dX12_digest_105 : decode cX12_digest 105 = .ok (.bipush 6, 2) := by decide +kernel
theorem dX12_digest_107 : decode cX12_digest 107 = .ok (.iaload, 1) := by decide +kernel
theorem dX12_digest_108 : decode cX12_digest 108 = .ok (.iastore, 1) := by decide +kernel
theorem dX12_digest_109 : decode cX12_digest 109 = .ok (.dup, 1) := by decide +kernel
theorem dX12_digest_110 : decode cX12_digest 110 = .ok (.bipush 10, 2) := by decide +kernel
theorem dX12_digest_112 : decode cX12_digest 112 = .ok (.aload_n 0, 1) := by decide +kernel
theorem dX12_digest_113 : decode cX12_digest 113 = .ok (.invokevirtual 138, 3) := by decide +kernel
theorem dX12_digest_116 : decode cX12_digest 116 = .ok (.iastore, 1) := by decide +kernel
theorem dX12_digest_117 : decode cX12_digest 117 = .ok (.dup, 1) := by decide +kernel
theorem dX12_digest_118 : decode cX12_digest 118 = .ok (.bipush 11, 2) := by decide +kernel
theorem dX12_digest_120 : decode cX12_digest 120 = .ok (.aload_n 0, 1) := by decide +kernel
theorem dX12_digest_121 : decode cX12_digest 121 = .ok (.invokevirtual 115, 3) := by decide +kernel
theorem dX12_digest_124 : decode cX12_digest 124 = .ok (.ifCond .eq 7, 3) := by decide +kernel
theorem dX12_digest_127 : decode cX12_digest 127 = .ok (.iconst 1, 1) := by decide +kernel
theorem dX12_digest_128 : decode cX12_digest 128 = .ok (.goto 4, 3) := by decide +kernel
theorem dX12_digest_131 : decode cX12_digest 131 = .ok (.iconst 0, 1) := by decide +kernel
theorem dX12_digest_132 : decode cX12_digest 132 = .ok (.iastore, 1) := by decide +kernel
theorem dX12_digest_133 : decode cX12_digest 133 = .ok (.dup, 1) := by decide +kernel
theorem dX12_digest_134 : decode cX12_digest 134 = .ok (.bipush 12, 2) := by decide +kernel
theorem dX12_digest_136 : decode cX12_digest 136 = .ok (.aload_n 0, 1) := by decide +kernel
theorem dX12_digest_137 : decode cX12_digest 137 = .ok (.invokevirtual 231, 3) := by decide +kernel
theorem dX12_digest_140 : decode cX12_digest 140 = .ok (.iastore, 1) := by decide +kernel
theorem dX12_digest_141 : decode cX12_digest 141 = .ok (.astore_n 1, 1) := by decide +kernel
theorem dX12_digest_142 : decode cX12_digest 142 = .ok (.ldc2_w 240, 3) := by decide +kernel
theorem dX12_digest_145 : decode cX12_digest 145 = .ok (.lstore_n 2, 1) := by decide +kernel
theorem dX12_digest_146 : decode cX12_digest 146 = .ok (.aload_n 1, 1) := by decide +kernel
theorem dX12_digest_147 : decode cX12_digest 147 = .ok (.astore 4, 2) := by decide +kernel
theorem dX12_digest_149 : decode cX12_digest 149 = .ok (.aload 4, 2) := by decide +kernel
theorem dX12_digest_151 : decode cX12_digest 151 = .ok (.arraylength, 1) := by decide +kernel
theorem dX12_digest_152 : decode cX12_digest 152 = .ok (.istore 5, 2) := by decide +kernel
theorem dX12_digest_154 : decode cX12_digest 154 = .ok (.iconst 0, 1) := by decide +kernel
theorem dX12_digest_155 : decode cX12_digest 155 = .ok (.istore 6, 2) := by decide +kernel
theorem dX12_digest_157 : decode cX12_digest 157 = .ok (.iload 6, 2) := by decide +kernel
theorem dX12_digest_159 : decode cX12_digest 159 = .ok (.iload 5, 2) := by decide +kernel
theorem dX12_digest_161 : decode cX12_digest 161 = .ok (.if_icmp .ge 26, 3) := by decide +kernel
theorem dX12_digest_164 : decode cX12_digest 164 = .ok (.aload 4, 2) := by decide +kernel
theorem dX12_digest_166 : decode cX12_digest 166 = .ok (.iload 6, 2) := by decide +kernel
theorem dX12_digest_168 : decode cX12_digest 168 = .ok (.iaload, 1) := by decide +kernel
theorem dX12_digest_169 : decode cX12_digest 169 = .ok (.istore 7, 2) := by decide +kernel
theorem dX12_digest_171 : decode cX12_digest 171 = .ok (.lload_n 2, 1) := by decide +kernel
theorem dX12_digest_172 : decode cX12_digest 172 = .ok (.ldc2_w 242, 3) := by decide +kernel
theorem dX12_digest_175 : decode cX12_digest 175 = .ok (.lmul, 1) := by decide +kernel
theorem dX12_digest_176 : decode cX12_digest 176 = .ok (.iload 7, 2) := by decide +kernel
theorem dX12_digest_178 : decode cX12_digest 178 = .ok (.i2l, 1) := by decide +kernel
theorem dX12_digest_179 : decode cX12_digest 179 = .ok (.ladd, 1) := by decide +kernel
theorem dX12_digest_180 : decode cX12_digest 180 = .ok (.lstore_n 2, 1) := by decide +kernel
theorem dX12_digest_181 : decode cX12_digest 181 = .ok (.iinc 6 1, 3) := by decide +kernel
theorem dX12_digest_184 : decode cX12_digest 184 = .ok (.goto (-27), 3) := by decide +kernel
theorem dX12_digest_187 : decode cX12_digest 187 = .ok (.iconst 0, 1) := by decide +kernel
theorem dX12_digest_188 : decode cX12_digest 188 = .ok (.istore 4, 2) := by decide +kernel
theorem dX12_digest_190 : decode cX12_digest 190 = .ok (.iload 4, 2) := by decide +kernel
theorem dX12_digest_192 : decode cX12_digest 192 = .ok (.aload_n 0, 1) := by decide +kernel
theorem dX12_digest_193 : decode cX12_digest 193 = .ok (.getfield 20, 3) := by decide +kernel
theorem dX12_digest_196 : decode cX12_digest 196 = .ok (.getfield 131, 3) := by decide +kernel
theorem dX12_digest_199 : decode cX12_digest 199 = .ok (.if_icmp .ge 65, 3) := by decide +kernel
theorem dX12_digest_202 : decode cX12_digest 202 = .ok (.lload_n 2, 1) := by decide +kernel
theorem dX12_digest_203 : decode cX12_digest 203 = .ok (.ldc2_w 242, 3) := by decide +kernel
theorem dX12_digest_206 : decode cX12_digest 206 = .ok (.lmul, 1) := by decide +kernel
theorem dX12_digest_207 : decode cX12_digest 207 = .ok (.aload_n 0, 1) := by decide +kernel
theorem dX12_digest_208 : decode cX12_digest 208 = .ok (.getfield 20, 3) := by decide +kernel
theorem dX12_digest_211 : decode cX12_digest 211 = .ok (.getfield 121, 3) := by decide +kernel
theorem dX12_digest_214 : decode cX12_digest 214 = .ok (.iload 4, 2) := by decide +kernel
theorem dX12_digest_216 : decode cX12_digest 216 = .ok (.iaload, 1) := by decide +kernel
theorem dX12_digest_217 : decode cX12_digest 217 = .ok (.i2l, 1) := by decide +kernel
theorem dX12_digest_218 : decode cX12_digest 218 = .ok (.ladd, 1) := by decide +kernel
theorem dX12_digest_219 : decode cX12_digest 219 = .ok (.lstore_n 2, 1) := by decide +kernel
theorem dX12_digest_220 : decode cX12_digest 220 = .ok (.lload_n 2, 1) := by decide +kernel
theorem dX12_digest_221 : decode cX12_digest 221 = .ok (.ldc2_w 242, 3) := by decide +kernel
theorem dX12_digest_224 : decode cX12_digest 224 = .ok (.lmul, 1) := by decide +kernel
theorem dX12_digest_225 : decode cX12_digest 225 = .ok (.aload_n 0, 1) := by decide +kernel
theorem dX12_digest_226 : decode cX12_digest 226 = .ok (.getfield 20, 3) := by decide +kernel
theorem dX12_digest_229 : decode cX12_digest 229 = .ok (.getfield 105, 3) := by decide +kernel
theorem dX12_digest_232 : decode cX12_digest 232 = .ok (.iload 4, 2) := by decide +kernel
theorem dX12_digest_234 : decode cX12_digest 234 = .ok (.iaload, 1) := by decide +kernel
theorem dX12_digest_235 : decode cX12_digest 235 = .ok (.i2l, 1) := by decide +kernel
theorem dX12_digest_236 : decode cX12_digest 236 = .ok (.ladd, 1) := by decide +kernel
theorem dX12_digest_237 : decode cX12_digest 237 = .ok (.lstore_n 2, 1) := by decide +kernel
theorem dX12_digest_238 : decode cX12_digest 238 = .ok (.lload_n 2, 1) := by decide +kernel
theorem dX12_digest_239 : decode cX12_digest 239 = .ok (.ldc2_w 242, 3) := by decide +kernel
theorem dX12_digest_242 : decode cX12_digest 242 = .ok (.lmul, 1) := by decide +kernel
theorem dX12_digest_243 : decode cX12_digest 243 = .ok (.lconst 1, 1) := by decide +kernel
theorem dX12_digest_244 : decode cX12_digest 244 = .ok (.ladd, 1) := by decide +kernel
theorem dX12_digest_245 : decode cX12_digest 245 = .ok (.aload_n 0, 1) := by decide +kernel
theorem dX12_digest_246 : decode cX12_digest 246 = .ok (.getfield 24, 3) := by decide +kernel
theorem dX12_digest_249 : decode cX12_digest 249 = .ok (.bipush 8, 2) := by decide +kernel
theorem dX12_digest_251 : decode cX12_digest 251 = .ok (.iload 4, 2) := by decide +kernel
theorem dX12_digest_253 : decode cX12_digest 253 = .ok (.iadd, 1) := by decide +kernel
theorem dX12_digest_254 : decode cX12_digest 254 = .ok (.iaload, 1) := by decide +kernel
theorem dX12_digest_255 : decode cX12_digest 255 = .ok (.i2l, 1) := by decide +kernel
theorem dX12_digest_256 : decode cX12_digest 256 = .ok (.lsub, 1) := by decide +kernel
theorem dX12_digest_257 : decode cX12_digest 257 = .ok (.lstore_n 2, 1) := by decide +kernel
theorem dX12_digest_258 : decode cX12_digest 258 = .ok (.iinc 4 1, 3) := by decide +kernel
theorem dX12_digest_261 : decode cX12_digest 261 = .ok (.goto (-71), 3) := by decide +kernel
theorem dX12_digest_264 : decode cX12_digest 264 = .ok (.iconst 0, 1) := by decide +kernel
theorem dX12_digest_265 : decode cX12_digest 265 = .ok (.istore 4, 2) := by decide +kernel
theorem dX12_digest_267 : decode cX12_digest 267 = .ok (.iload 4, 2) := by decide +kernel
theorem dX12_digest_269 : decode cX12_digest 269 = .ok (.aload_n 0, 1) := by decide +kernel
theorem dX12_digest_270 : decode cX12_digest 270 = .ok (.getfield 20, 3) := by decide +kernel
theorem dX12_digest_273 : decode cX12_digest 273 = .ok (.getfield 37, 3) := by decide +kernel
theorem dX12_digest_276 : decode cX12_digest 276 = .ok (.if_icmp .ge 59, 3) := by decide +kernel
theorem dX12_digest_279 : decode cX12_digest 279 = .ok (.lload_n 2, 1) := by decide +kernel
theorem dX12_digest_280 : decode cX12_digest 280 = .ok (.ldc2_w 242, 3) := by decide +kernel
theorem dX12_digest_283 : decode cX12_digest 283 = .ok (.lmul, 1) := by decide +kernel
theorem dX12_digest_284 : decode cX12_digest 284 = .ok (.aload_n 0, 1) := by decide +kernel
theorem dX12_digest_285 : decode cX12_digest 285 = .ok (.getfield 24, 3) := by decide +kernel
theorem dX12_digest_288 : decode cX12_digest 288 = .ok (.bipush 16, 2) := by decide +kernel
theorem dX12_digest_290 : decode cX12_digest 290 = .ok (.iload 4, 2) := by decide +kernel
theorem dX12_digest_292 : decode cX12_digest 292 = .ok (.iadd, 1) := by decide +kernel
theorem dX12_digest_293 : decode cX12_digest 293 = .ok (.iaload, 1) := by decide +kernel
theorem dX12_digest_294 : decode cX12_digest 294 = .ok (.i2l, 1) := by decide +kernel
theorem dX12_digest_295 : decode cX12_digest 295 = .ok (.ladd, 1) := by decide +kernel
theorem dX12_digest_296 : decode cX12_digest 296 = .ok (.lstore_n 2, 1) := by decide +kernel
theorem dX12_digest_297 : decode cX12_digest 297 = .ok (.lload_n 2, 1) := by decide +kernel
theorem dX12_digest_298 : decode cX12_digest 298 = .ok (.ldc2_w 242, 3) := by decide +kernel
theorem dX12_digest_301 : decode cX12_digest 301 = .ok (.lmul, 1) := by decide +kernel
theorem dX12_digest_302 : decode cX12_digest 302 = .ok (.aload_n 0, 1) := by decide +kernel
theorem dX12_digest_303 : decode cX12_digest 303 = .ok (.iload 4, 2) := by decide +kernel
theorem dX12_digest_305 : decode cX12_digest 305 = .ok (.invokevirtual 118, 3) := by decide +kernel
theorem dX12_digest_308 : decode cX12_digest 308 = .ok (.i2l, 1) := by decide +kernel
theorem dX12_digest_309 : decode cX12_digest 309 = .ok (.ladd, 1) := by decide +kernel
theorem dX12_digest_310 : decode cX12_digest 310 = .ok (.lstore_n 2, 1) := by decide +kernel
theorem dX12_digest_311 : decode cX12_digest 311 = .ok (.lload_n 2, 1) := by decide +kernel
theorem dX12_digest_312 : decode cX12_digest 312 = .ok (.ldc2_w 242, 3) := by decide +kernel
theorem dX12_digest_315 : decode cX12_digest 315 = .ok (.lmul, 1) := by decide +kernel
theorem dX12_digest_316 : decode cX12_digest 316 = .ok (.aload_n 0, 1) := by decide +kernel
theorem dX12_digest_317 : decode cX12_digest 317 = .ok (.getfield 24, 3) := by decide +kernel
theorem dX12_digest_320 : decode cX12_digest 320 = .ok (.bipush 28, 2) := by decide +kernel
theorem dX12_digest_322 : decode cX12_digest 322 = .ok (.iload 4, 2) := by decide +kernel
theorem dX12_digest_324 : decode cX12_digest 324 = .ok (.iadd, 1) := by decide +kernel
theorem dX12_digest_325 : decode cX12_digest 325 = .ok (.iaload, 1) := by decide +kernel
theorem dX12_digest_326 : decode cX12_digest 326 = .ok (.i2l, 1) := by decide +kernel
theorem dX12_digest_327 : decode cX12_digest 327 = .ok (.ladd, 1) := by decide +kernel
theorem dX12_digest_328 : decode cX12_digest 328 = .ok (.lstore_n 2, 1) := by decide +kernel
theorem dX12_digest_329 : decode cX12_digest 329 = .ok (.iinc 4 1, 3) := by decide +kernel
theorem dX12_digest_332 : decode cX12_digest 332 = .ok (.goto (-65), 3) := by decide +kernel
theorem dX12_digest_335 : decode cX12_digest 335 = .ok (.iconst 0, 1) := by decide +kernel
theorem dX12_digest_336 : decode cX12_digest 336 = .ok (.istore 4, 2) := by decide +kernel
theorem dX12_digest_338 : decode cX12_digest 338 = .ok (.iload 4, 2) := by decide +kernel
theorem dX12_digest_340 : decode cX12_digest 340 = .ok (.bipush 10, 2) := by decide +kernel
theorem dX12_digest_342 : decode cX12_digest 342 = .ok (.aload_n 0, 1) := by decide +kernel
theorem dX12_digest_343 : decode cX12_digest 343 = .ok (.getfield 24, 3) := by decide +kernel
theorem dX12_digest_346 : decode cX12_digest 346 = .ok (.bipush 6, 2) := by decide +kernel
theorem dX12_digest_348 : decode cX12_digest 348 = .ok (.iaload, 1) := by decide +kernel
theorem dX12_digest_349 : decode cX12_digest 349 = .ok (.invokestatic 169, 3) := by decide +kernel
theorem dX12_digest_352 : decode cX12_digest 352 = .ok (.if_icmp .ge 27, 3) := by decide +kernel
theorem dX12_digest_355 : decode cX12_digest 355 = .ok (.lload_n 2, 1) := by decide +kernel
theorem dX12_digest_356 : decode cX12_digest 356 = .ok (.ldc2_w 242, 3) := by decide +kernel
theorem dX12_digest_359 : decode cX12_digest 359 = .ok (.lmul, 1) := by decide +kernel
theorem dX12_digest_360 : decode cX12_digest 360 = .ok (.aload_n 0, 1) := by decide +kernel
theorem dX12_digest_361 : decode cX12_digest 361 = .ok (.getfield 24, 3) := by decide +kernel
theorem dX12_digest_364 : decode cX12_digest 364 = .ok (.bipush 40, 2) := by decide +kernel
theorem dX12_digest_366 : decode cX12_digest 366 = .ok (.iload 4, 2) := by decide +kernel
theorem dX12_digest_368 : decode cX12_digest 368 = .ok (.iadd, 1) := by decide +kernel
theorem dX12_digest_369 : decode cX12_digest 369 = .ok (.iaload, 1) := by decide +kernel
theorem dX12_digest_370 : decode cX12_digest 370 = .ok (.i2l, 1) := by decide +kernel
theorem dX12_digest_371 : decode cX12_digest 371 = .ok (.ladd, 1) := by decide +kernel
theorem dX12_digest_372 : decode cX12_digest 372 = .ok (.lstore_n 2, 1) := by decide +kernel
theorem dX12_digest_373 : decode cX12_digest 373 = .ok (.iinc 4 1, 3) := by decide +kernel
theorem dX12_digest_376 : decode cX12_digest 376 = .ok (.goto (-38), 3) := by decide +kernel
theorem dX12_digest_379 : decode cX12_digest 379 = .ok (.lload_n 2, 1) := by decide +kernel
theorem dX12_digest_380 : decode cX12_digest 380 = .ok (.lreturn, 1) := by decide +kernel
theorem dJx29ce0_ordinal_8abf5_0 : decode cJx29ce0_ordinal_8abf5 0 = .ok (.aload_n 0, 1) := by decide +kernel
theorem dJx29ce0_ordinal_8abf5_1 : decode cJx29ce0_ordinal_8abf5 1 = .ok (.getfield 7, 3) := by decide +kernel
theorem dJx29ce0_ordinal_8abf5_4 : decode cJx29ce0_ordinal_8abf5 4 = .ok (.ireturn, 1) := by decide +kernel
theorem dJ6_bitCount_0f7a4_0 : decode cJ6_bitCount_0f7a4 0 = .ok (.iload_n 0, 1) := by decide +kernel
theorem dJ6_bitCount_0f7a4_1 : decode cJ6_bitCount_0f7a4 1 = .ok (.iload_n 0, 1) := by decide +kernel
theorem dJ6_bitCount_0f7a4_2 : decode cJ6_bitCount_0f7a4 2 = .ok (.iconst 1, 1) := by decide +kernel
theorem dJ6_bitCount_0f7a4_3 : decode cJ6_bitCount_0f7a4 3 = .ok (.iushr, 1) := by decide +kernel
theorem dJ6_bitCount_0f7a4_4 : decode cJ6_bitCount_0f7a4 4 = .ok (.ldc_w 265, 3) := by decide +kernel
theorem dJ6_bitCount_0f7a4_7 : decode cJ6_bitCount_0f7a4 7 = .ok (.iand, 1) := by decide +kernel
theorem dJ6_bitCount_0f7a4_8 : decode cJ6_bitCount_0f7a4 8 = .ok (.isub, 1) := by decide +kernel
theorem dJ6_bitCount_0f7a4_9 : decode cJ6_bitCount_0f7a4 9 = .ok (.istore_n 0, 1) := by decide +kernel
theorem dJ6_bitCount_0f7a4_10 : decode cJ6_bitCount_0f7a4 10 = .ok (.iload_n 0, 1) := by decide +kernel
theorem dJ6_bitCount_0f7a4_11 : decode cJ6_bitCount_0f7a4 11 = .ok (.ldc_w 266, 3) := by decide +kernel
theorem dJ6_bitCount_0f7a4_14 : decode cJ6_bitCount_0f7a4 14 = .ok (.iand, 1) := by decide +kernel
theorem dJ6_bitCount_0f7a4_15 : decode cJ6_bitCount_0f7a4 15 = .ok (.iload_n 0, 1) := by decide +kernel
theorem dJ6_bitCount_0f7a4_16 : decode cJ6_bitCount_0f7a4 16 = .ok (.iconst 2, 1) := by decide +kernel
theorem dJ6_bitCount_0f7a4_17 : decode cJ6_bitCount_0f7a4 17 = .ok (.iushr, 1) := by decide +kernel
theorem dJ6_bitCount_0f7a4_18 : decode cJ6_bitCount_0f7a4 18 = .ok (.ldc_w 266, 3) := by decide +kernel
theorem dJ6_bitCount_0f7a4_21 : decode cJ6_bitCount_0f7a4 21 = .ok (.iand, 1) := by decide +kernel
theorem dJ6_bitCount_0f7a4_22 : decode cJ6_bitCount_0f7a4 22 = .ok (.iadd, 1) := by decide +kernel
theorem dJ6_bitCount_0f7a4_23 : decode cJ6_bitCount_0f7a4 23 = .ok (.istore_n 0, 1) := by decide +kernel
theorem dJ6_bitCount_0f7a4_24 : decode cJ6_bitCount_0f7a4 24 = .ok (.iload_n 0, 1) := by decide +kernel
theorem dJ6_bitCount_0f7a4_25 : decode cJ6_bitCount_0f7a4 25 = .ok (.iload_n 0, 1) := by decide +kernel
theorem dJ6_bitCount_0f7a4_26 : decode cJ6_bitCount_0f7a4 26 = .ok (.iconst 4, 1) := by decide +kernel
theorem dJ6_bitCount_0f7a4_27 : decode cJ6_bitCount_0f7a4 27 = .ok (.iushr, 1) := by decide +kernel
theorem dJ6_bitCount_0f7a4_28 : decode cJ6_bitCount_0f7a4 28 = .ok (.iadd, 1) := by decide +kernel
theorem dJ6_bitCount_0f7a4_29 : decode cJ6_bitCount_0f7a4 29 = .ok (.ldc_w 267, 3) := by decide +kernel
theorem dJ6_bitCount_0f7a4_32 : decode cJ6_bitCount_0f7a4 32 = .ok (.iand, 1) := by decide +kernel
theorem dJ6_bitCount_0f7a4_33 : decode cJ6_bitCount_0f7a4 33 = .ok (.istore_n 0, 1) := by decide +kernel
theorem dJ6_bitCount_0f7a4_34 : decode cJ6_bitCount_0f7a4 34 = .ok (.iload_n 0, 1) := by decide +kernel
theorem dJ6_bitCount_0f7a4_35 : decode cJ6_bitCount_0f7a4 35 = .ok (.iload_n 0, 1) := by decide +kernel
theorem dJ6_bitCount_0f7a4_36 : decode cJ6_bitCount_0f7a4 36 = .ok (.bipush 8, 2) := by decide +kernel
theorem dJ6_bitCount_0f7a4_38 : decode cJ6_bitCount_0f7a4 38 = .ok (.iushr, 1) := by decide +kernel
theorem dJ6_bitCount_0f7a4_39 : decode cJ6_bitCount_0f7a4 39 = .ok (.iadd, 1) := by decide +kernel
theorem dJ6_bitCount_0f7a4_40 : decode cJ6_bitCount_0f7a4 40 = .ok (.istore_n 0, 1) := by decide +kernel
theorem dJ6_bitCount_0f7a4_41 : decode cJ6_bitCount_0f7a4 41 = .ok (.iload_n 0, 1) := by decide +kernel
theorem dJ6_bitCount_0f7a4_42 : decode cJ6_bitCount_0f7a4 42 = .ok (.iload_n 0, 1) := by decide +kernel
theorem dJ6_bitCount_0f7a4_43 : decode cJ6_bitCount_0f7a4 43 = .ok (.bipush 16, 2) := by decide +kernel
theorem dJ6_bitCount_0f7a4_45 : decode cJ6_bitCount_0f7a4 45 = .ok (.iushr, 1) := by decide +kernel
theorem dJ6_bitCount_0f7a4_46 : decode cJ6_bitCount_0f7a4 46 = .ok (.iadd, 1) := by decide +kernel
theorem dJ6_bitCount_0f7a4_47 : decode cJ6_bitCount_0f7a4 47 = .ok (.istore_n 0, 1) := by decide +kernel
theorem dJ6_bitCount_0f7a4_48 : decode cJ6_bitCount_0f7a4 48 = .ok (.iload_n 0, 1) := by decide +kernel
theorem dJ6_bitCount_0f7a4_49 : decode cJ6_bitCount_0f7a4 49 = .ok (.bipush 63, 2) := by decide +kernel
theorem dJ6_bitCount_0f7a4_51 : decode cJ6_bitCount_0f7a4 51 = .ok (.iand, 1) := by decide +kernel
theorem dJ6_bitCount_0f7a4_52 : decode cJ6_bitCount_0f7a4 52 = .ok (.ireturn, 1) := by decide +kernel
theorem dJ9_max_7cf53_0 : decode cJ9_max_7cf53 0 = .ok (.iload_n 0, 1) := by decide +kernel
theorem dJ9_max_7cf53_1 : decode cJ9_max_7cf53 1 = .ok (.iload_n 1, 1) := by decide +kernel
theorem dJ9_max_7cf53_2 : decode cJ9_max_7cf53 2 = .ok (.if_icmp .lt 7, 3) := by decide +kernel
theorem dJ9_max_7cf53_5 : decode cJ9_max_7cf53 5 = .ok (.iload_n 0, 1) := by decide +kernel
theorem dJ9_max_7cf53_6 : decode cJ9_max_7cf53 6 = .ok (.goto 4, 3) := by decide +kernel
theorem dJ9_max_7cf53_9 : decode cJ9_max_7cf53 9 = .ok (.iload_n 1, 1) := by decide +kernel
theorem dJ9_max_7cf53_10 : decode cJ9_max_7cf53 10 = .ok (.ireturn, 1) := by decide +kernel
theorem dJ9_min_7cf53_0 : decode cJ9_min_7cf53 0 = .ok (.iload_n 0, 1) := by decide +kernel
theorem dJ9_min_7cf53_1 : decode cJ9_min_7cf53 1 = .ok (.iload_n 1, 1) := by decide +kernel
theorem dJ9_min_7cf53_2 : decode cJ9_min_7cf53 2 = .ok (.if_icmp .gt 7, 3) := by decide +kernel
theorem dJ9_min_7cf53_5 : decode cJ9_min_7cf53 5 = .ok (.iload_n 0, 1) := by decide +kernel
theorem dJ9_min_7cf53_6 : decode cJ9_min_7cf53 6 = .ok (.goto 4, 3) := by decide +kernel
theorem dJ9_min_7cf53_9 : decode cJ9_min_7cf53 9 = .ok (.iload_n 1, 1) := by decide +kernel
theorem dJ9_min_7cf53_10 : decode cJ9_min_7cf53 10 = .ok (.ireturn, 1) := by decide +kernel
theorem dJ0_length_8abf5_0 : decode cJ0_length_8abf5 0 = .ok (.aload_n 0, 1) := by decide +kernel
theorem dJ0_length_8abf5_1 : decode cJ0_length_8abf5 1 = .ok (.getfield 9, 3) := by decide +kernel
theorem dJ0_length_8abf5_4 : decode cJ0_length_8abf5 4 = .ok (.arraylength, 1) := by decide +kernel
theorem dJ0_length_8abf5_5 : decode cJ0_length_8abf5 5 = .ok (.aload_n 0, 1) := by decide +kernel
theorem dJ0_length_8abf5_6 : decode cJ0_length_8abf5 6 = .ok (.invokevirtual 335, 3) := by decide +kernel
theorem dJ0_length_8abf5_9 : decode cJ0_length_8abf5 9 = .ok (.ishr, 1) := by decide +kernel
theorem dJ0_length_8abf5_10 : decode cJ0_length_8abf5 10 = .ok (.ireturn, 1) := by decide +kernel
theorem dJ0_charAt_5068e_0 : decode cJ0_charAt_5068e 0 = .ok (.aload_n 0, 1) := by decide +kernel
theorem dJ0_charAt_5068e_1 : decode cJ0_charAt_5068e 1 = .ok (.invokevirtual 492, 3) := by decide +kernel
theorem dJ0_charAt_5068e_4 : decode cJ0_charAt_5068e 4 = .ok (.ifCond .eq 12, 3) := by decide +kernel
theorem dJ0_charAt_5068e_7 : decode cJ0_charAt_5068e 7 = .ok (.aload_n 0, 1) := by decide +kernel
theorem dJ0_charAt_5068e_8 : decode cJ0_charAt_5068e 8 = .ok (.getfield 9, 3) := by decide +kernel
theorem dJ0_charAt_5068e_11 : decode cJ0_charAt_5068e 11 = .ok (.iload_n 1, 1) := by decide +kernel
theorem dJ0_charAt_5068e_12 : decode cJ0_charAt_5068e 12 = .ok (.invokestatic 495, 3) := by decide +kernel
theorem dJ0_charAt_5068e_15 : decode cJ0_charAt_5068e 15 = .ok (.ireturn, 1) := by decide +kernel
theorem dJ0_charAt_5068e_16 : decode cJ0_charAt_5068e 16 = .ok (.aload_n 0, 1) := by decide +kernel
theorem dJ0_charAt_5068e_17 : decode cJ0_charAt_5068e 17 = .ok (.getfield 9, 3) := by decide +kernel
theorem dJ0_charAt_5068e_20 : decode cJ0_charAt_5068e 20 = .ok (.iload_n 1, 1) := by decide +kernel
theorem dJ0_charAt_5068e_21 : decode cJ0_charAt_5068e 21 = .ok (.invokestatic 498, 3) := by decide +kernel
theorem dJ0_charAt_5068e_24 : decode cJ0_charAt_5068e 24 = .ok (.ireturn, 1) := by decide +kernel
theorem dJ0_coder_7d493_0 : decode cJ0_coder_7d493 0 = .ok (.getstatic 38, 3) := by decide +kernel
theorem dJ0_coder_7d493_3 : decode cJ0_coder_7d493 3 = .ok (.ifCond .eq 10, 3) := by decide +kernel
theorem dJ0_coder_7d493_6 : decode cJ0_coder_7d493 6 = .ok (.aload_n 0, 1) := by decide +kernel
theorem dJ0_coder_7d493_7 : decode cJ0_coder_7d493 7 = .ok (.getfield 15, 3) := by decide +kernel
theorem dJ0_coder_7d493_10 : decode cJ0_coder_7d493 10 = .ok (.goto 4, 3) := by decide +kernel
theorem dJ0_coder_7d493_13 : decode cJ0_coder_7d493 13 = .ok (.iconst 1, 1) := by decide +kernel
theorem dJ0_coder_7d493_14 : decode cJ0_coder_7d493 14 = .ok (.ireturn, 1) := by decide +kernel
theorem dJ0_isLatin1_aae02_0 : decode cJ0_isLatin1_aae02 0 = .ok (.getstatic 38, 3) := by decide +kernel
theorem dJ0_isLatin1_aae02_3 : decode cJ0_isLatin1_aae02 3 = .ok (.ifCond .eq 14, 3) := by decide +kernel
theorem dJ0_isLatin1_aae02_6 : decode cJ0_isLatin1_aae02 6 = .ok (.aload_n 0, 1) := by decide +kernel
theorem dJ0_isLatin1_aae02_7 : decode cJ0_isLatin1_aae02 7 = .ok (.getfield 15, 3) := by decide +kernel
theorem dJ0_isLatin1_aae02_10 : decode cJ0_isLatin1_aae02 10 = .ok (.ifCond .ne 7, 3) := by decide +kernel
theorem dJ0_isLatin1_aae02_13 : decode cJ0_isLatin1_aae02 13 = .ok (.iconst 1, 1) := by decide +kernel
theorem dJ0_isLatin1_aae02_14 : decode cJ0_isLatin1_aae02 14 = .ok (.goto 4, 3) := by decide +kernel
theorem dJ0_isLatin1_aae02_17 : decode cJ0_isLatin1_aae02 17 = .ok (.iconst 0, 1) := by decide +kernel
theorem dJ0_isLatin1_aae02_18 : decode cJ0_isLatin1_aae02 18 = .ok (.ireturn, 1) := by decide +kernel
theorem dJ0_checkIndex_df160_0 : decode cJ0_checkIndex_df160 0 = .ok (.iload_n 0, 1) := by decide +kernel
theorem dJ0_checkIndex_df160_1 : decode cJ0_checkIndex_df160 1 = .ok (.iload_n 1, 1) := by decide +kernel
theorem dJ0_checkIndex_df160_2 : decode cJ0_checkIndex_df160 2 = .ok (.getstatic 1053, 3) := by decide +kernel
theorem dJ0_checkIndex_df160_5 : decode cJ0_checkIndex_df160 5 = .ok (.invokestatic 1059, 3) := by decide +kernel
theorem dJ0_checkIndex_df160_8 : decode cJ0_checkIndex_df160 8 = .ok (.pop, 1) := by decide +kernel
theorem dJ0_checkIndex_df160_9 : decode cJ0_checkIndex_df160 9 = .ok (.return_, 1) := by decide +kernel
theorem dJ1_charAt_3b067_0 : decode cJ1_charAt_3b067 0 = .ok (.iload_n 1, 1) := by decide +kernel
theorem dJ1_charAt_3b067_1 : decode cJ1_charAt_3b067 1 = .ok (.aload_n 0, 1) := by decide +kernel
theorem dJ1_charAt_3b067_2 : decode cJ1_charAt_3b067 2 = .ok (.arraylength, 1) := by decide +kernel
theorem dJ1_charAt_3b067_3 : decode cJ1_charAt_3b067 3 = .ok (.invokestatic 9, 3) := by decide +kernel
theorem dJ1_charAt_3b067_6 : decode cJ1_charAt_3b067 6 = .ok (.aload_n 0, 1) := by decide +kernel
theorem dJ1_charAt_3b067_7 : decode cJ1_charAt_3b067 7 = .ok (.iload_n 1, 1) := by decide +kernel
theorem dJ1_charAt_3b067_8 : decode cJ1_charAt_3b067 8 = .ok (.baload, 1) := by decide +kernel
theorem dJ1_charAt_3b067_9 : decode cJ1_charAt_3b067 9 = .ok (.sipush 255, 3) := by decide +kernel
theorem dJ1_charAt_3b067_12 : decode cJ1_charAt_3b067 12 = .ok (.iand, 1) := by decide +kernel
theorem dJ1_charAt_3b067_13 : decode cJ1_charAt_3b067 13 = .ok (.i2c, 1) := by decide +kernel
theorem dJ1_charAt_3b067_14 : decode cJ1_charAt_3b067 14 = .ok (.ireturn, 1) := by decide +kernel
theorem dJ2_getChar_3b067_0 : decode cJ2_getChar_3b067 0 = .ok (.getstatic 44, 3) := by decide +kernel
theorem dJ2_getChar_3b067_3 : decode cJ2_getChar_3b067 3 = .ok (.ifCond .ne 25, 3) := by decide +kernel
theorem dJ2_getChar_3b067_6 : decode cJ2_getChar_3b067 6 = .ok (.iload_n 1, 1) := by decide +kernel
theorem dJ2_getChar_3b067_7 : decode cJ2_getChar_3b067 7 = .ok (.ifCond .lt 11, 3) := by decide +kernel
theorem dJ2_getChar_3b067_10 : decode cJ2_getChar_3b067 10 = .ok (.iload_n 1, 1) := by decide +kernel
theorem dJ2_getChar_3b067_11 : decode cJ2_getChar_3b067 11 = .ok (.aload_n 0, 1) := by decide +kernel
theorem dJ2_getChar_3b067_12 : decode cJ2_getChar_3b067 12 = .ok (.invokestatic 48, 3) := by decide +kernel
theorem dJ2_getChar_3b067_15 : decode cJ2_getChar_3b067 15 = .ok (.if_icmp .lt 13, 3) := by decide +kernel
theorem dJ2_getChar_3b067_18 : decode cJ2_getChar_3b067 18 = .ok (.new 52, 3) := by decide +kernel
theorem dJ2_getChar_3b067_21 : decode cJ2_getChar_3b067 21 = .ok (.dup, 1) := by decide +kernel
theorem dJ2_getChar_3b067_22 : decode cJ2_getChar_3b067 22 = .ok (.ldc 54, 2) := by decide +kernel
theorem dJ2_getChar_3b067_24 : decode cJ2_getChar_3b067 24 = .ok (.invokespecial 56, 3) := by decide +kernel
theorem dJ2_getChar_3b067_27 : decode cJ2_getChar_3b067 27 = .ok (.athrow, 1) := by decide +kernel
theorem dJ2_getChar_3b067_28 : decode cJ2_getChar_3b067 28 = .ok (.iload_n 1, 1) := by decide +kernel
theorem dJ2_getChar_3b067_29 : decode cJ2_getChar_3b067 29 = .ok (.iconst 1, 1) := by decide +kernel
theorem dJ2_getChar_3b067_30 : decode cJ2_getChar_3b067 30 = .ok (.ishl, 1) := by decide +kernel
theorem dJ2_getChar_3b067_31 : decode cJ2_getChar_3b067 31 = .ok (.istore_n 1, 1) := by decide +kernel
theorem dJ2_getChar_3b067_32 : decode cJ2_getChar_3b067 32 = .ok (.aload_n 0, 1) := by decide +kernel
theorem dJ2_getChar_3b067_33 : decode cJ2_getChar_3b067 33 = .ok (.iload_n 1, 1) := by decide +kernel
theorem dJ2_getChar_3b067_34 : decode cJ2_getChar_3b067 34 = .ok (.iinc 1 1, 3) := by decide +kernel
theorem dJ2_getChar_3b067_37 : decode cJ2_getChar_3b067 37 = .ok (.baload, 1) := by decide +kernel
theorem dJ2_getChar_3b067_38 : decode cJ2_getChar_3b067 38 = .ok (.sipush 255, 3) := by decide +kernel
theorem dJ2_getChar_3b067_41 : decode cJ2_getChar_3b067 41 = .ok (.iand, 1) := by decide +kernel
theorem dJ2_getChar_3b067_42 : decode cJ2_getChar_3b067 42 = .ok (.getstatic 59, 3) := by decide +kernel
theorem dJ2_getChar_3b067_45 : decode cJ2_getChar_3b067 45 = .ok (.ishl, 1) := by decide +kernel
theorem dJ2_getChar_3b067_46 : decode cJ2_getChar_3b067 46 = .ok (.aload_n 0, 1) := by decide +kernel
theorem dJ2_getChar_3b067_47 : decode cJ2_getChar_3b067 47 = .ok (.iload_n 1, 1) := by decide +kernel
theorem dJ2_getChar_3b067_48 : decode cJ2_getChar_3b067 48 = .ok (.baload, 1) := by decide +kernel
theorem dJ2_getChar_3b067_49 : decode cJ2_getChar_3b067 49 = .ok (.sipush 255, 3) := by decide +kernel
theorem dJ2_getChar_3b067_52 : decode cJ2_getChar_3b067 52 = .ok (.iand, 1) := by decide +kernel
theorem dJ2_getChar_3b067_53 : decode cJ2_getChar_3b067 53 = .ok (.getstatic 63, 3) := by decide +kernel
theorem dJ2_getChar_3b067_56 : decode cJ2_getChar_3b067 56 = .ok (.ishl, 1) := by decide +kernel
theorem dJ2_getChar_3b067_57 : decode cJ2_getChar_3b067 57 = .ok (.ior, 1) := by decide +kernel
theorem dJ2_getChar_3b067_58 : decode cJ2_getChar_3b067 58 = .ok (.i2c, 1) := by decide +kernel
theorem dJ2_getChar_3b067_59 : decode cJ2_getChar_3b067 59 = .ok (.ireturn, 1) := by decide +kernel
theorem dJ2_length_9d52b_0 : decode cJ2_length_9d52b 0 = .ok (.aload_n 0, 1) := by decide +kernel
theorem dJ2_length_9d52b_1 : decode cJ2_length_9d52b 1 = .ok (.arraylength, 1) := by decide +kernel
theorem dJ2_length_9d52b_2 : decode cJ2_length_9d52b 2 = .ok (.iconst 1, 1) := by decide +kernel
theorem dJ2_length_9d52b_3 : decode cJ2_length_9d52b 3 = .ok (.ishr, 1) := by decide +kernel
theorem dJ2_length_9d52b_4 : decode cJ2_length_9d52b 4 = .ok (.ireturn, 1) := by decide +kernel
theorem dJ2_charAt_3b067_0 : decode cJ2_charAt_3b067 0 = .ok (.iload_n 1, 1) := by decide +kernel
theorem dJ2_charAt_3b067_1 : decode cJ2_charAt_3b067 1 = .ok (.aload_n 0, 1) := by decide +kernel
theorem dJ2_charAt_3b067_2 : decode cJ2_charAt_3b067 2 = .ok (.invokestatic 67, 3) := by decide +kernel
theorem dJ2_charAt_3b067_5 : decode cJ2_charAt_3b067 5 = .ok (.aload_n 0, 1) := by decide +kernel
theorem dJ2_charAt_3b067_6 : decode cJ2_charAt_3b067 6 = .ok (.iload_n 1, 1) := by decide +kernel
theorem dJ2_charAt_3b067_7 : decode cJ2_charAt_3b067 7 = .ok (.invokestatic 71, 3) := by decide +kernel
theorem dJ2_charAt_3b067_10 : decode cJ2_charAt_3b067 10 = .ok (.ireturn, 1) := by decide +kernel
theorem dJ2_checkIndex_2214a_0 : decode cJ2_checkIndex_2214a 0 = .ok (.iload_n 0, 1) := by decide +kernel
theorem dJ2_checkIndex_2214a_1 : decode cJ2_checkIndex_2214a 1 = .ok (.aload_n 1, 1) := by decide +kernel
theorem dJ2_checkIndex_2214a_2 : decode cJ2_checkIndex_2214a 2 = .ok (.invokestatic 48, 3) := by decide +kernel
theorem dJ2_checkIndex_2214a_5 : decode cJ2_checkIndex_2214a 5 = .ok (.invokestatic 414, 3) := by decide +kernel
theorem dJ2_checkIndex_2214a_8 : decode cJ2_checkIndex_2214a 8 = .ok (.return_, 1) := by decide +kernel
theorem dJ7_fill_53178_0 : decode cJ7_fill_53178 0 = .ok (.iconst 0, 1) := by decide +kernel
theorem dJ7_fill_53178_1 : decode cJ7_fill_53178 1 = .ok (.istore_n 2, 1) := by decide +kernel
theorem dJ7_fill_53178_2 : decode cJ7_fill_53178 2 = .ok (.aload_n 0, 1) := by decide +kernel
theorem dJ7_fill_53178_3 : decode cJ7_fill_53178 3 = .ok (.arraylength, 1) := by decide +kernel
theorem dJ7_fill_53178_4 : decode cJ7_fill_53178 4 = .ok (.istore_n 3, 1) := by decide +kernel
theorem dJ7_fill_53178_5 : decode cJ7_fill_53178 5 = .ok (.iload_n 2, 1) := by decide +kernel
theorem dJ7_fill_53178_6 : decode cJ7_fill_53178 6 = .ok (.iload_n 3, 1) := by decide +kernel
theorem dJ7_fill_53178_7 : decode cJ7_fill_53178 7 = .ok (.if_icmp .ge 13, 3) := by decide +kernel
theorem dJ7_fill_53178_10 : decode cJ7_fill_53178 10 = .ok (.aload_n 0, 1) := by decide +kernel
theorem dJ7_fill_53178_11 : decode cJ7_fill_53178 11 = .ok (.iload_n 2, 1) := by decide +kernel
theorem dJ7_fill_53178_12 : decode cJ7_fill_53178 12 = .ok (.iload_n 1, 1) := by decide +kernel
theorem dJ7_fill_53178_13 : decode cJ7_fill_53178 13 = .ok (.iastore, 1) := by decide +kernel
theorem dJ7_fill_53178_14 : decode cJ7_fill_53178 14 = .ok (.iinc 2 1, 3) := by decide +kernel
theorem dJ7_fill_53178_17 : decode cJ7_fill_53178 17 = .ok (.goto (-12), 3) := by decide +kernel
theorem dJ7_fill_53178_20 : decode cJ7_fill_53178 20 = .ok (.return_, 1) := by decide +kernel
theorem dJ3_checkIndex_8e157_0 : decode cJ3_checkIndex_8e157 0 = .ok (.iload_n 0, 1) := by decide +kernel
theorem dJ3_checkIndex_8e157_1 : decode cJ3_checkIndex_8e157 1 = .ok (.ifCond .lt 8, 3) := by decide +kernel
theorem dJ3_checkIndex_8e157_4 : decode cJ3_checkIndex_8e157 4 = .ok (.iload_n 0, 1) := by decide +kernel
theorem dJ3_checkIndex_8e157_5 : decode cJ3_checkIndex_8e157 5 = .ok (.iload_n 1, 1) := by decide +kernel
theorem dJ3_checkIndex_8e157_6 : decode cJ3_checkIndex_8e157 6 = .ok (.if_icmp .lt 10, 3) := by decide +kernel
