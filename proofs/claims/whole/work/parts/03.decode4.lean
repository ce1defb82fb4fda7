theorem dX11_act_1 : decode cX11_act 1 = .ok (.getfield 53, 3) := by decide +kernel
theorem dX11_act_4 : decode cX11_act 4 = .ok (.sipush 205, 3) := by decide +kernel
theorem dX11_act_7 : decode cX11_act 7 = .ok (.if_icmp .lt 23, 3) := by decide +kernel
theorem dX11_act_10 : decode cX11_act 10 = .ok (.aload_n 0, 1) := by decide +kernel
theorem dX11_act_11 : decode cX11_act 11 = .ok (.getfield 53, 3) := by decide +kernel
theorem dX11_act_14 : decode cX11_act 14 = .ok (.sipush 212, 3) := by decide +kernel
theorem dX11_act_17 : decode cX11_act 17 = .ok (.if_icmp .gt 13, 3) := by decide +kernel
theorem dX11_act_20 : decode cX11_act 20 = .ok (.aload_n 0, 1) := by decide +kernel
theorem dX11_act_21 : decode cX11_act 21 = .ok (.getfield 53, 3) := by decide +kernel
theorem dX11_act_24 : decode cX11_act 24 = .ok (.sipush 206, 3) := by decide +kernel
theorem dX11_act_27 : decode cX11_act 27 = .ok (.if_icmp .ne 8, 3) := by decide +kernel
theorem dX11_act_30 : decode cX11_act 30 = .ok (.aload_n 0, 1) := by decide +kernel
theorem dX11_act_31 : decode cX11_act 31 = .ok (.invokevirtual 97, 3) := by decide +kernel
theorem dX11_act_34 : decode cX11_act 34 = .ok (.ireturn, 1) := by decide +kernel
theorem dX11_act_35 : decode cX11_act 35 = .ok (.aload_n 0, 1) := by decide +kernel
theorem dX11_act_36 : decode cX11_act 36 = .ok (.getfield 18, 3) := by decide +kernel
theorem dX11_act_39 : decode cX11_act 39 = .ok (.getfield 179, 3) := by decide +kernel
theorem dX11_act_42 : decode cX11_act 42 = .ok (.bipush 60, 2) := by decide +kernel
theorem dX11_act_44 : decode cX11_act 44 = .ok (.if_icmp .ne 8, 3) := by decide +kernel
theorem dX11_act_47 : decode cX11_act 47 = .ok (.aload_n 0, 1) := by decide +kernel
theorem dX11_act_48 : decode cX11_act 48 = .ok (.iconst 4, 1) := by decide +kernel
theorem dX11_act_49 : decode cX11_act 49 = .ok (.invokevirtual 111, 3) := by decide +kernel
theorem dX11_act_52 : decode cX11_act 52 = .ok (.aload_n 0, 1) := by decide +kernel
theorem dX11_act_53 : decode cX11_act 53 = .ok (.getfield 18, 3) := by decide +kernel
theorem dX11_act_56 : decode cX11_act 56 = .ok (.getfield 179, 3) := by decide +kernel
theorem dX11_act_59 : decode cX11_act 59 = .ok (.bipush 60, 2) := by decide +kernel
theorem dX11_act_61 : decode cX11_act 61 = .ok (.if_icmp .ge 16, 3) := by decide +kernel
theorem dX11_act_64 : decode cX11_act 64 = .ok (.aload_n 0, 1) := by decide +kernel
theorem dX11_act_65 : decode cX11_act 65 = .ok (.getfield 18, 3) := by decide +kernel
theorem dX11_act_68 : decode cX11_act 68 = .ok (.dup, 1) := by decide +kernel
theorem dX11_act_69 : decode cX11_act 69 = .ok (.getfield 179, 3) := by decide +kernel
theorem dX11_act_72 : decode cX11_act 72 = .ok (.iconst 1, 1) := by decide +kernel
theorem dX11_act_73 : decode cX11_act 73 = .ok (.iadd, 1) := by decide +kernel
theorem dX11_act_74 : decode cX11_act 74 = .ok (.putfield 179, 3) := by decide +kernel
theorem dX11_act_77 : decode cX11_act 77 = .ok (.aload_n 0, 1) := by decide +kernel
theorem dX11_act_78 : decode cX11_act 78 = .ok (.getfield 53, 3) := by decide +kernel
theorem dX11_act_81 : decode cX11_act 81 = .ok (.istore_n 2, 1) := by decide +kernel
theorem dX11_act_82 : decode cX11_act 82 = .ok (.aload_n 0, 1) := by decide +kernel
theorem dX11_act_83 : decode cX11_act 83 = .ok (.invokevirtual 101, 3) := by decide +kernel
theorem dX11_act_86 : decode cX11_act 86 = .ok (.iload_n 2, 1) := by decide +kernel
theorem dX11_act_87 : decode cX11_act 87 = .ok (.tableswitch 67 205 212 #[45, 67, 67, 67, 67, 50, 55, 61], 45) := by decide +kernel
theorem dX11_act_132 : decode cX11_act 132 = .ok (.aload_n 0, 1) := by decide +kernel
theorem dX11_act_133 : decode cX11_act 133 = .ok (.invokevirtual 182, 3) := by decide +kernel
theorem dX11_act_136 : decode cX11_act 136 = .ok (.ireturn, 1) := by decide +kernel
theorem dX11_act_137 : decode cX11_act 137 = .ok (.aload_n 0, 1) := by decide +kernel
theorem dX11_act_138 : decode cX11_act 138 = .ok (.invokevirtual 185, 3) := by decide +kernel
theorem dX11_act_141 : decode cX11_act 141 = .ok (.ireturn, 1) := by decide +kernel
theorem dX11_act_142 : decode cX11_act 142 = .ok (.aload_n 0, 1) := by decide +kernel
theorem dX11_act_143 : decode cX11_act 143 = .ok (.iload_n 1, 1) := by decide +kernel
theorem dX11_act_144 : decode cX11_act 144 = .ok (.invokevirtual 188, 3) := by decide +kernel
theorem dX11_act_147 : decode cX11_act 147 = .ok (.ireturn, 1) := by decide +kernel
theorem dX11_act_148 : decode cX11_act 148 = .ok (.aload_n 0, 1) := by decide +kernel
theorem dX11_act_149 : decode cX11_act 149 = .ok (.iload_n 1, 1) := by decide +kernel
theorem dX11_act_150 : decode cX11_act 150 = .ok (.invokevirtual 191, 3) := by decide +kernel
theorem dX11_act_153 : decode cX11_act 153 = .ok (.ireturn, 1) := by decide +kernel
theorem dX11_act_154 : decode cX11_act 154 = .ok (.aload_n 0, 1) := by decide +kernel
theorem dX11_act_155 : decode cX11_act 155 = .ok (.invokevirtual 194, 3) := by decide +kernel
theorem dX11_act_158 : decode cX11_act 158 = .ok (.istore_n 3, 1) := by decide +kernel
theorem dX11_act_159 : decode cX11_act 159 = .ok (.iload_n 3, 1) := by decide +kernel
theorem dX11_act_160 : decode cX11_act 160 = .ok (.bipush (-100), 2) := by decide +kernel
theorem dX11_act_162 : decode cX11_act 162 = .ok (.if_icmp .ne 5, 3) := by decide +kernel
theorem dX11_act_165 : decode cX11_act 165 = .ok (.iconst 0, 1) := by decide +kernel
theorem dX11_act_166 : decode cX11_act 166 = .ok (.ireturn, 1) := by decide +kernel
theorem dX11_act_167 : decode cX11_act 167 = .ok (.aload_n 0, 1) := by decide +kernel
theorem dX11_act_168 : decode cX11_act 168 = .ok (.getfield 18, 3) := by decide +kernel
theorem dX11_act_171 : decode cX11_act 171 = .ok (.iload_n 2, 1) := by decide +kernel
theorem dX11_act_172 : decode cX11_act 172 = .ok (.iload_n 3, 1) := by decide +kernel
theorem dX11_act_173 : decode cX11_act 173 = .ok (.iconst 0, 1) := by decide +kernel
theorem dX11_act_174 : decode cX11_act 174 = .ok (.invokevirtual 166, 3) := by decide +kernel
theorem dX11_act_177 : decode cX11_act 177 = .ok (.pop, 1) := by decide +kernel
theorem dX11_act_178 : decode cX11_act 178 = .ok (.aload_n 0, 1) := by decide +kernel
theorem dX11_act_179 : decode cX11_act 179 = .ok (.bipush 59, 2) := by decide +kernel
theorem dX11_act_181 : decode cX11_act 181 = .ok (.invokevirtual 138, 3) := by decide +kernel
theorem dX11_act_184 : decode cX11_act 184 = .ok (.ireturn, 1) := by decide +kernel
theorem dX11_who_0 : decode cX11_who 0 = .ok (.bipush (-100), 2) := by decide +kernel
theorem dX11_who_2 : decode cX11_who 2 = .ok (.istore_n 1, 1) := by decide +kernel
theorem dX11_who_3 : decode cX11_who 3 = .ok (.aload_n 0, 1) := by decide +kernel
theorem dX11_who_4 : decode cX11_who 4 = .ok (.getfield 53, 3) := by decide +kernel
theorem dX11_who_7 : decode cX11_who 7 = .ok (.iconst 2, 1) := by decide +kernel
theorem dX11_who_8 : decode cX11_who 8 = .ok (.if_icmp .ne 36, 3) := by decide +kernel
theorem dX11_who_11 : decode cX11_who 11 = .ok (.aload_n 0, 1) := by decide +kernel
theorem dX11_who_12 : decode cX11_who 12 = .ok (.aload_n 0, 1) := by decide +kernel
theorem dX11_who_13 : decode cX11_who 13 = .ok (.getfield 72, 3) := by decide +kernel
theorem dX11_who_16 : decode cX11_who 16 = .ok (.iconst 0, 1) := by decide +kernel
theorem dX11_who_17 : decode cX11_who 17 = .ok (.aload_n 0, 1) := by decide +kernel
theorem dX11_who_18 : decode cX11_who 18 = .ok (.getfield 122, 3) := by decide +kernel
theorem dX11_who_21 : decode cX11_who 21 = .ok (.invokevirtual 107, 3) := by decide +kernel
theorem dX11_who_24 : decode cX11_who 24 = .ok (.istore_n 1, 1) := by decide +kernel
theorem dX11_who_25 : decode cX11_who 25 = .ok (.iload_n 1, 1) := by decide +kernel
theorem dX11_who_26 : decode cX11_who 26 = .ok (.iconst (-1), 1) := by decide +kernel
theorem dX11_who_27 : decode cX11_who 27 = .ok (.if_icmp .ne 8, 3) := by decide +kernel
theorem dX11_who_30 : decode cX11_who 30 = .ok (.aload_n 0, 1) := by decide +kernel
theorem dX11_who_31 : decode cX11_who 31 = .ok (.iconst 3, 1) := by decide +kernel
theorem dX11_who_32 : decode cX11_who 32 = .ok (.invokevirtual 111, 3) := by decide +kernel
theorem dX11_who_35 : decode cX11_who 35 = .ok (.iconst 0, 1) := by decide +kernel
theorem dX11_who_36 : decode cX11_who 36 = .ok (.iload_n 1, 1) := by decide +kernel
theorem dX11_who_37 : decode cX11_who 37 = .ok (.invokestatic 197, 3) := by decide +kernel
theorem dX11_who_40 : decode cX11_who 40 = .ok (.istore_n 1, 1) := by decide +kernel
theorem dX11_who_41 : decode cX11_who 41 = .ok (.goto 35, 3) := by decide +kernel
theorem dX11_who_44 : decode cX11_who 44 = .ok (.aload_n 0, 1) := by decide +kernel
theorem dX11_who_45 : decode cX11_who 45 = .ok (.getfield 53, 3) := by decide +kernel
theorem dX11_who_48 : decode cX11_who 48 = .ok (.sipush 215, 3) := by decide +kernel
theorem dX11_who_51 : decode cX11_who 51 = .ok (.if_icmp .lt 25, 3) := by decide +kernel
theorem dX11_who_54 : decode cX11_who 54 = .ok (.aload_n 0, 1) := by decide +kernel
theorem dX11_who_55 : decode cX11_who 55 = .ok (.getfield 53, 3) := by decide +kernel
theorem dX11_who_58 : decode cX11_who 58 = .ok (.sipush 219, 3) := by decide +kernel
theorem dX11_who_61 : decode cX11_who 61 = .ok (.if_icmp .ge 15, 3) := by decide +kernel
theorem dX11_who_64 : decode cX11_who 64 = .ok (.bipush (-2), 2) := by decide +kernel
theorem dX11_who_66 : decode cX11_who 66 = .ok (.aload_n 0, 1) := by decide +kernel
theorem dX11_who_67 : decode cX11_who 67 = .ok (.getfield 53, 3) := by decide +kernel
theorem dX11_who_70 : decode cX11_who 70 = .ok (.sipush 215, 3) := by decide +kernel
theorem dX11_who_73 : decode cX11_who 73 = .ok (.isub, 1) := by decide +kernel
theorem dX11_who_74 : decode cX11_who 74 = .ok (.isub, 1) := by decide +kernel
theorem dX11_who_75 : decode cX11_who 75 = .ok (.istore_n 1, 1) := by decide +kernel
theorem dX11_who_76 : decode cX11_who 76 = .ok (.iload_n 1, 1) := by decide +kernel
theorem dX11_who_77 : decode cX11_who 77 = .ok (.bipush (-100), 2) := by decide +kernel
theorem dX11_who_79 : decode cX11_who 79 = .ok (.if_icmp .ne 11, 3) := by decide +kernel
theorem dX11_who_82 : decode cX11_who 82 = .ok (.aload_n 0, 1) := by decide +kernel
theorem dX11_who_83 : decode cX11_who 83 = .ok (.invokevirtual 97, 3) := by decide +kernel
theorem dX11_who_86 : decode cX11_who 86 = .ok (.pop, 1) := by decide +kernel
theorem dX11_who_87 : decode cX11_who 87 = .ok (.goto 7, 3) := by decide +kernel
theorem dX11_who_90 : decode cX11_who 90 = .ok (.aload_n 0, 1) := by decide +kernel
theorem dX11_who_91 : decode cX11_who 91 = .ok (.invokevirtual 101, 3) := by decide +kernel
theorem dX11_who_94 : decode cX11_who 94 = .ok (.iload_n 1, 1) := by decide +kernel
theorem dX11_who_95 : decode cX11_who 95 = .ok (.ireturn, 1) := by decide +kernel
theorem dX11_send_0 : decode cX11_send 0 = .ok (.aload_n 0, 1) := by decide +kernel
theorem dX11_send_1 : decode cX11_send 1 = .ok (.invokevirtual 203, 3) := by decide +kernel
theorem dX11_send_4 : decode cX11_send 4 = .ok (.istore_n 1, 1) := by decide +kernel
theorem dX11_send_5 : decode cX11_send 5 = .ok (.iload_n 1, 1) := by decide +kernel
theorem dX11_send_6 : decode cX11_send 6 = .ok (.bipush (-100), 2) := by decide +kernel
theorem dX11_send_8 : decode cX11_send 8 = .ok (.if_icmp .ne 5, 3) := by decide +kernel
theorem dX11_send_11 : decode cX11_send 11 = .ok (.iconst 0, 1) := by decide +kernel
theorem dX11_send_12 : decode cX11_send 12 = .ok (.ireturn, 1) := by decide +kernel
theorem dX11_send_13 : decode cX11_send 13 = .ok (.iconst (-1), 1) := by decide +kernel
theorem dX11_send_14 : decode cX11_send 14 = .ok (.istore_n 2, 1) := by decide +kernel
theorem dX11_send_15 : decode cX11_send 15 = .ok (.aload_n 0, 1) := by decide +kernel
theorem dX11_send_16 : decode cX11_send 16 = .ok (.getfield 53, 3) := by decide +kernel
theorem dX11_send_19 : decode cX11_send 19 = .ok (.sipush 206, 3) := by decide +kernel
theorem dX11_send_22 : decode cX11_send 22 = .ok (.if_icmp .ne 20, 3) := by decide +kernel
theorem dX11_send_25 : decode cX11_send 25 = .ok (.aload_n 0, 1) := by decide +kernel
theorem dX11_send_26 : decode cX11_send 26 = .ok (.invokevirtual 101, 3) := by decide +kernel
theorem dX11_send_29 : decode cX11_send 29 = .ok (.aload_n 0, 1) := by decide +kernel
theorem dX11_send_30 : decode cX11_send 30 = .ok (.invokevirtual 203, 3) := by decide +kernel
theorem dX11_send_33 : decode cX11_send 33 = .ok (.istore_n 2, 1) := by decide +kernel
theorem dX11_send_34 : decode cX11_send 34 = .ok (.iload_n 2, 1) := by decide +kernel
theorem dX11_send_35 : decode cX11_send 35 = .ok (.bipush (-100), 2) := by decide +kernel
theorem dX11_send_37 : decode cX11_send 37 = .ok (.if_icmp .ne 5, 3) := by decide +kernel
theorem dX11_send_40 : decode cX11_send 40 = .ok (.iconst 0, 1) := by decide +kernel
theorem dX11_send_41 : decode cX11_send 41 = .ok (.ireturn, 1) := by decide +kernel
theorem dX11_send_42 : decode cX11_send 42 = .ok (.aload_n 0, 1) := by decide +kernel
theorem dX11_send_43 : decode cX11_send 43 = .ok (.getfield 18, 3) := by decide +kernel
theorem dX11_send_46 : decode cX11_send 46 = .ok (.sipush 205, 3) := by decide +kernel
theorem dX11_send_49 : decode cX11_send 49 = .ok (.iload_n 1, 1) := by decide +kernel
theorem dX11_send_50 : decode cX11_send 50 = .ok (.iload_n 2, 1) := by decide +kernel
theorem dX11_send_51 : decode cX11_send 51 = .ok (.invokevirtual 166, 3) := by decide +kernel
theorem dX11_send_54 : decode cX11_send 54 = .ok (.pop, 1) := by decide +kernel
theorem dX11_send_55 : decode cX11_send 55 = .ok (.aload_n 0, 1) := by decide +kernel
theorem dX11_send_56 : decode cX11_send 56 = .ok (.bipush 59, 2) := by decide +kernel
theorem dX11_send_58 : decode cX11_send 58 = .ok (.invokevirtual 138, 3) := by decide +kernel
theorem dX11_send_61 : decode cX11_send 61 = .ok (.ireturn, 1) := by decide +kernel
theorem dX11_does_0 : decode cX11_does 0 = .ok (.aload_n 0, 1) := by decide +kernel
theorem dX11_does_1 : decode cX11_does 1 = .ok (.getfield 53, 3) := by decide +kernel
theorem dX11_does_4 : decode cX11_does 4 = .ok (.iconst 2, 1) := by decide +kernel
theorem dX11_does_5 : decode cX11_does 5 = .ok (.if_icmp .eq 8, 3) := by decide +kernel
theorem dX11_does_8 : decode cX11_does 8 = .ok (.aload_n 0, 1) := by decide +kernel
theorem dX11_does_9 : decode cX11_does 9 = .ok (.invokevirtual 97, 3) := by decide +kernel
theorem dX11_does_12 : decode cX11_does 12 = .ok (.ireturn, 1) := by decide +kernel
theorem dX11_does_13 : decode cX11_does 13 = .ok (.aload_n 0, 1) := by decide +kernel
theorem dX11_does_14 : decode cX11_does 14 = .ok (.aload_n 0, 1) := by decide +kernel
theorem dX11_does_15 : decode cX11_does 15 = .ok (.getfield 72, 3) := by decide +kernel
theorem dX11_does_18 : decode cX11_does 18 = .ok (.aload_n 0, 1) := by decide +kernel
theorem dX11_does_19 : decode cX11_does 19 = .ok (.getfield 122, 3) := by decide +kernel
theorem dX11_does_22 : decode cX11_does 22 = .ok (.aload_n 0, 1) := by decide +kernel
theorem dX11_does_23 : decode cX11_does 23 = .ok (.getfield 122, 3) := by decide +kernel
theorem dX11_does_26 : decode cX11_does 26 = .ok (.aload_n 0, 1) := by decide +kernel
theorem dX11_does_27 : decode cX11_does 27 = .ok (.getfield 173, 3) := by decide +kernel
theorem dX11_does_30 : decode cX11_does 30 = .ok (.invokestatic 197, 3) := by decide +kernel
theorem dX11_does_33 : decode cX11_does 33 = .ok (.invokevirtual 107, 3) := by decide +kernel
theorem dX11_does_36 : decode cX11_does 36 = .ok (.istore_n 1, 1) := by decide +kernel
theorem dX11_does_37 : decode cX11_does 37 = .ok (.iload_n 1, 1) := by decide +kernel
theorem dX11_does_38 : decode cX11_does 38 = .ok (.iconst (-1), 1) := by decide +kernel
theorem dX11_does_39 : decode cX11_does 39 = .ok (.if_icmp .ne 8, 3) := by decide +kernel
theorem dX11_does_42 : decode cX11_does 42 = .ok (.aload_n 0, 1) := by decide +kernel
theorem dX11_does_43 : decode cX11_does 43 = .ok (.iconst 3, 1) := by decide +kernel
theorem dX11_does_44 : decode cX11_does 44 = .ok (.invokevirtual 111, 3) := by decide +kernel
theorem dX11_does_47 : decode cX11_does 47 = .ok (.aload_n 0, 1) := by decide +kernel
theorem dX11_does_48 : decode cX11_does 48 = .ok (.getfield 18, 3) := by decide +kernel
theorem dX11_does_51 : decode cX11_does 51 = .ok (.sipush 210, 3) := by decide +kernel
theorem dX11_does_54 : decode cX11_does 54 = .ok (.iconst 0, 1) := by decide +kernel
theorem dX11_does_55 : decode cX11_does 55 = .ok (.iload_n 1, 1) := by decide +kernel
theorem dX11_does_56 : decode cX11_does 56 = .ok (.invokestatic 197, 3) := by decide +kernel
theorem dX11_does_59 : decode cX11_does 59 = .ok (.iconst 0, 1) := by decide +kernel
theorem dX11_does_60 : decode cX11_does 60 = .ok (.invokevirtual 166, 3) := by decide +kernel
theorem dX11_does_63 : decode cX11_does 63 = .ok (.pop, 1) := by decide +kernel
theorem dX11_does_64 : decode cX11_does 64 = .ok (.aload_n 0, 1) := by decide +kernel
theorem dX11_does_65 : decode cX11_does 65 = .ok (.invokevirtual 101, 3) := by decide +kernel
theorem dX11_does_68 : decode cX11_does 68 = .ok (.aload_n 0, 1) := by decide +kernel
theorem dX11_does_69 : decode cX11_does 69 = .ok (.bipush 59, 2) := by decide +kernel
theorem dX11_does_71 : decode cX11_does 71 = .ok (.invokevirtual 138, 3) := by decide +kernel
theorem dX11_does_74 : decode cX11_does 74 = .ok (.ireturn, 1) := by decide +kernel
theorem dX11_value_0 : decode cX11_value 0 = .ok (.bipush (-100), 2) := by decide +kernel
theorem dX11_value_2 : decode cX11_value 2 = .ok (.istore_n 1, 1) := by decide +kernel
theorem dX11_value_3 : decode cX11_value 3 = .ok (.aload_n 0, 1) := by decide +kernel
theorem dX11_value_4 : decode cX11_value 4 = .ok (.getfield 53, 3) := by decide +kernel
theorem dX11_value_7 : decode cX11_value 7 = .ok (.iconst 3, 1) := by decide +kernel
theorem dX11_value_8 : decode cX11_value 8 = .ok (.if_icmp .ne 25, 3) := by decide +kernel
theorem dX11_value_11 : decode cX11_value 11 = .ok (.aload_n 0, 1) := by decide +kernel
theorem dX11_value_12 : decode cX11_value 12 = .ok (.getfield 69, 3) := by decide +kernel
theorem dX11_value_15 : decode cX11_value 15 = .ok (.bipush 99, 2) := by decide +kernel
theorem dX11_value_17 : decode cX11_value 17 = .ok (.if_icmp .le 8, 3) := by decide +kernel
theorem dX11_value_20 : decode cX11_value 20 = .ok (.aload_n 0, 1) := by decide +kernel
theorem dX11_value_21 : decode cX11_value 21 = .ok (.iconst 5, 1) := by decide +kernel
theorem dX11_value_22 : decode cX11_value 22 = .ok (.invokevirtual 111, 3) := by decide +kernel
theorem dX11_value_25 : decode cX11_value 25 = .ok (.aload_n 0, 1) := by decide +kernel
theorem dX11_value_26 : decode cX11_value 26 = .ok (.getfield 69, 3) := by decide +kernel
theorem dX11_value_29 : decode cX11_value 29 = .ok (.istore_n 1, 1) := by decide +kernel
theorem dX11_value_30 : decode cX11_value 30 = .ok (.goto 34, 3) := by decide +kernel
theorem dX11_value_33 : decode cX11_value 33 = .ok (.aload_n 0, 1) := by decide +kernel
theorem dX11_value_34 : decode cX11_value 34 = .ok (.getfield 53, 3) := by decide +kernel
theorem dX11_value_37 : decode cX11_value 37 = .ok (.sipush 219, 3) := by decide +kernel
theorem dX11_value_40 : decode cX11_value 40 = .ok (.if_icmp .lt 24, 3) := by decide +kernel
theorem dX11_value_43 : decode cX11_value 43 = .ok (.aload_n 0, 1) := by decide +kernel
theorem dX11_value_44 : decode cX11_value 44 = .ok (.getfield 53, 3) := by decide +kernel
theorem dX11_value_47 : decode cX11_value 47 = .ok (.sipush 225, 3) := by decide +kernel
theorem dX11_value_50 : decode cX11_value 50 = .ok (.if_icmp .gt 14, 3) := by decide +kernel
theorem dX11_value_53 : decode cX11_value 53 = .ok (.iconst (-1), 1) := by decide +kernel
theorem dX11_value_54 : decode cX11_value 54 = .ok (.aload_n 0, 1) := by decide +kernel
theorem dX11_value_55 : decode cX11_value 55 = .ok (.getfield 53, 3) := by decide +kernel
theorem dX11_value_58 : decode cX11_value 58 = .ok (.sipush 219, 3) := by decide +kernel
theorem dX11_value_61 : decode cX11_value 61 = .ok (.isub, 1) := by decide +kernel
theorem dX11_value_62 : decode cX11_value 62 = .ok (.isub, 1) := by decide +kernel
theorem dX11_value_63 : decode cX11_value 63 = .ok (.istore_n 1, 1) := by decide +kernel
theorem dX11_value_64 : decode cX11_value 64 = .ok (.iload_n 1, 1) := by decide +kernel
theorem dX11_value_65 : decode cX11_value 65 = .ok (.bipush (-100), 2) := by decide +kernel
theorem dX11_value_67 : decode cX11_value 67 = .ok (.if_icmp .ne 11, 3) := by decide +kernel
theorem dX11_value_70 : decode cX11_value 70 = .ok (.aload_n 0, 1) := by decide +kernel
theorem dX11_value_71 : decode cX11_value 71 = .ok (.invokevirtual 97, 3) := by decide +kernel
theorem dX11_value_74 : decode cX11_value 74 = .ok (.pop, 1) := by decide +kernel
theorem dX11_value_75 : decode cX11_value 75 = .ok (.goto 7, 3) := by decide +kernel
theorem dX11_value_78 : decode cX11_value 78 = .ok (.aload_n 0, 1) := by decide +kernel
theorem dX11_value_79 : decode cX11_value 79 = .ok (.invokevirtual 101, 3) := by decide +kernel
theorem dX11_value_82 : decode cX11_value 82 = .ok (.iload_n 1, 1) := by decide +kernel
theorem dX11_value_83 : decode cX11_value 83 = .ok (.ireturn, 1) := by decide +kernel
theorem dX11_row_0 : decode cX11_row 0 = .ok (.aload_n 0, 1) := by decide +kernel
theorem dX11_row_1 : decode cX11_row 1 = .ok (.getfield 18, 3) := by decide +kernel
theorem dX11_row_4 : decode cX11_row 4 = .ok (.getfield 206, 3) := by decide +kernel
theorem dX11_row_7 : decode cX11_row 7 = .ok (.istore_n 1, 1) := by decide +kernel
theorem dX11_row_8 : decode cX11_row 8 = .ok (.iconst 1, 1) := by decide +kernel
theorem dX11_row_9 : decode cX11_row 9 = .ok (.istore_n 2, 1) := by decide +kernel
theorem dX11_row_10 : decode cX11_row 10 = .ok (.iload_n 2, 1) := by decide +kernel
theorem dX11_row_11 : decode cX11_row 11 = .ok (.ifCond .eq 183, 3) := by decide +kernel
theorem dX11_row_14 : decode cX11_row 14 = .ok (.aload_n 0, 1) := by decide +kernel
theorem dX11_row_15 : decode cX11_row 15 = .ok (.invokevirtual 194, 3) := by decide +kernel
theorem dX11_row_18 : decode cX11_row 18 = .ok (.istore_n 3, 1) := by decide +kernel
theorem dX11_row_19 : decode cX11_row 19 = .ok (.iload_n 3, 1) := by decide +kernel
theorem dX11_row_20 : decode cX11_row 20 = .ok (.bipush (-100), 2) := by decide +kernel
theorem dX11_row_22 : decode cX11_row 22 = .ok (.if_icmp .ne 6, 3) := by decide +kernel
theorem dX11_row_25 : decode cX11_row 25 = .ok (.bipush (-100), 2) := by decide +kernel
theorem dX11_row_27 : decode cX11_row 27 = .ok (.ireturn, 1) := by decide +kernel
theorem dX11_row_28 : decode cX11_row 28 = .ok (.aload_n 0, 1) := by decide +kernel
theorem dX11_row_29 : decode cX11_row 29 = .ok (.getfield 53, 3) := by decide +kernel
theorem dX11_row_32 : decode cX11_row 32 = .ok (.istore 4, 2) := by decide +kernel
theorem dX11_row_34 : decode cX11_row 34 = .ok (.iload 4, 2) := by decide +kernel
theorem dX11_row_36 : decode cX11_row 36 = .ok (.bipush 60, 2) := by decide +kernel
theorem dX11_row_38 : decode cX11_row 38 = .ok (.if_icmp .eq 25, 3) := by decide +kernel
theorem dX11_row_41 : decode cX11_row 41 = .ok (.iload 4, 2) := by decide +kernel
theorem dX11_row_43 : decode cX11_row 43 = .ok (.bipush 62, 2) := by decide +kernel
theorem dX11_row_45 : decode cX11_row 45 = .ok (.if_icmp .eq 18, 3) := by decide +kernel
theorem dX11_row_48 : decode cX11_row 48 = .ok (.iload 4, 2) := by decide +kernel
theorem dX11_row_50 : decode cX11_row 50 = .ok (.bipush 61, 2) := by decide +kernel
theorem dX11_row_52 : decode cX11_row 52 = .ok (.if_icmp .eq 11, 3) := by decide +kernel
theorem dX11_row_55 : decode cX11_row 55 = .ok (.aload_n 0, 1) := by decide +kernel
theorem dX11_row_56 : decode cX11_row 56 = .ok (.invokevirtual 97, 3) := by decide +kernel
theorem dX11_row_59 : decode cX11_row 59 = .ok (.pop, 1) := by decide +kernel
theorem dX11_row_60 : decode cX11_row 60 = .ok (.bipush (-100), 2) := by decide +kernel
theorem dX11_row_62 : decode cX11_row 62 = .ok (.ireturn, 1) := by decide +kernel
theorem dX11_row_63 : decode cX11_row 63 = .ok (.aload_n 0, 1) := by decide +kernel
theorem dX11_row_64 : decode cX11_row 64 = .ok (.invokevirtual 101, 3) := by decide +kernel
theorem dX11_row_67 : decode cX11_row 67 = .ok (.aload_n 0, 1) := by decide +kernel
theorem dX11_row_68 : decode cX11_row 68 = .ok (.invokevirtual 194, 3) := by decide +kernel
theorem dX11_row_71 : decode cX11_row 71 = .ok (.istore 5, 2) := by decide +kernel
theorem dX11_row_73 : decode cX11_row 73 = .ok (.iload 5, 2) := by decide +kernel
theorem dX11_row_75 : decode cX11_row 75 = .ok (.bipush (-100), 2) := by decide +kernel
theorem dX11_row_77 : decode cX11_row 77 = .ok (.if_icmp .ne 6, 3) := by decide +kernel
theorem dX11_row_80 : decode cX11_row 80 = .ok (.bipush (-100), 2) := by decide +kernel
theorem dX11_row_82 : decode cX11_row 82 = .ok (.ireturn, 1) := by decide +kernel
theorem dX11_row_83 : decode cX11_row 83 = .ok (.iconst 4, 1) := by decide +kernel
theorem dX11_row_84 : decode cX11_row 84 = .ok (.aload_n 0, 1) := by decide +kernel
theorem dX11_row_85 : decode cX11_row 85 = .ok (.getfield 18, 3) := by decide +kernel
theorem dX11_row_88 : decode cX11_row 88 = .ok (.getfield 206, 3) := by decide +kernel
theorem dX11_row_91 : decode cX11_row 91 = .ok (.imul, 1) := by decide +kernel
theorem dX11_row_92 : decode cX11_row 92 = .ok (.istore 6, 2) := by decide +kernel
theorem dX11_row_94 : decode cX11_row 94 = .ok (.aload_n 0, 1) := by decide +kernel
theorem dX11_row_95 : decode cX11_row 95 = .ok (.getfield 18, 3) := by decide +kernel
theorem dX11_row_98 : decode cX11_row 98 = .ok (.getfield 209, 3) := by decide +kernel
theorem dX11_row_101 : decode cX11_row 101 = .ok (.iload 6, 2) := by decide +kernel
theorem dX11_row_103 : decode cX11_row 103 = .ok (.iload_n 3, 1) := by decide +kernel
theorem dX11_row_104 : decode cX11_row 104 = .ok (.iastore, 1) := by decide +kernel
theorem dX11_row_105 : decode cX11_row 105 = .ok (.aload_n 0, 1) := by decide +kernel
theorem dX11_row_106 : decode cX11_row 106 = .ok (.getfield 18, 3) := by decide +kernel
theorem dX11_row_109 : decode cX11_row 109 = .ok (.getfield 209, 3) := by decide +kernel
theorem dX11_row_112 : decode cX11_row 112 = .ok (.iload 6, 2) := by decide +kernel
theorem dX11_row_114 : decode cX11_row 114 = .ok (.iconst 1, 1) := by decide +kernel
theorem dX11_row_115 : decode cX11_row 115 = .ok (.iadd, 1) := by decide +kernel
theorem dX11_row_116 : decode cX11_row 116 = .ok (.iload 4, 2) := by decide +kernel
theorem dX11_row_118 : decode cX11_row 118 = .ok (.iastore, 1) := by decide +kernel
theorem dX11_row_119 : decode cX11_row 119 = .ok (.aload_n 0, 1) := by decide +kernel
theorem dX11_row_120 : decode cX11_row 120 = .ok (.getfield 18, 3) := by decide +kernel
theorem dX11_row_123 : decode cX11_row 123 = .ok (.getfield 209, 3) := by decide +kernel
theorem dX11_row_126 : decode cX11_row 126 = .ok (.iload 6, 2) := by decide +kernel
theorem dX11_row_128 : decode cX11_row 128 = .ok (.iconst 2, 1) := by decide +kernel
theorem dX11_row_129 : decode cX11_row 129 = .ok (.iadd, 1) := by decide +kernel
theorem dX11_row_130 : decode cX11_row 130 = .ok (.iload 5, 2) := by decide +kernel
theorem dX11_row_132 : decode cX11_row 132 = .ok (.iastore, 1) := by decide +kernel
theorem dX11_row_133 : decode cX11_row 133 = .ok (.aload_n 0, 1) := by decide +kernel
theorem dX11_row_134 : decode cX11_row 134 = .ok (.getfield 53, 3) := by decide +kernel
theorem dX11_row_137 : decode cX11_row 137 = .ok (.sipush 214, 3) := by decide +kernel
theorem dX11_row_140 : decode cX11_row 140 = .ok (.if_icmp .ne 7, 3) := by decide +kernel
theorem dX11_row_143 : decode cX11_row 143 = .ok (.iconst 1, 1) := by decide +kernel
theorem dX11_row_144 : decode cX11_row 144 = .ok (.goto 4, 3) := by decide +kernel
theorem dX11_row_147 : decode cX11_row 147 = .ok (.iconst 0, 1) := by decide +kernel
theorem dX11_row_148 : decode cX11_row 148 = .ok (.istore_n 2, 1) := by decide +kernel
theorem dX11_row_149 : decode cX11_row 149 = .ok (.aload_n 0, 1) := by decide +kernel
theorem dX11_row_150 : decode cX11_row 150 = .ok (.getfield 18, 3) := by decide +kernel
theorem dX11_row_153 : decode cX11_row 153 = .ok (.getfield 209, 3) := by decide +kernel
theorem dX11_row_156 : decode cX11_row 156 = .ok (.iload 6, 2) := by decide +kernel
theorem dX11_row_158 : decode cX11_row 158 = .ok (.iconst 3, 1) := by decide +kernel
theorem dX11_row_159 : decode cX11_row 159 = .ok (.iadd, 1) := by decide +kernel
theorem dX11_row_160 : decode cX11_row 160 = .ok (.iload_n 2, 1) := by decide +kernel
theorem dX11_row_161 : decode cX11_row 161 = .ok (.ifCond .eq 7, 3) := by decide +kernel
theorem dX11_row_164 : decode cX11_row 164 = .ok (.iconst 0, 1) := by decide +kernel
theorem dX11_row_165 : decode cX11_row 165 = .ok (.goto 4, 3) := by decide +kernel
theorem dX11_row_168 : decode cX11_row 168 = .ok (.iconst 1, 1) := by decide +kernel
theorem dX11_row_169 : decode cX11_row 169 = .ok (.iastore, 1) := by decide +kernel
theorem dX11_row_170 : decode cX11_row 170 = .ok (.aload_n 0, 1) := by decide +kernel
theorem dX11_row_171 : decode cX11_row 171 = .ok (.getfield 18, 3) := by decide +kernel
theorem dX11_row_174 : decode cX11_row 174 = .ok (.dup, 1) := by decide +kernel
theorem dX11_row_175 : decode cX11_row 175 = .ok (.getfield 206, 3) := by decide +kernel
theorem dX11_row_178 : decode cX11_row 178 = .ok (.iconst 1, 1) := by decide +kernel
theorem dX11_row_179 : decode cX11_row 179 = .ok (.iadd, 1) := by decide +kernel
theorem dX11_row_180 : decode cX11_row 180 = .ok (.putfield 206, 3) := by decide +kernel
theorem dX11_row_183 : decode cX11_row 183 = .ok (.iload_n 2, 1) := by decide +kernel
theorem dX11_row_184 : decode cX11_row 184 = .ok (.ifCond .eq 7, 3) := by decide +kernel
theorem dX11_row_187 : decode cX11_row 187 = .ok (.aload_n 0, 1) := by decide +kernel
theorem dX11_row_188 : decode cX11_row 188 = .ok (.invokevirtual 101, 3) := by decide +kernel
theorem dX11_row_191 : decode cX11_row 191 = .ok (.goto (-181), 3) := by decide +kernel
theorem dX11_row_194 : decode cX11_row 194 = .ok (.iload_n 1, 1) := by decide +kernel
theorem dX11_row_195 : decode cX11_row 195 = .ok (.ireturn, 1) := by decide +kernel
theorem dX11_loop_0 : decode cX11_loop 0 = .ok (.aload_n 0, 1) := by decide +kernel
theorem dX11_loop_1 : decode cX11_loop 1 = .ok (.invokevirtual 212, 3) := by decide +kernel
theorem dX11_loop_4 : decode cX11_loop 4 = .ok (.istore_n 2, 1) := by decide +kernel
theorem dX11_loop_5 : decode cX11_loop 5 = .ok (.iload_n 2, 1) := by decide +kernel
theorem dX11_loop_6 : decode cX11_loop 6 = .ok (.bipush (-100), 2) := by decide +kernel
theorem dX11_loop_8 : decode cX11_loop 8 = .ok (.if_icmp .ne 5, 3) := by decide +kernel
theorem dX11_loop_11 : decode cX11_loop 11 = .ok (.iconst 0, 1) := by decide +kernel
theorem dX11_loop_12 : decode cX11_loop 12 = .ok (.ireturn, 1) := by decide +kernel
theorem dX11_loop_13 : decode cX11_loop 13 = .ok (.aload_n 0, 1) := by decide +kernel
theorem dX11_loop_14 : decode cX11_loop 14 = .ok (.getfield 18, 3) := by decide +kernel
theorem dX11_loop_17 : decode cX11_loop 17 = .ok (.sipush 211, 3) := by decide +kernel
theorem dX11_loop_20 : decode cX11_loop 20 = .ok (.iload_n 2, 1) := by decide +kernel
theorem dX11_loop_21 : decode cX11_loop 21 = .ok (.iconst 0, 1) := by decide +kernel
theorem dX11_loop_22 : decode cX11_loop 22 = .ok (.invokevirtual 166, 3) := by decide +kernel
theorem dX11_loop_25 : decode cX11_loop 25 = .ok (.istore_n 3, 1) := by decide +kernel
theorem dX11_loop_26 : decode cX11_loop 26 = .ok (.aload_n 0, 1) := by decide +kernel
theorem dX11_loop_27 : decode cX11_loop 27 = .ok (.iload_n 1, 1) := by decide +kernel
theorem dX11_loop_28 : decode cX11_loop 28 = .ok (.iconst 1, 1) := by decide +kernel
theorem dX11_loop_29 : decode cX11_loop 29 = .ok (.iadd, 1) := by decide +kernel
theorem dX11_loop_30 : decode cX11_loop 30 = .ok (.invokevirtual 163, 3) := by decide +kernel
theorem dX11_loop_33 : decode cX11_loop 33 = .ok (.ifCond .ne 5, 3) := by decide +kernel
theorem dX11_loop_36 : decode cX11_loop 36 = .ok (.iconst 0, 1) := by decide +kernel
theorem dX11_loop_37 : decode cX11_loop 37 = .ok (.ireturn, 1) := by decide +kernel
theorem dX11_loop_38 : decode cX11_loop 38 = .ok (.aload_n 0, 1) := by decide +kernel
theorem dX11_loop_39 : decode cX11_loop 39 = .ok (.getfield 18, 3) := by decide +kernel
theorem dX11_loop_42 : decode cX11_loop 42 = .ok (.sipush 300, 3) := by decide +kernel
theorem dX11_loop_45 : decode cX11_loop 45 = .ok (.iload_n 3, 1) := by decide +kernel
theorem dX11_loop_46 : decode cX11_loop 46 = .ok (.iconst 0, 1) := by decide +kernel
theorem dX11_loop_47 : decode cX11_loop 47 = .ok (.invokevirtual 166, 3) := by decide +kernel
theorem dX11_loop_50 : decode cX11_loop 50 = .ok (.pop, 1) := by decide +kernel
theorem dX11_loop_51 : decode cX11_loop 51 = .ok (.aload_n 0, 1) := by decide +kernel
theorem dX11_loop_52 : decode cX11_loop 52 = .ok (.getfield 18, 3) := by decide +kernel
theorem dX11_loop_55 : decode cX11_loop 55 = .ok (.getfield 215, 3) := by decide +kernel
theorem dX11_loop_58 : decode cX11_loop 58 = .ok (.iconst 4, 1) := by decide +kernel
theorem dX11_loop_59 : decode cX11_loop 59 = .ok (.iload_n 3, 1) := by decide +kernel
theorem dX11_loop_60 : decode cX11_loop 60 = .ok (.imul, 1) := by decide +kernel
theorem dX11_loop_61 : decode cX11_loop 61 = .ok (.iconst 3, 1) := by decide +kernel
theorem dX11_loop_62 : decode cX11_loop 62 = .ok (.iadd, 1) := by decide +kernel
theorem dX11_loop_63 : decode cX11_loop 63 = .ok (.aload_n 0, 1) := by decide +kernel
theorem dX11_loop_64 : decode cX11_loop 64 = .ok (.getfield 18, 3) := by decide +kernel
theorem dX11_loop_67 : decode cX11_loop 67 = .ok (.getfield 160, 3) := by decide +kernel
theorem dX11_loop_70 : decode cX11_loop 70 = .ok (.iastore, 1) := by decide +kernel
theorem dX11_loop_71 : decode cX11_loop 71 = .ok (.iconst 1, 1) := by decide +kernel
theorem dX11_loop_72 : decode cX11_loop 72 = .ok (.ireturn, 1) := by decide +kernel
theorem dX11_choice_0 : decode cX11_choice 0 = .ok (.aload_n 0, 1) := by decide +kernel
theorem dX11_choice_1 : decode cX11_choice 1 = .ok (.invokevirtual 212, 3) := by decide +kernel
theorem dX11_choice_4 : decode cX11_choice 4 = .ok (.istore_n 2, 1) := by decide +kernel
theorem dX11_choice_5 : decode cX11_choice 5 = .ok (.iload_n 2, 1) := by decide +kernel
theorem dX11_choice_6 : decode cX11_choice 6 = .ok (.bipush (-100), 2) := by decide +kernel
theorem dX11_choice_8 : decode cX11_choice 8 = .ok (.if_icmp .ne 5, 3) := by decide +kernel
theorem dX11_choice_11 : decode cX11_choice 11 = .ok (.iconst 0, 1) := by decide +kernel
theorem dX11_choice_12 : decode cX11_choice 12 = .ok (.ireturn, 1) := by decide +kernel
theorem dX11_choice_13 : decode cX11_choice 13 = .ok (.aload_n 0, 1) := by decide +kernel
theorem dX11_choice_14 : decode cX11_choice 14 = .ok (.getfield 18, 3) := by decide +kernel
theorem dX11_choice_17 : decode cX11_choice 17 = .ok (.sipush 212, 3) := by decide +kernel
theorem dX11_choice_20 : decode cX11_choice 20 = .ok (.iload_n 2, 1) := by decide +kernel
theorem dX11_choice_21 : decode cX11_choice 21 = .ok (.iconst 0, 1) := by decide +kernel
theorem dX11_choice_22 : decode cX11_choice 22 = .ok (.invokevirtual 166, 3) := by decide +kernel
theorem dX11_choice_25 : decode cX11_choice 25 = .ok (.istore_n 3, 1) := by decide +kernel
theorem dX11_choice_26 : decode cX11_choice 26 = .ok (.aload_n 0, 1) := by decide +kernel
theorem dX11_choice_27 : decode cX11_choice 27 = .ok (.iload_n 1, 1) := by decide +kernel
theorem dX11_choice_28 : decode cX11_choice 28 = .ok (.iconst 1, 1) := by decide +kernel
theorem dX11_choice_29 : decode cX11_choice 29 = .ok (.iadd, 1) := by decide +kernel
theorem dX11_choice_30 : decode cX11_choice 30 = .ok (.invokevirtual 163, 3) := by decide +kernel
theorem dX11_choice_33 : decode cX11_choice 33 = .ok (.ifCond .ne 5, 3) := by decide +kernel
theorem dX11_choice_36 : decode cX11_choice 36 = .ok (.iconst 0, 1) := by decide +kernel
theorem dX11_choice_37 : decode cX11_choice 37 = .ok (.ireturn, 1) := by decide +kernel
theorem dX11_choice_38 : decode cX11_choice 38 = .ok (.aload_n 0, 1) := by decide +kernel
theorem dX11_choice_39 : decode cX11_choice 39 = .ok (.getfield 53, 3) := by decide +kernel
theorem dX11_choice_42 : decode cX11_choice 42 = .ok (.sipush 213, 3) := by decide +kernel
theorem dX11_choice_45 : decode cX11_choice 45 = .ok (.if_icmp .ne 18, 3) := by decide +kernel
theorem dX11_choice_48 : decode cX11_choice 48 = .ok (.aload_n 0, 1) := by decide +kernel
theorem dX11_choice_49 : decode cX11_choice 49 = .ok (.getfield 18, 3) := by decide +kernel
theorem dX11_choice_52 : decode cX11_choice 52 = .ok (.sipush 300, 3) := by decide +kernel
theorem dX11_choice_55 : decode cX11_choice 55 = .ok (.iconst 0, 1) := by decide +kernel
theorem dX11_choice_56 : decode cX11_choice 56 = .ok (.iconst 0, 1) := by decide +kernel
theorem dX11_choice_57 : decode cX11_choice 57 = .ok (.invokevirtual 166, 3) := by decide +kernel
theorem dX11_choice_60 : decode cX11_choice 60 = .ok (.goto 4, 3) := by decide +kernel
theorem dX11_choice_63 : decode cX11_choice 63 = .ok (.iconst (-1), 1) := by decide +kernel
theorem dX11_choice_64 : decode cX11_choice 64 = .ok (.istore 4, 2) := by decide +kernel
theorem dX11_choice_66 : decode cX11_choice 66 = .ok (.aload_n 0, 1) := by decide +kernel
theorem dX11_choice_67 : decode cX11_choice 67 = .ok (.getfield 18, 3) := by decide +kernel
theorem dX11_choice_70 : decode cX11_choice 70 = .ok (.getfield 215, 3) := by decide +kernel
theorem dX11_choice_73 : decode cX11_choice 73 = .ok (.iconst 4, 1) := by decide +kernel
theorem dX11_choice_74 : decode cX11_choice 74 = .ok (.iload_n 3, 1) := by decide +kernel
theorem dX11_choice_75 : decode cX11_choice 75 = .ok (.imul, 1) := by decide +kernel
theorem dX11_choice_76 : decode cX11_choice 76 = .ok (.iconst 3, 1) := by decide +kernel
theorem dX11_choice_77 : decode cX11_choice 77 = .ok (.iadd, 1) := by decide +kernel
theorem dX11_choice_78 : decode cX11_choice 78 = .ok (.aload_n 0, 1) := by decide +kernel
theorem dX11_choice_79 : decode cX11_choice 79 = .ok (.getfield 18, 3) := by decide +kernel
theorem dX11_choice_82 : decode cX11_choice 82 = .ok (.getfield 160, 3) := by decide +kernel
theorem dX11_choice_85 : decode cX11_choice 85 = .ok (.iastore, 1) := by decide +kernel
theorem dX11_choice_86 : decode cX11_choice 86 = .ok (.iload 4, 2) := by decide +kernel
theorem dX11_choice_88 : decode cX11_choice 88 = .ok (.iconst (-1), 1) := by decide +kernel
theorem dX11_choice_89 : decode cX11_choice 89 = .ok (.if_icmp .ne 5, 3) := by decide +kernel
theorem dX11_choice_92 : decode cX11_choice 92 = .ok (.iconst 1, 1) := by decide +kernel
theorem dX11_choice_93 : decode cX11_choice 93 = .ok (.ireturn, 1) := by decide +kernel
theorem dX11_choice_94 : decode cX11_choice 94 = .ok (.aload_n 0, 1) := by decide +kernel
theorem dX11_choice_95 : decode cX11_choice 95 = .ok (.invokevirtual 101, 3) := by decide +kernel
theorem dX11_choice_98 : decode cX11_choice 98 = .ok (.aload_n 0, 1) := by decide +kernel
theorem dX11_choice_99 : decode cX11_choice 99 = .ok (.iload_n 1, 1) := by decide +kernel
theorem dX11_choice_100 : decode cX11_choice 100 = .ok (.iconst 1, 1) := by decide +kernel
theorem dX11_choice_101 : decode cX11_choice 101 = .ok (.iadd, 1) := by decide +kernel
theorem dX11_choice_102 : decode cX11_choice 102 = .ok (.invokevirtual 163, 3) := by decide +kernel
theorem dX11_choice_105 : decode cX11_choice 105 = .ok (.ifCond .ne 5, 3) := by decide +kernel
theorem dX11_choice_108 : decode cX11_choice 108 = .ok (.iconst 0, 1) := by decide +kernel
theorem dX11_choice_109 : decode cX11_choice 109 = .ok (.ireturn, 1) := by decide +kernel
theorem dX11_choice_110 : decode cX11_choice 110 = .ok (.aload_n 0, 1) := by decide +kernel
theorem dX11_choice_111 : decode cX11_choice 111 = .ok (.getfield 18, 3) := by decide +kernel
theorem dX11_choice_114 : decode cX11_choice 114 = .ok (.getfield 215, 3) := by decide +kernel
theorem dX11_choice_117 : decode cX11_choice 117 = .ok (.iconst 4, 1) := by decide +kernel
theorem dX11_choice_118 : decode cX11_choice 118 = .ok (.iload 4, 2) := by decide +kernel
theorem dX11_choice_120 : decode cX11_choice 120 = .ok (.imul, 1) := by decide +kernel
theorem dX11_choice_121 : decode cX11_choice 121 = .ok (.iconst 1, 1) := by decide +kernel
theorem dX11_choice_122 : decode cX11_choice 122 = .ok (.iadd, 1) := by decide +kernel
theorem dX11_choice_123 : decode cX11_choice 123 = .ok (.aload_n 0, 1) := by decide +kernel
theorem dX11_choice_124 : decode cX11_choice 124 = .ok (.getfield 18, 3) := by decide +kernel
theorem dX11_choice_127 : decode cX11_choice 127 = .ok (.getfield 160, 3) := by decide +kernel
theorem dX11_choice_130 : decode cX11_choice 130 = .ok (.iastore, 1) := by decide +kernel
theorem dX11_choice_131 : decode cX11_choice 131 = .ok (.iconst 1, 1) := by decide +kernel
theorem dX11_choice_132 : decode cX11_choice 132 = .ok (.ireturn, 1) := by decide +kernel
theorem dX12_init_0 : decode cX12_init 0 = .ok (.aload_n 0, 1) := by decide +kernel
theorem dX12_init_1 : decode cX12_init 1 = .ok (.invokespecial 1, 3) := by decide +kernel
theorem dX12_init_4 : decode cX12_init 4 = .ok (.aload_n 0, 1) := by decide +kernel
theorem dX12_init_5 : decode cX12_init 5 = .ok (.sipush 1600, 3) := by decide +kernel
theorem dX12_init_8 : decode cX12_init 8 = .ok (.newarray .byte, 2) := by decide +kernel
theorem dX12_init_10 : decode cX12_init 10 = .ok (.putfield 9, 3) := by decide +kernel
theorem dX12_init_13 : decode cX12_init 13 = .ok (.aload_n 0, 1) := by decide +kernel
theorem dX12_init_14 : decode cX12_init 14 = .ok (.iconst (-1), 1) := by decide +kernel
theorem dX12_init_15 : decode cX12_init 15 = .ok (.putfield 13, 3) := by decide +kernel
theorem dX12_init_18 : decode cX12_init 18 = .ok (.aload_n 0, 1) := by decide +kernel
theorem dX12_init_19 : decode cX12_init 19 = .ok (.new 17, 3) := by decide +kernel
theorem dX12_init_22 : decode cX12_init 22 = .ok (.dup, 1) := by decide +kernel
theorem dX12_init_23 : decode cX12_init 23 = .ok (.invokespecial 19, 3) := by decide +kernel
theorem dX12_init_26 : decode cX12_init 26 = .ok (.putfield 20, 3) := by decide +kernel
theorem dX12_init_29 : decode cX12_init 29 = .ok (.aload_n 0, 1) := by decide +kernel
theorem dX12_init_30 : decode cX12_init 30 = .ok (.bipush 50, 2) := by decide +kernel
theorem dX12_init_32 : decode cX12_init 32 = .ok (.newarray .int, 2) := by decide +kernel
theorem dX12_init_34 : decode cX12_init 34 = .ok (.putfield 24, 3) := by decide +kernel
theorem dX12_init_37 : decode cX12_init 37 = .ok (.aload_n 0, 1) := by decide +kernel
theorem dX12_init_38 : decode cX12_init 38 = .ok (.bipush 50, 2) := by decide +kernel
theorem dX12_init_40 : decode cX12_init 40 = .ok (.newarray .int, 2) := by decide +kernel
theorem dX12_init_42 : decode cX12_init 42 = .ok (.putfield 28, 3) := by decide +kernel
theorem dX12_init_45 : decode cX12_init 45 = .ok (.aload_n 0, 1) := by decide +kernel
theorem dX12_init_46 : decode cX12_init 46 = .ok (.bipush 7, 2) := by decide +kernel
theorem dX12_init_48 : decode cX12_init 48 = .ok (.newarray .int, 2) := by decide +kernel
theorem dX12_init_50 : decode cX12_init 50 = .ok (.putfield 31, 3) := by decide +kernel
theorem dX12_init_53 : decode cX12_init 53 = .ok (.aload_n 0, 1) := by decide +kernel
theorem dX12_init_54 : decode cX12_init 54 = .ok (.sipush 512, 3) := by decide +kernel
theorem dX12_init_57 : decode cX12_init 57 = .ok (.newarray .int, 2) := by decide +kernel
theorem dX12_init_59 : decode cX12_init 59 = .ok (.putfield 34, 3) := by decide +kernel
theorem dX12_init_62 : decode cX12_init 62 = .ok (.aload_n 0, 1) := by decide +kernel
theorem dX12_init_63 : decode cX12_init 63 = .ok (.getfield 20, 3) := by decide +kernel
theorem dX12_init_66 : decode cX12_init 66 = .ok (.iconst 4, 1) := by decide +kernel
theorem dX12_init_67 : decode cX12_init 67 = .ok (.putfield 37, 3) := by decide +kernel
theorem dX12_init_70 : decode cX12_init 70 = .ok (.iconst 0, 1) := by decide +kernel
theorem dX12_init_71 : decode cX12_init 71 = .ok (.istore_n 1, 1) := by decide +kernel
theorem dX12_init_72 : decode cX12_init 72 = .ok (.iload_n 1, 1) := by decide +kernel
theorem dX12_init_73 : decode cX12_init 73 = .ok (.iconst 4, 1) := by decide +kernel
theorem dX12_init_74 : decode cX12_init 74 = .ok (.if_icmp .ge 20, 3) := by decide +kernel
theorem dX12_init_77 : decode cX12_init 77 = .ok (.aload_n 0, 1) := by decide +kernel
theorem dX12_init_78 : decode cX12_init 78 = .ok (.getfield 20, 3) := by decide +kernel
theorem dX12_init_81 : decode cX12_init 81 = .ok (.getfield 40, 3) := by decide +kernel
theorem dX12_init_84 : decode cX12_init 84 = .ok (.iload_n 1, 1) := by decide +kernel
theorem dX12_init_85 : decode cX12_init 85 = .ok (.bipush 10, 2) := by decide +kernel
theorem dX12_init_87 : decode cX12_init 87 = .ok (.iastore, 1) := by decide +kernel
theorem dX12_init_88 : decode cX12_init 88 = .ok (.iinc 1 1, 3) := by decide +kernel
theorem dX12_init_91 : decode cX12_init 91 = .ok (.goto (-19), 3) := by decide +kernel
theorem dX12_init_94 : decode cX12_init 94 = .ok (.aload_n 0, 1) := by decide +kernel
theorem dX12_init_95 : decode cX12_init 95 = .ok (.invokevirtual 43, 3) := by decide +kernel
theorem dX12_init_98 : decode cX12_init 98 = .ok (.return_, 1) := by decide +kernel
theorem dX12_thrown_0 : decode cX12_thrown 0 = .ok (.aload_n 0, 1) := by decide +kernel
theorem dX12_thrown_1 : decode cX12_thrown 1 = .ok (.getfield 46, 3) := by decide +kernel
theorem dX12_thrown_4 : decode cX12_thrown 4 = .ok (.ireturn, 1) := by decide +kernel
theorem dX12_fail_0 : decode cX12_fail 0 = .ok (.aload_n 0, 1) := by decide +kernel
theorem dX12_fail_1 : decode cX12_fail 1 = .ok (.iload_n 1, 1) := by decide +kernel
theorem dX12_fail_2 : decode cX12_fail 2 = .ok (.putfield 46, 3) := by decide +kernel
theorem dX12_fail_5 : decode cX12_fail 5 = .ok (.iconst 0, 1) := by decide +kernel
theorem dX12_fail_6 : decode cX12_fail 6 = .ok (.ireturn, 1) := by decide +kernel
theorem dX12_failed_0 : decode cX12_failed 0 = .ok (.aload_n 0, 1) := by decide +kernel
theorem dX12_failed_1 : decode cX12_failed 1 = .ok (.iload_n 1, 1) := by decide +kernel
theorem dX12_failed_2 : decode cX12_failed 2 = .ok (.putfield 46, 3) := by decide +kernel
theorem dX12_failed_5 : decode cX12_failed 5 = .ok (.iconst 0, 1) := by decide +kernel
theorem dX12_failed_6 : decode cX12_failed 6 = .ok (.ireturn, 1) := by decide +kernel
theorem dX12_told_0 : decode cX12_told 0 = .ok (.aload_n 0, 1) := by decide +kernel
theorem dX12_told_1 : decode cX12_told 1 = .ok (.iconst 0, 1) := by decide +kernel
theorem dX12_told_2 : decode cX12_told 2 = .ok (.putfield 46, 3) := by decide +kernel
theorem dX12_told_5 : decode cX12_told 5 = .ok (.iload_n 1, 1) := by decide +kernel
theorem dX12_told_6 : decode cX12_told 6 = .ok (.ireturn, 1) := by decide +kernel
theorem dX12_toldIs_0 : decode cX12_toldIs 0 = .ok (.aload_n 0, 1) := by decide +kernel
theorem dX12_toldIs_1 : decode cX12_toldIs 1 = .ok (.iconst 0, 1) := by decide +kernel
theorem dX12_toldIs_2 : decode cX12_toldIs 2 = .ok (.putfield 46, 3) := by decide +kernel
theorem dX12_toldIs_5 : decode cX12_toldIs 5 = .ok (.iload_n 1, 1) := by decide +kernel
theorem dX12_toldIs_6 : decode cX12_toldIs 6 = .ok (.ireturn, 1) := by decide +kernel
theorem dX12_isIn_0 : decode cX12_isIn 0 = .ok (.iload_n 0, 1) := by decide +kernel
theorem dX12_isIn_1 : decode cX12_isIn 1 = .ok (.iload_n 1, 1) := by decide +kernel
theorem dX12_isIn_2 : decode cX12_isIn 2 = .ok (.if_icmp .lt 12, 3) := by decide +kernel
theorem dX12_isIn_5 : decode cX12_isIn 5 = .ok (.iload_n 0, 1) := by decide +kernel
theorem dX12_isIn_6 : decode cX12_isIn 6 = .ok (.iload_n 2, 1) := by decide +kernel
theorem dX12_isIn_7 : decode cX12_isIn 7 = .ok (.if_icmp .gt 7, 3) := by decide +kernel
theorem dX12_isIn_10 : decode cX12_isIn 10 = .ok (.iconst 1, 1) := by decide +kernel
theorem dX12_isIn_11 : decode cX12_isIn 11 = .ok (.goto 4, 3) := by decide +kernel
theorem dX12_isIn_14 : decode cX12_isIn 14 = .ok (.iconst 0, 1) := by decide +kernel
theorem dX12_isIn_15 : decode cX12_isIn 15 = .ok (.ireturn, 1) := by decide +kernel
theorem dX12_feed_0 : decode cX12_feed 0 = .ok (.aload_n 0, 1) := by decide +kernel
theorem dX12_feed_1 : decode cX12_feed 1 = .ok (.iconst 0, 1) := by decide +kernel
theorem dX12_feed_2 : decode cX12_feed 2 = .ok (.putfield 46, 3) := by decide +kernel
theorem dX12_feed_5 : decode cX12_feed 5 = .ok (.aload_n 0, 1) := by decide +kernel
theorem dX12_feed_6 : decode cX12_feed 6 = .ok (.getfield 49, 3) := by decide +kernel
theorem dX12_feed_9 : decode cX12_feed 9 = .ok (.bipush 20, 2) := by decide +kernel
theorem dX12_feed_11 : decode cX12_feed 11 = .ok (.iadd, 1) := by decide +kernel
theorem dX12_feed_12 : decode cX12_feed 12 = .ok (.sipush 1600, 3) := by decide +kernel
theorem dX12_feed_15 : decode cX12_feed 15 = .ok (.if_icmp .le 9, 3) := by decide +kernel
theorem dX12_feed_18 : decode cX12_feed 18 = .ok (.aload_n 0, 1) := by decide +kernel
theorem dX12_feed_19 : decode cX12_feed 19 = .ok (.iconst 1, 1) := by decide +kernel
theorem dX12_feed_20 : decode cX12_feed 20 = .ok (.invokevirtual 52, 3) := by decide +kernel
theorem dX12_feed_23 : decode cX12_feed 23 = .ok (.ireturn, 1) := by decide +kernel
theorem dX12_feed_24 : decode cX12_feed 24 = .ok (.iconst 5, 1) := by decide +kernel
theorem dX12_feed_25 : decode cX12_feed 25 = .ok (.newarray .int, 2) := by decide +kernel
theorem dX12_feed_27 : decode cX12_feed 27 = .ok (.dup, 1) := by decide +kernel
theorem dX12_feed_28 : decode cX12_feed 28 = .ok (.iconst 0, 1) := by decide +kernel
theorem dX12_feed_29 : decode cX12_feed 29 = .ok (.iload_n 1, 1) := by decide +kernel
theorem dX12_feed_30 : decode cX12_feed 30 = .ok (.iastore, 1) := by decide +kernel
theorem dX12_feed_31 : decode cX12_feed 31 = .ok (.dup, 1) := by decide +kernel
theorem dX12_feed_32 : decode cX12_feed 32 = .ok (.iconst 1, 1) := by decide +kernel
theorem dX12_feed_33 : decode cX12_feed 33 = .ok (.iload_n 2, 1) := by decide +kernel
theorem dX12_feed_34 : decode cX12_feed 34 = .ok (.iastore, 1) := by decide +kernel
theorem dX12_feed_35 : decode cX12_feed 35 = .ok (.dup, 1) := by decide +kernel
theorem dX12_feed_36 : decode cX12_feed 36 = .ok (.iconst 2, 1) := by decide +kernel
theorem dX12_feed_37 : decode cX12_feed 37 = .ok (.iload_n 3, 1) := by decide +kernel
theorem dX12_feed_38 : decode cX12_feed 38 = .ok (.iastore, 1) := by decide +kernel
theorem dX12_feed_39 : decode cX12_feed 39 = .ok (.dup, 1) := by decide +kernel
theorem dX12_feed_40 : decode cX12_feed 40 = .ok (.iconst 3, 1) := by decide +kernel
theorem dX12_feed_41 : decode cX12_feed 41 = .ok (.iload 4, 2) := by decide +kernel
theorem dX12_feed_43 : decode cX12_feed 43 = .ok (.iastore, 1) := by decide +kernel
theorem dX12_feed_44 : decode cX12_feed 44 = .ok (.dup, 1) := by decide +kernel
theorem dX12_feed_45 : decode cX12_feed 45 = .ok (.iconst 4, 1) := by decide +kernel
theorem dX12_feed_46 : decode cX12_feed 46 = .ok (.iload 5, 2) := by decide +kernel
theorem dX12_feed_48 : decode cX12_feed 48 = .ok (.iastore, 1) := by decide +kernel
theorem dX12_feed_49 : decode cX12_feed 49 = .ok (.astore 6, 2) := by decide +kernel
theorem dX12_feed_51 : decode cX12_feed 51 = .ok (.iconst 0, 1) := by decide +kernel
theorem dX12_feed_52 : decode cX12_feed 52 = .ok (.istore 7, 2) := by decide +kernel
theorem dX12_feed_54 : decode cX12_feed 54 = .ok (.iload 7, 2) := by decide +kernel
theorem dX12_feed_56 : decode cX12_feed 56 = .ok (.bipush 20, 2) := by decide +kernel
theorem dX12_feed_58 : decode cX12_feed 58 = .ok (.if_icmp .ge 40, 3) := by decide +kernel
theorem dX12_feed_61 : decode cX12_feed 61 = .ok (.aload_n 0, 1) := by decide +kernel
theorem dX12_feed_62 : decode cX12_feed 62 = .ok (.getfield 9, 3) := by decide +kernel
theorem dX12_feed_65 : decode cX12_feed 65 = .ok (.aload_n 0, 1) := by decide +kernel
theorem dX12_feed_66 : decode cX12_feed 66 = .ok (.getfield 49, 3) := by decide +kernel
theorem dX12_feed_69 : decode cX12_feed 69 = .ok (.iload 7, 2) := by decide +kernel
theorem dX12_feed_71 : decode cX12_feed 71 = .ok (.iadd, 1) := by decide +kernel
theorem dX12_feed_72 : decode cX12_feed 72 = .ok (.aload 6, 2) := by decide +kernel
theorem dX12_feed_74 : decode cX12_feed 74 = .ok (.iload 7, 2) := by decide +kernel
theorem dX12_feed_76 : decode cX12_feed 76 = .ok (.iconst 4, 1) := by decide +kernel
theorem dX12_feed_77 : decode cX12_feed 77 = .ok (.idiv, 1) := by decide +kernel
theorem dX12_feed_78 : decode cX12_feed 78 = .ok (.iaload, 1) := by decide +kernel
theorem dX12_feed_79 : decode cX12_feed 79 = .ok (.bipush 24, 2) := by decide +kernel
theorem dX12_feed_81 : decode cX12_feed 81 = .ok (.bipush 8, 2) := by decide +kernel
theorem dX12_feed_83 : decode cX12_feed 83 = .ok (.iload 7, 2) := by decide +kernel
theorem dX12_feed_85 : decode cX12_feed 85 = .ok (.iconst 4, 1) := by decide +kernel
theorem dX12_feed_86 : decode cX12_feed 86 = .ok (.irem, 1) := by decide +kernel
theorem dX12_feed_87 : decode cX12_feed 87 = .ok (.imul, 1) := by decide +kernel
theorem dX12_feed_88 : decode cX12_feed 88 = .ok (.isub, 1) := by decide +kernel
theorem dX12_feed_89 : decode cX12_feed 89 = .ok (.ishr, 1) := by decide +kernel
theorem dX12_feed_90 : decode cX12_feed 90 = .ok (.i2b, 1) := by decide +kernel
theorem dX12_feed_91 : decode cX12_feed 91 = .ok (.bastore, 1) := by decide +kernel
theorem dX12_feed_92 : decode cX12_feed 92 = .ok (.iinc 7 1, 3) := by decide +kernel
theorem dX12_feed_95 : decode cX12_feed 95 = .ok (.goto (-41), 3) := by decide +kernel
theorem dX12_feed_98 : decode cX12_feed 98 = .ok (.aload_n 0, 1) := by decide +kernel
theorem dX12_feed_99 : decode cX12_feed 99 = .ok (.dup, 1) := by decide +kernel
theorem dX12_feed_100 : decode cX12_feed 100 = .ok (.getfield 49, 3) := by decide +kernel
theorem dX12_feed_103 : decode cX12_feed 103 = .ok (.bipush 20, 2) := by decide +kernel
theorem dX12_feed_105 : decode cX12_feed 105 = .ok (.iadd, 1) := by decide +kernel
theorem dX12_feed_106 : decode cX12_feed 106 = .ok (.putfield 49, 3) := by decide +kernel
theorem dX12_feed_109 : decode cX12_feed 109 = .ok (.aload_n 0, 1) := by decide +kernel
theorem dX12_feed_110 : decode cX12_feed 110 = .ok (.getfield 49, 3) := by decide +kernel
theorem dX12_feed_113 : decode cX12_feed 113 = .ok (.ireturn, 1) := by decide +kernel
theorem dX12_trim_0 : decode cX12_trim 0 = .ok (.aload_n 0, 1) := by decide +kernel
theorem dX12_trim_1 : decode cX12_trim 1 = .ok (.iconst 0, 1) := by decide +kernel
theorem dX12_trim_2 : decode cX12_trim 2 = .ok (.putfield 46, 3) := by decide +kernel
theorem dX12_trim_5 : decode cX12_trim 5 = .ok (.iload_n 1, 1) := by decide +kernel
theorem dX12_trim_6 : decode cX12_trim 6 = .ok (.iconst 0, 1) := by decide +kernel
theorem dX12_trim_7 : decode cX12_trim 7 = .ok (.aload_n 0, 1) := by decide +kernel
theorem dX12_trim_8 : decode cX12_trim 8 = .ok (.getfield 49, 3) := by decide +kernel
theorem dX12_trim_11 : decode cX12_trim 11 = .ok (.invokestatic 56, 3) := by decide +kernel
theorem dX12_trim_14 : decode cX12_trim 14 = .ok (.ifCond .ne 9, 3) := by decide +kernel
theorem dX12_trim_17 : decode cX12_trim 17 = .ok (.aload_n 0, 1) := by decide +kernel
theorem dX12_trim_18 : decode cX12_trim 18 = .ok (.iconst 1, 1) := by decide +kernel
theorem dX12_trim_19 : decode cX12_trim 19 = .ok (.invokevirtual 52, 3) := by decide +kernel
theorem dX12_trim_22 : decode cX12_trim 22 = .ok (.ireturn, 1) := by decide +kernel
theorem dX12_trim_23 : decode cX12_trim 23 = .ok (.aload_n 0, 1) := by decide +kernel
theorem dX12_trim_24 : decode cX12_trim 24 = .ok (.iload_n 1, 1) := by decide +kernel
theorem dX12_trim_25 : decode cX12_trim 25 = .ok (.putfield 49, 3) := by decide +kernel
theorem dX12_trim_28 : decode cX12_trim 28 = .ok (.iload_n 1, 1) := by decide +kernel
theorem dX12_trim_29 : decode cX12_trim 29 = .ok (.ireturn, 1) := by decide +kernel
theorem dX12_teach_0 : decode cX12_teach 0 = .ok (.aload_n 0, 1) := by decide +kernel
theorem dX12_teach_1 : decode cX12_teach 1 = .ok (.iconst 0, 1) := by decide +kernel
theorem dX12_teach_2 : decode cX12_teach 2 = .ok (.putfield 46, 3) := by decide +kernel
theorem dX12_teach_5 : decode cX12_teach 5 = .ok (.new 60, 3) := by decide +kernel
theorem dX12_teach_8 : decode cX12_teach 8 = .ok (.dup, 1) := by decide +kernel
theorem dX12_teach_9 : decode cX12_teach 9 = .ok (.aload_n 0, 1) := by decide +kernel
theorem dX12_teach_10 : decode cX12_teach 10 = .ok (.invokespecial 62, 3) := by decide +kernel
theorem dX12_teach_13 : decode cX12_teach 13 = .ok (.astore_n 1, 1) := by decide +kernel
theorem dX12_teach_14 : decode cX12_teach 14 = .ok (.aload_n 1, 1) := by decide +kernel
theorem dX12_teach_15 : decode cX12_teach 15 = .ok (.invokevirtual 65, 3) := by decide +kernel
theorem dX12_teach_18 : decode cX12_teach 18 = .ok (.istore_n 2, 1) := by decide +kernel
theorem dX12_teach_19 : decode cX12_teach 19 = .ok (.aload_n 0, 1) := by decide +kernel
theorem dX12_teach_20 : decode cX12_teach 20 = .ok (.iconst 0, 1) := by decide +kernel
theorem dX12_teach_21 : decode cX12_teach 21 = .ok (.putfield 49, 3) := by decide +kernel
theorem dX12_teach_24 : decode cX12_teach 24 = .ok (.iload_n 2, 1) := by decide +kernel
theorem dX12_teach_25 : decode cX12_teach 25 = .ok (.ifCond .eq 10, 3) := by decide +kernel
theorem dX12_teach_28 : decode cX12_teach 28 = .ok (.aload_n 1, 1) := by decide +kernel
theorem dX12_teach_29 : decode cX12_teach 29 = .ok (.getfield 68, 3) := by decide +kernel
theorem dX12_teach_32 : decode cX12_teach 32 = .ok (.goto 4, 3) := by decide +kernel
theorem dX12_teach_35 : decode cX12_teach 35 = .ok (.iconst 1, 1) := by decide +kernel
theorem dX12_teach_36 : decode cX12_teach 36 = .ok (.istore_n 3, 1) := by decide +kernel
theorem dX12_teach_37 : decode cX12_teach 37 = .ok (.aload_n 0, 1) := by decide +kernel
theorem dX12_teach_38 : decode cX12_teach 38 = .ok (.iload_n 2, 1) := by decide +kernel
theorem dX12_teach_39 : decode cX12_teach 39 = .ok (.ifCond .eq 10, 3) := by decide +kernel
theorem dX12_teach_42 : decode cX12_teach 42 = .ok (.aload_n 1, 1) := by decide +kernel
theorem dX12_teach_43 : decode cX12_teach 43 = .ok (.getfield 71, 3) := by decide +kernel
theorem dX12_teach_46 : decode cX12_teach 46 = .ok (.goto 7, 3) := by decide +kernel
theorem dX12_teach_49 : decode cX12_teach 49 = .ok (.aload_n 1, 1) := by decide +kernel
theorem dX12_teach_50 : decode cX12_teach 50 = .ok (.getfield 74, 3) := by decide +kernel
theorem dX12_teach_53 : decode cX12_teach 53 = .ok (.putfield 13, 3) := by decide +kernel
theorem dX12_teach_56 : decode cX12_teach 56 = .ok (.iload_n 3, 1) := by decide +kernel
theorem dX12_teach_57 : decode cX12_teach 57 = .ok (.ifCond .eq 5, 3) := by decide +kernel
theorem dX12_teach_60 : decode cX12_teach 60 = .ok (.iload_n 3, 1) := by decide +kernel
theorem dX12_teach_61 : decode cX12_teach 61 = .ok (.ireturn, 1) := by decide +kernel
theorem dX12_teach_62 : decode cX12_teach 62 = .ok (.aload_n 0, 1) := by decide +kernel
theorem dX12_teach_63 : decode cX12_teach 63 = .ok (.aload_n 1, 1) := by decide +kernel
theorem dX12_teach_64 : decode cX12_teach 64 = .ok (.getfield 77, 3) := by decide +kernel
theorem dX12_teach_67 : decode cX12_teach 67 = .ok (.putfield 20, 3) := by decide +kernel
theorem dX12_teach_70 : decode cX12_teach 70 = .ok (.aload_n 0, 1) := by decide +kernel
theorem dX12_teach_71 : decode cX12_teach 71 = .ok (.invokevirtual 43, 3) := by decide +kernel
theorem dX12_teach_74 : decode cX12_teach 74 = .ok (.iconst 0, 1) := by decide +kernel
theorem dX12_teach_75 : decode cX12_teach 75 = .ok (.ireturn, 1) := by decide +kernel
theorem dX12_errorAt_0 : decode cX12_errorAt 0 = .ok (.aload_n 0, 1) := by decide +kernel
theorem dX12_errorAt_1 : decode cX12_errorAt 1 = .ok (.aload_n 0, 1) := by decide +kernel
theorem dX12_errorAt_2 : decode cX12_errorAt 2 = .ok (.getfield 13, 3) := by decide +kernel
theorem dX12_errorAt_5 : decode cX12_errorAt 5 = .ok (.invokevirtual 80, 3) := by decide +kernel
theorem dX12_errorAt_8 : decode cX12_errorAt 8 = .ok (.ireturn, 1) := by decide +kernel
theorem dX12_begin_0 : decode cX12_begin 0 = .ok (.iconst 0, 1) := by decide +kernel
theorem dX12_begin_1 : decode cX12_begin 1 = .ok (.istore_n 1, 1) := by decide +kernel
theorem dX12_begin_2 : decode cX12_begin 2 = .ok (.iload_n 1, 1) := by decide +kernel
theorem dX12_begin_3 : decode cX12_begin 3 = .ok (.bipush 50, 2) := by decide +kernel
theorem dX12_begin_5 : decode cX12_begin 5 = .ok (.if_icmp .ge 16, 3) := by decide +kernel
theorem dX12_begin_8 : decode cX12_begin 8 = .ok (.aload_n 0, 1) := by decide +kernel
theorem dX12_begin_9 : decode cX12_begin 9 = .ok (.getfield 24, 3) := by decide +kernel
theorem dX12_begin_12 : decode cX12_begin 12 = .ok (.iload_n 1, 1) := by decide +kernel
theorem dX12_begin_13 : decode cX12_begin 13 = .ok (.iconst 0, 1) := by decide +kernel
theorem dX12_begin_14 : decode cX12_begin 14 = .ok (.iastore, 1) := by decide +kernel
theorem dX12_begin_15 : decode cX12_begin 15 = .ok (.iinc 1 1, 3) := by decide +kernel
theorem dX12_begin_18 : decode cX12_begin 18 = .ok (.goto (-16), 3) := by decide +kernel
theorem dX12_begin_21 : decode cX12_begin 21 = .ok (.aload_n 0, 1) := by decide +kernel
theorem dX12_begin_22 : decode cX12_begin 22 = .ok (.getfield 24, 3) := by decide +kernel
theorem dX12_begin_25 : decode cX12_begin 25 = .ok (.iconst 1, 1) := by decide +kernel
theorem dX12_begin_26 : decode cX12_begin 26 = .ok (.bipush 60, 2) := by decide +kernel
theorem dX12_begin_28 : decode cX12_begin 28 = .ok (.iastore, 1) := by decide +kernel
theorem dX12_begin_29 : decode cX12_begin 29 = .ok (.aload_n 0, 1) := by decide +kernel
theorem dX12_begin_30 : decode cX12_begin 30 = .ok (.getfield 20, 3) := by decide +kernel
theorem dX12_begin_33 : decode cX12_begin 33 = .ok (.getfield 40, 3) := by decide +kernel
theorem dX12_begin_36 : decode cX12_begin 36 = .ok (.iconst 0, 1) := by decide +kernel
theorem dX12_begin_37 : decode cX12_begin 37 = .ok (.aload_n 0, 1) := by decide +kernel
theorem dX12_begin_38 : decode cX12_begin 38 = .ok (.getfield 24, 3) := by decide +kernel
theorem dX12_begin_41 : decode cX12_begin 41 = .ok (.bipush 16, 2) := by decide +kernel
theorem dX12_begin_43 : decode cX12_begin 43 = .ok (.bipush 12, 2) := by decide +kernel
theorem dX12_begin_45 : decode cX12_begin 45 = .ok (.invokestatic 83, 3) := by decide +kernel
theorem dX12_begin_48 : decode cX12_begin 48 = .ok (.return_, 1) := by decide +kernel
theorem dX12_keep_0 : decode cX12_keep 0 = .ok (.aload_n 0, 1) := by decide +kernel
theorem dX12_keep_1 : decode cX12_keep 1 = .ok (.getfield 24, 3) := by decide +kernel
theorem dX12_keep_4 : decode cX12_keep 4 = .ok (.iconst 0, 1) := by decide +kernel
theorem dX12_keep_5 : decode cX12_keep 5 = .ok (.aload_n 0, 1) := by decide +kernel
theorem dX12_keep_6 : decode cX12_keep 6 = .ok (.getfield 28, 3) := by decide +kernel
theorem dX12_keep_9 : decode cX12_keep 9 = .ok (.iconst 0, 1) := by decide +kernel
theorem dX12_keep_10 : decode cX12_keep 10 = .ok (.bipush 50, 2) := by decide +kernel
theorem dX12_keep_12 : decode cX12_keep 12 = .ok (.invokestatic 83, 3) := by decide +kernel
theorem dX12_keep_15 : decode cX12_keep 15 = .ok (.return_, 1) := by decide +kernel
theorem dX12_bringBack_0 : decode cX12_bringBack 0 = .ok (.aload_n 0, 1) := by decide +kernel
theorem dX12_bringBack_1 : decode cX12_bringBack 1 = .ok (.getfield 28, 3) := by decide +kernel
theorem dX12_bringBack_4 : decode cX12_bringBack 4 = .ok (.iconst 0, 1) := by decide +kernel
theorem dX12_bringBack_5 : decode cX12_bringBack 5 = .ok (.aload_n 0, 1) := by decide +kernel
theorem dX12_bringBack_6 : decode cX12_bringBack 6 = .ok (.getfield 24, 3) := by decide +kernel
theorem dX12_bringBack_9 : decode cX12_bringBack 9 = .ok (.iconst 0, 1) := by decide +kernel
theorem dX12_bringBack_10 : decode cX12_bringBack 10 = .ok (.bipush 50, 2) := by decide +kernel
theorem dX12_bringBack_12 : decode cX12_bringBack 12 = .ok (.invokestatic 83, 3) := by decide +kernel
theorem dX12_bringBack_15 : decode cX12_bringBack 15 = .ok (.return_, 1) := by decide +kernel
theorem dX12_isWeak_0 : decode cX12_isWeak 0 = .ok (.aload_n 0, 1) := by decide +kernel
theorem dX12_isWeak_1 : decode cX12_isWeak 1 = .ok (.getfield 24, 3) := by decide +kernel
theorem dX12_isWeak_4 : decode cX12_isWeak 4 = .ok (.iconst 2, 1) := by decide +kernel
theorem dX12_isWeak_5 : decode cX12_isWeak 5 = .ok (.iaload, 1) := by decide +kernel
theorem dX12_isWeak_6 : decode cX12_isWeak 6 = .ok (.iconst 3, 1) := by decide +kernel
theorem dX12_isWeak_7 : decode cX12_isWeak 7 = .ok (.irem, 1) := by decide +kernel
theorem dX12_isWeak_8 : decode cX12_isWeak 8 = .ok (.iconst 2, 1) := by decide +kernel
theorem dX12_isWeak_9 : decode cX12_isWeak 9 = .ok (.if_icmp .ne 7, 3) := by decide +kernel
theorem dX12_isWeak_12 : decode cX12_isWeak 12 = .ok (.iconst 1, 1) := by decide +kernel
theorem dX12_isWeak_13 : decode cX12_isWeak 13 = .ok (.goto 4, 3) := by decide +kernel
theorem dX12_isWeak_16 : decode cX12_isWeak 16 = .ok (.iconst 0, 1) := by decide +kernel
theorem dX12_isWeak_17 : decode cX12_isWeak 17 = .ok (.ireturn, 1) := by decide +kernel
theorem dX12_bear_0 : decode cX12_bear 0 = .ok (.aload_n 0, 1) := by decide +kernel
theorem dX12_bear_1 : decode cX12_bear 1 = .ok (.invokevirtual 89, 3) := by decide +kernel
theorem dX12_bear_4 : decode cX12_bear 4 = .ok (.ifCond .eq 21, 3) := by decide +kernel
theorem dX12_bear_7 : decode cX12_bear 7 = .ok (.iconst 0, 1) := by decide +kernel
theorem dX12_bear_8 : decode cX12_bear 8 = .ok (.aload_n 0, 1) := by decide +kernel
theorem dX12_bear_9 : decode cX12_bear 9 = .ok (.getfield 24, 3) := by decide +kernel
theorem dX12_bear_12 : decode cX12_bear 12 = .ok (.bipush 16, 2) := by decide +kernel
theorem dX12_bear_14 : decode cX12_bear 14 = .ok (.iload_n 1, 1) := by decide +kernel
theorem dX12_bear_15 : decode cX12_bear 15 = .ok (.iadd, 1) := by decide +kernel
theorem dX12_bear_16 : decode cX12_bear 16 = .ok (.iaload, 1) := by decide +kernel
theorem dX12_bear_17 : decode cX12_bear 17 = .ok (.iconst 3, 1) := by decide +kernel
theorem dX12_bear_18 : decode cX12_bear 18 = .ok (.isub, 1) := by decide +kernel
theorem dX12_bear_19 : decode cX12_bear 19 = .ok (.invokestatic 92, 3) := by decide +kernel
theorem dX12_bear_22 : decode cX12_bear 22 = .ok (.goto 12, 3) := by decide +kernel
theorem dX12_bear_25 : decode cX12_bear 25 = .ok (.aload_n 0, 1) := by decide +kernel
theorem dX12_bear_26 : decode cX12_bear 26 = .ok (.getfield 24, 3) := by decide +kernel
theorem dX12_bear_29 : decode cX12_bear 29 = .ok (.bipush 16, 2) := by decide +kernel
theorem dX12_bear_31 : decode cX12_bear 31 = .ok (.iload_n 1, 1) := by decide +kernel
theorem dX12_bear_32 : decode cX12_bear 32 = .ok (.iadd, 1) := by decide +kernel
theorem dX12_bear_33 : decode cX12_bear 33 = .ok (.iaload, 1) := by decide +kernel
theorem dX12_bear_34 : decode cX12_bear 34 = .ok (.ireturn, 1) := by decide +kernel
theorem dX12_missing_0 : decode cX12_missing 0 = .ok (.iconst 0, 1) := by decide +kernel
theorem dX12_missing_1 : decode cX12_missing 1 = .ok (.istore_n 1, 1) := by decide +kernel
theorem dX12_missing_2 : decode cX12_missing 2 = .ok (.iconst 0, 1) := by decide +kernel
theorem dX12_missing_3 : decode cX12_missing 3 = .ok (.istore_n 2, 1) := by decide +kernel
theorem dX12_missing_4 : decode cX12_missing 4 = .ok (.iload_n 2, 1) := by decide +kernel
theorem dX12_missing_5 : decode cX12_missing 5 = .ok (.aload_n 0, 1) := by decide +kernel
theorem dX12_missing_6 : decode cX12_missing 6 = .ok (.getfield 20, 3) := by decide +kernel
theorem dX12_missing_9 : decode cX12_missing 9 = .ok (.getfield 37, 3) := by decide +kernel
theorem dX12_missing_12 : decode cX12_missing 12 = .ok (.if_icmp .ge 29, 3) := by decide +kernel
theorem dX12_missing_15 : decode cX12_missing 15 = .ok (.iload_n 1, 1) := by decide +kernel
theorem dX12_missing_16 : decode cX12_missing 16 = .ok (.aload_n 0, 1) := by decide +kernel
theorem dX12_missing_17 : decode cX12_missing 17 = .ok (.getfield 24, 3) := by decide +kernel
theorem dX12_missing_20 : decode cX12_missing 20 = .ok (.bipush 16, 2) := by decide +kernel
theorem dX12_missing_22 : decode cX12_missing 22 = .ok (.iload_n 2, 1) := by decide +kernel
theorem dX12_missing_23 : decode cX12_missing 23 = .ok (.iadd, 1) := by decide +kernel
theorem dX12_missing_24 : decode cX12_missing 24 = .ok (.iaload, 1) := by decide +kernel
theorem dX12_missing_25 : decode cX12_missing 25 = .ok (.ifCond .ne 7, 3) := by decide +kernel
theorem dX12_missing_28 : decode cX12_missing 28 = .ok (.iconst 1, 1) := by decide +kernel
theorem dX12_missing_29 : decode cX12_missing 29 = .ok (.goto 4, 3) := by decide +kernel
theorem dX12_missing_32 : decode cX12_missing 32 = .ok (.iconst 0, 1) := by decide +kernel
theorem dX12_missing_33 : decode cX12_missing 33 = .ok (.iadd, 1) := by decide +kernel
theorem dX12_missing_34 : decode cX12_missing 34 = .ok (.istore_n 1, 1) := by decide +kernel
theorem dX12_missing_35 : decode cX12_missing 35 = .ok (.iinc 2 1, 3) := by decide +kernel
theorem dX12_missing_38 : decode cX12_missing 38 = .ok (.goto (-34), 3) := by decide +kernel
theorem dX12_missing_41 : decode cX12_missing 41 = .ok (.iload_n 1, 1) := by decide +kernel
theorem dX12_missing_42 : decode cX12_missing 42 = .ok (.ireturn, 1) := by decide +kernel
theorem dX12_canPass_0 : decode cX12_canPass 0 = .ok (.iconst 1, 1) := by decide +kernel
theorem dX12_canPass_1 : decode cX12_canPass 1 = .ok (.istore_n 1, 1) := by decide +kernel
theorem dX12_canPass_2 : decode cX12_canPass 2 = .ok (.iload_n 1, 1) := by decide +kernel
theorem dX12_canPass_3 : decode cX12_canPass 3 = .ok (.aload_n 0, 1) := by decide +kernel
theorem dX12_canPass_4 : decode cX12_canPass 4 = .ok (.getfield 20, 3) := by decide +kernel
theorem dX12_canPass_7 : decode cX12_canPass 7 = .ok (.getfield 37, 3) := by decide +kernel
theorem dX12_canPass_10 : decode cX12_canPass 10 = .ok (.if_icmp .ge 37, 3) := by decide +kernel
theorem dX12_canPass_13 : decode cX12_canPass 13 = .ok (.aload_n 0, 1) := by decide +kernel
theorem dX12_canPass_14 : decode cX12_canPass 14 = .ok (.getfield 24, 3) := by decide +kernel
theorem dX12_canPass_17 : decode cX12_canPass 17 = .ok (.bipush 16, 2) := by decide +kernel
theorem dX12_canPass_19 : decode cX12_canPass 19 = .ok (.iload_n 1, 1) := by decide +kernel
theorem dX12_canPass_20 : decode cX12_canPass 20 = .ok (.iadd, 1) := by decide +kernel
theorem dX12_canPass_21 : decode cX12_canPass 21 = .ok (.iaload, 1) := by decide +kernel
theorem dX12_canPass_22 : decode cX12_canPass 22 = .ok (.ifCond .ne 19, 3) := by decide +kernel
theorem dX12_canPass_25 : decode cX12_canPass 25 = .ok (.aload_n 0, 1) := by decide +kernel
theorem dX12_canPass_26 : decode cX12_canPass 26 = .ok (.getfield 24, 3) := by decide +kernel
theorem dX12_canPass_29 : decode cX12_canPass 29 = .ok (.bipush 16, 2) := by decide +kernel
theorem dX12_canPass_31 : decode cX12_canPass 31 = .ok (.iload_n 1, 1) := by decide +kernel
theorem dX12_canPass_32 : decode cX12_canPass 32 = .ok (.iadd, 1) := by decide +kernel
theorem dX12_canPass_33 : decode cX12_canPass 33 = .ok (.iconst 1, 1) := by decide +kernel
theorem dX12_canPass_34 : decode cX12_canPass 34 = .ok (.isub, 1) := by decide +kernel
theorem dX12_canPass_35 : decode cX12_canPass 35 = .ok (.iaload, 1) := by decide +kernel
theorem dX12_canPass_36 : decode cX12_canPass 36 = .ok (.ifCond .ne 5, 3) := by decide +kernel
theorem dX12_canPass_39 : decode cX12_canPass 39 = .ok (.iconst 0, 1) := by decide +kernel
theorem dX12_canPass_40 : decode cX12_canPass 40 = .ok (.ireturn, 1) := by decide +kernel
theorem dX12_canPass_41 : decode cX12_canPass 41 = .ok (.iinc 1 1, 3) := by decide +kernel
theorem dX12_canPass_44 : decode cX12_canPass 44 = .ok (.goto (-42), 3) := by decide +kernel
theorem dX12_canPass_47 : decode cX12_canPass 47 = .ok (.iconst 1, 1) := by decide +kernel
theorem dX12_canPass_48 : decode cX12_canPass 48 = .ok (.ireturn, 1) := by decide +kernel
theorem dX12_weakest_0 : decode cX12_weakest 0 = .ok (.iconst (-1), 1) := by decide +kernel
theorem dX12_weakest_1 : decode cX12_weakest 1 = .ok (.istore_n 2, 1) := by decide +kernel
theorem dX12_weakest_2 : decode cX12_weakest 2 = .ok (.iconst 0, 1) := by decide +kernel
theorem dX12_weakest_3 : decode cX12_weakest 3 = .ok (.istore_n 3, 1) := by decide +kernel
theorem dX12_weakest_4 : decode cX12_weakest 4 = .ok (.iload_n 3, 1) := by decide +kernel
theorem dX12_weakest_5 : decode cX12_weakest 5 = .ok (.aload_n 0, 1) := by decide +kernel
theorem dX12_weakest_6 : decode cX12_weakest 6 = .ok (.getfield 20, 3) := by decide +kernel
theorem dX12_weakest_9 : decode cX12_weakest 9 = .ok (.getfield 37, 3) := by decide +kernel
theorem dX12_weakest_12 : decode cX12_weakest 12 = .ok (.if_icmp .ge 69, 3) := by decide +kernel
theorem dX12_weakest_15 : decode cX12_weakest 15 = .ok (.aload_n 0, 1) := by decide +kernel
theorem dX12_weakest_16 : decode cX12_weakest 16 = .ok (.getfield 24, 3) := by decide +kernel
theorem dX12_weakest_19 : decode cX12_weakest 19 = .ok (.bipush 16, 2) := by decide +kernel
theorem dX12_weakest_21 : decode cX12_weakest 21 = .ok (.iload_n 3, 1) := by decide +kernel
theorem dX12_weakest_22 : decode cX12_weakest 22 = .ok (.iadd, 1) := by decide +kernel
theorem dX12_weakest_23 : decode cX12_weakest 23 = .ok (.iaload, 1) := by decide +kernel
theorem dX12_weakest_24 : decode cX12_weakest 24 = .ok (.ifCond .eq 51, 3) := by decide +kernel
theorem dX12_weakest_27 : decode cX12_weakest 27 = .ok (.iload_n 1, 1) := by decide +kernel
theorem dX12_weakest_28 : decode cX12_weakest 28 = .ok (.ifCond .eq 19, 3) := by decide +kernel
theorem dX12_weakest_31 : decode cX12_weakest 31 = .ok (.aload_n 0, 1) := by decide +kernel
theorem dX12_weakest_32 : decode cX12_weakest 32 = .ok (.getfield 24, 3) := by decide +kernel
theorem dX12_weakest_35 : decode cX12_weakest 35 = .ok (.bipush 28, 2) := by decide +kernel
theorem dX12_weakest_37 : decode cX12_weakest 37 = .ok (.iload_n 3, 1) := by decide +kernel
theorem dX12_weakest_38 : decode cX12_weakest 38 = .ok (.iadd, 1) := by decide +kernel
theorem dX12_weakest_39 : decode cX12_weakest 39 = .ok (.iaload, 1) := by decide +kernel
theorem dX12_weakest_40 : decode cX12_weakest 40 = .ok (.iconst 1, 1) := by decide +kernel
theorem dX12_weakest_41 : decode cX12_weakest 41 = .ok (.if_icmp .ne 6, 3) := by decide +kernel
theorem dX12_weakest_44 : decode cX12_weakest 44 = .ok (.goto 31, 3) := by decide +kernel
theorem dX12_weakest_47 : decode cX12_weakest 47 = .ok (.iload_n 2, 1) := by decide +kernel
theorem dX12_weakest_48 : decode cX12_weakest 48 = .ok (.iconst (-1), 1) := by decide +kernel
theorem dX12_weakest_49 : decode cX12_weakest 49 = .ok (.if_icmp .eq 24, 3) := by decide +kernel
theorem dX12_weakest_52 : decode cX12_weakest 52 = .ok (.aload_n 0, 1) := by decide +kernel
theorem dX12_weakest_53 : decode cX12_weakest 53 = .ok (.getfield 24, 3) := by decide +kernel
theorem dX12_weakest_56 : decode cX12_weakest 56 = .ok (.bipush 16, 2) := by decide +kernel
theorem dX12_weakest_58 : decode cX12_weakest 58 = .ok (.iload_n 3, 1) := by decide +kernel
theorem dX12_weakest_59 : decode cX12_weakest 59 = .ok (.iadd, 1) := by decide +kernel
theorem dX12_weakest_60 : decode cX12_weakest 60 = .ok (.iaload, 1) := by decide +kernel
theorem dX12_weakest_61 : decode cX12_weakest 61 = .ok (.aload_n 0, 1) := by decide +kernel
theorem dX12_weakest_62 : decode cX12_weakest 62 = .ok (.getfield 24, 3) := by decide +kernel
theorem dX12_weakest_65 : decode cX12_weakest 65 = .ok (.bipush 16, 2) := by decide +kernel
theorem dX12_weakest_67 : decode cX12_weakest 67 = .ok (.iload_n 2, 1) := by decide +kernel
theorem dX12_weakest_68 : decode cX12_weakest 68 = .ok (.iadd, 1) := by decide +kernel
theorem dX12_weakest_69 : decode cX12_weakest 69 = .ok (.iaload, 1) := by decide +kernel
theorem dX12_weakest_70 : decode cX12_weakest 70 = .ok (.if_icmp .ge 5, 3) := by decide +kernel
theorem dX12_weakest_73 : decode cX12_weakest 73 = .ok (.iload_n 3, 1) := by decide +kernel
theorem dX12_weakest_74 : decode cX12_weakest 74 = .ok (.istore_n 2, 1) := by decide +kernel
theorem dX12_weakest_75 : decode cX12_weakest 75 = .ok (.iinc 3 1, 3) := by decide +kernel
theorem dX12_weakest_78 : decode cX12_weakest 78 = .ok (.goto (-74), 3) := by decide +kernel
theorem dX12_weakest_81 : decode cX12_weakest 81 = .ok (.iload_n 2, 1) := by decide +kernel
theorem dX12_weakest_82 : decode cX12_weakest 82 = .ok (.ireturn, 1) := by decide +kernel
theorem dX12_nightOn_0 : decode cX12_nightOn 0 = .ok (.aload_n 0, 1) := by decide +kernel
theorem dX12_nightOn_1 : decode cX12_nightOn 1 = .ok (.getfield 24, 3) := by decide +kernel
theorem dX12_nightOn_4 : decode cX12_nightOn 4 = .ok (.iconst 2, 1) := by decide +kernel
theorem dX12_nightOn_5 : decode cX12_nightOn 5 = .ok (.dup2, 1) := by decide +kernel
theorem dX12_nightOn_6 : decode cX12_nightOn 6 = .ok (.iaload, 1) := by decide +kernel
theorem dX12_nightOn_7 : decode cX12_nightOn 7 = .ok (.iconst 1, 1) := by decide +kernel
theorem dX12_nightOn_8 : decode cX12_nightOn 8 = .ok (.iadd, 1) := by decide +kernel
theorem dX12_nightOn_9 : decode cX12_nightOn 9 = .ok (.iastore, 1) := by decide +kernel
theorem dX12_nightOn_10 : decode cX12_nightOn 10 = .ok (.aload_n 0, 1) := by decide +kernel
theorem dX12_nightOn_11 : decode cX12_nightOn 11 = .ok (.getfield 24, 3) := by decide +kernel
theorem dX12_nightOn_14 : decode cX12_nightOn 14 = .ok (.iconst 1, 1) := by decide +kernel
theorem dX12_nightOn_15 : decode cX12_nightOn 15 = .ok (.bipush 60, 2) := by decide +kernel
theorem dX12_nightOn_17 : decode cX12_nightOn 17 = .ok (.iastore, 1) := by decide +kernel
theorem dX12_nightOn_18 : decode cX12_nightOn 18 = .ok (.iconst 0, 1) := by decide +kernel
theorem dX12_nightOn_19 : decode cX12_nightOn 19 = .ok (.istore_n 1, 1) := by decide +kernel
theorem dX12_nightOn_20 : decode cX12_nightOn 20 = .ok (.iload_n 1, 1) := by decide +kernel
theorem dX12_nightOn_21 : decode cX12_nightOn 21 = .ok (.aload_n 0, 1) := by decide +kernel
theorem dX12_nightOn_22 : decode cX12_nightOn 22 = .ok (.getfield 20, 3) := by decide +kernel
theorem dX12_nightOn_25 : decode cX12_nightOn 25 = .ok (.getfield 37, 3) := by decide +kernel
theorem dX12_nightOn_28 : decode cX12_nightOn 28 = .ok (.if_icmp .ge 59, 3) := by decide +kernel
theorem dX12_nightOn_31 : decode cX12_nightOn 31 = .ok (.aload_n 0, 1) := by decide +kernel
theorem dX12_nightOn_32 : decode cX12_nightOn 32 = .ok (.getfield 24, 3) := by decide +kernel
theorem dX12_nightOn_35 : decode cX12_nightOn 35 = .ok (.bipush 28, 2) := by decide +kernel
theorem dX12_nightOn_37 : decode cX12_nightOn 37 = .ok (.iload_n 1, 1) := by decide +kernel
theorem dX12_nightOn_38 : decode cX12_nightOn 38 = .ok (.iadd, 1) := by decide +kernel
theorem dX12_nightOn_39 : decode cX12_nightOn 39 = .ok (.iaload, 1) := by decide +kernel
theorem dX12_nightOn_40 : decode cX12_nightOn 40 = .ok (.ifCond .ne 6, 3) := by decide +kernel
theorem dX12_nightOn_43 : decode cX12_nightOn 43 = .ok (.goto 38, 3) := by decide +kernel
theorem dX12_nightOn_46 : decode cX12_nightOn 46 = .ok (.aload_n 0, 1) := by decide +kernel
theorem dX12_nightOn_47 : decode cX12_nightOn 47 = .ok (.getfield 24, 3) := by decide +kernel
theorem dX12_nightOn_50 : decode cX12_nightOn 50 = .ok (.bipush 16, 2) := by decide +kernel
theorem dX12_nightOn_52 : decode cX12_nightOn 52 = .ok (.iload_n 1, 1) := by decide +kernel
theorem dX12_nightOn_53 : decode cX12_nightOn 53 = .ok (.iadd, 1) := by decide +kernel
theorem dX12_nightOn_54 : decode cX12_nightOn 54 = .ok (.dup2, 1) := by decide +kernel
theorem dX12_nightOn_55 : decode cX12_nightOn 55 = .ok (.iaload, 1) := by decide +kernel
theorem dX12_nightOn_56 : decode cX12_nightOn 56 = .ok (.iconst 1, 1) := by decide +kernel
theorem dX12_nightOn_57 : decode cX12_nightOn 57 = .ok (.isub, 1) := by decide +kernel
theorem dX12_nightOn_58 : decode cX12_nightOn 58 = .ok (.iastore, 1) := by decide +kernel
theorem dX12_nightOn_59 : decode cX12_nightOn 59 = .ok (.aload_n 0, 1) := by decide +kernel
theorem dX12_nightOn_60 : decode cX12_nightOn 60 = .ok (.getfield 24, 3) := by decide +kernel
theorem dX12_nightOn_63 : decode cX12_nightOn 63 = .ok (.bipush 16, 2) := by decide +kernel
theorem dX12_nightOn_65 : decode cX12_nightOn 65 = .ok (.iload_n 1, 1) := by decide +kernel
theorem dX12_nightOn_66 : decode cX12_nightOn 66 = .ok (.iadd, 1) := by decide +kernel
theorem dX12_nightOn_67 : decode cX12_nightOn 67 = .ok (.iaload, 1) := by decide +kernel
theorem dX12_nightOn_68 : decode cX12_nightOn 68 = .ok (.ifCond .ne 13, 3) := by decide +kernel
theorem dX12_nightOn_71 : decode cX12_nightOn 71 = .ok (.aload_n 0, 1) := by decide +kernel
theorem dX12_nightOn_72 : decode cX12_nightOn 72 = .ok (.getfield 24, 3) := by decide +kernel
theorem dX12_nightOn_75 : decode cX12_nightOn 75 = .ok (.bipush 28, 2) := by decide +kernel
theorem dX12_nightOn_77 : decode cX12_nightOn 77 = .ok (.iload_n 1, 1) := by decide +kernel
theorem dX12_nightOn_78 : decode cX12_nightOn 78 = .ok (.iadd, 1) := by decide +kernel
theorem dX12_nightOn_79 : decode cX12_nightOn 79 = .ok (.iconst 0, 1) := by decide +kernel
theorem dX12_nightOn_80 : decode cX12_nightOn 80 = .ok (.iastore, 1) := by decide +kernel
theorem dX12_nightOn_81 : decode cX12_nightOn 81 = .ok (.iinc 1 1, 3) := by decide +kernel
theorem dX12_nightOn_84 : decode cX12_nightOn 84 = .ok (.goto (-64), 3) := by decide +kernel
theorem dX12_nightOn_87 : decode cX12_nightOn 87 = .ok (.aload_n 0, 1) := by decide +kernel
theorem dX12_nightOn_88 : decode cX12_nightOn 88 = .ok (.invokevirtual 89, 3) := by decide +kernel
theorem dX12_nightOn_91 : decode cX12_nightOn 91 = .ok (.ifCond .eq 11, 3) := by decide +kernel
theorem dX12_nightOn_94 : decode cX12_nightOn 94 = .ok (.aload_n 0, 1) := by decide +kernel
theorem dX12_nightOn_95 : decode cX12_nightOn 95 = .ok (.iconst 1, 1) := by decide +kernel
theorem dX12_nightOn_96 : decode cX12_nightOn 96 = .ok (.invokevirtual 98, 3) := by decide +kernel
theorem dX12_nightOn_99 : decode cX12_nightOn 99 = .ok (.goto 4, 3) := by decide +kernel
theorem dX12_nightOn_102 : decode cX12_nightOn 102 = .ok (.iconst (-1), 1) := by decide +kernel
theorem dX12_nightOn_103 : decode cX12_nightOn 103 = .ok (.istore_n 1, 1) := by decide +kernel
theorem dX12_nightOn_104 : decode cX12_nightOn 104 = .ok (.iload_n 1, 1) := by decide +kernel
theorem dX12_nightOn_105 : decode cX12_nightOn 105 = .ok (.iconst (-1), 1) := by decide +kernel
theorem dX12_nightOn_106 : decode cX12_nightOn 106 = .ok (.if_icmp .eq 13, 3) := by decide +kernel
theorem dX12_nightOn_109 : decode cX12_nightOn 109 = .ok (.aload_n 0, 1) := by decide +kernel
theorem dX12_nightOn_110 : decode cX12_nightOn 110 = .ok (.getfield 24, 3) := by decide +kernel
theorem dX12_nightOn_113 : decode cX12_nightOn 113 = .ok (.bipush 28, 2) := by decide +kernel
theorem dX12_nightOn_115 : decode cX12_nightOn 115 = .ok (.iload_n 1, 1) := by decide +kernel
theorem dX12_nightOn_116 : decode cX12_nightOn 116 = .ok (.iadd, 1) := by decide +kernel
theorem dX12_nightOn_117 : decode cX12_nightOn 117 = .ok (.iconst 1, 1) := by decide +kernel
theorem dX12_nightOn_118 : decode cX12_nightOn 118 = .ok (.iastore, 1) := by decide +kernel
theorem dX12_nightOn_119 : decode cX12_nightOn 119 = .ok (.return_, 1) := by decide +kernel
theorem dX12_goBy_0 : decode cX12_goBy 0 = .ok (.aload_n 0, 1) := by decide +kernel
theorem dX12_goBy_1 : decode cX12_goBy 1 = .ok (.getfield 24, 3) := by decide +kernel
theorem dX12_goBy_4 : decode cX12_goBy 4 = .ok (.iconst 3, 1) := by decide +kernel
theorem dX12_goBy_5 : decode cX12_goBy 5 = .ok (.dup2, 1) := by decide +kernel
theorem dX12_goBy_6 : decode cX12_goBy 6 = .ok (.iaload, 1) := by decide +kernel
theorem dX12_goBy_7 : decode cX12_goBy 7 = .ok (.iload_n 1, 1) := by decide +kernel
theorem dX12_goBy_8 : decode cX12_goBy 8 = .ok (.iadd, 1) := by decide +kernel
theorem dX12_goBy_9 : decode cX12_goBy 9 = .ok (.iastore, 1) := by decide +kernel
theorem dX12_goBy_10 : decode cX12_goBy 10 = .ok (.aload_n 0, 1) := by decide +kernel
theorem dX12_goBy_11 : decode cX12_goBy 11 = .ok (.getfield 24, 3) := by decide +kernel
theorem dX12_goBy_14 : decode cX12_goBy 14 = .ok (.iconst 3, 1) := by decide +kernel
theorem dX12_goBy_15 : decode cX12_goBy 15 = .ok (.iaload, 1) := by decide +kernel
theorem dX12_goBy_16 : decode cX12_goBy 16 = .ok (.bipush 120, 2) := by decide +kernel
theorem dX12_goBy_18 : decode cX12_goBy 18 = .ok (.if_icmp .lt 21, 3) := by decide +kernel
theorem dX12_goBy_21 : decode cX12_goBy 21 = .ok (.aload_n 0, 1) := by decide +kernel
theorem dX12_goBy_22 : decode cX12_goBy 22 = .ok (.getfield 24, 3) := by decide +kernel
theorem dX12_goBy_25 : decode cX12_goBy 25 = .ok (.iconst 3, 1) := by decide +kernel
theorem dX12_goBy_26 : decode cX12_goBy 26 = .ok (.dup2, 1) := by decide +kernel
theorem dX12_goBy_27 : decode cX12_goBy 27 = .ok (.iaload, 1) := by decide +kernel
theorem dX12_goBy_28 : decode cX12_goBy 28 = .ok (.bipush 120, 2) := by decide +kernel
theorem dX12_goBy_30 : decode cX12_goBy 30 = .ok (.isub, 1) := by decide +kernel
theorem dX12_goBy_31 : decode cX12_goBy 31 = .ok (.iastore, 1) := by decide +kernel
theorem dX12_goBy_32 : decode cX12_goBy 32 = .ok (.aload_n 0, 1) := by decide +kernel
theorem dX12_goBy_33 : decode cX12_goBy 33 = .ok (.invokevirtual 102, 3) := by decide +kernel
theorem dX12_goBy_36 : decode cX12_goBy 36 = .ok (.goto (-26), 3) := by decide +kernel
theorem dX12_goBy_39 : decode cX12_goBy 39 = .ok (.return_, 1) := by decide +kernel
theorem dX12_takes_0 : decode cX12_takes 0 = .ok (.iload_n 2, 1) := by decide +kernel
theorem dX12_takes_1 : decode cX12_takes 1 = .ok (.iconst (-1), 1) := by decide +kernel
theorem dX12_takes_2 : decode cX12_takes 2 = .ok (.if_icmp .ne 15, 3) := by decide +kernel
theorem dX12_takes_5 : decode cX12_takes 5 = .ok (.aload_n 0, 1) := by decide +kernel
theorem dX12_takes_6 : decode cX12_takes 6 = .ok (.getfield 20, 3) := by decide +kernel
theorem dX12_takes_9 : decode cX12_takes 9 = .ok (.getfield 105, 3) := by decide +kernel
theorem dX12_takes_12 : decode cX12_takes 12 = .ok (.iload_n 1, 1) := by decide +kernel
theorem dX12_takes_13 : decode cX12_takes 13 = .ok (.iaload, 1) := by decide +kernel
theorem dX12_takes_14 : decode cX12_takes 14 = .ok (.goto 24, 3) := by decide +kernel
theorem dX12_takes_17 : decode cX12_takes 17 = .ok (.aload_n 0, 1) := by decide +kernel
theorem dX12_takes_18 : decode cX12_takes 18 = .ok (.getfield 20, 3) := by decide +kernel
theorem dX12_takes_21 : decode cX12_takes 21 = .ok (.getfield 105, 3) := by decide +kernel
theorem dX12_takes_24 : decode cX12_takes 24 = .ok (.iload_n 1, 1) := by decide +kernel
theorem dX12_takes_25 : decode cX12_takes 25 = .ok (.iaload, 1) := by decide +kernel
theorem dX12_takes_26 : decode cX12_takes 26 = .ok (.aload_n 0, 1) := by decide +kernel
theorem dX12_takes_27 : decode cX12_takes 27 = .ok (.getfield 20, 3) := by decide +kernel
theorem dX12_takes_30 : decode cX12_takes 30 = .ok (.getfield 105, 3) := by decide +kernel
theorem dX12_takes_33 : decode cX12_takes 33 = .ok (.iload_n 2, 1) := by decide +kernel
theorem dX12_takes_34 : decode cX12_takes 34 = .ok (.iaload, 1) := by decide +kernel
theorem dX12_takes_35 : decode cX12_takes 35 = .ok (.invokestatic 92, 3) := by decide +kernel
theorem dX12_takes_38 : decode cX12_takes 38 = .ok (.ireturn, 1) := by decide +kernel
theorem dX12_isThere_0 : decode cX12_isThere 0 = .ok (.iload_n 1, 1) := by decide +kernel
theorem dX12_isThere_1 : decode cX12_isThere 1 = .ok (.iconst (-1), 1) := by decide +kernel
theorem dX12_isThere_2 : decode cX12_isThere 2 = .ok (.if_icmp .eq 21, 3) := by decide +kernel
theorem dX12_isThere_5 : decode cX12_isThere 5 = .ok (.aload_n 0, 1) := by decide +kernel
theorem dX12_isThere_6 : decode cX12_isThere 6 = .ok (.getfield 24, 3) := by decide +kernel
theorem dX12_isThere_9 : decode cX12_isThere 9 = .ok (.bipush 8, 2) := by decide +kernel
theorem dX12_isThere_11 : decode cX12_isThere 11 = .ok (.iload_n 1, 1) := by decide +kernel
theorem dX12_isThere_12 : decode cX12_isThere 12 = .ok (.iadd, 1) := by decide +kernel
theorem dX12_isThere_13 : decode cX12_isThere 13 = .ok (.iaload, 1) := by decide +kernel
theorem dX12_isThere_14 : decode cX12_isThere 14 = .ok (.aload_n 0, 1) := by decide +kernel
theorem dX12_isThere_15 : decode cX12_isThere 15 = .ok (.getfield 24, 3) := by decide +kernel
theorem dX12_isThere_18 : decode cX12_isThere 18 = .ok (.iconst 0, 1) := by decide +kernel
theorem dX12_isThere_19 : decode cX12_isThere 19 = .ok (.iaload, 1) := by decide +kernel
theorem dX12_isThere_20 : decode cX12_isThere 20 = .ok (.if_icmp .ne 7, 3) := by decide +kernel
theorem dX12_isThere_23 : decode cX12_isThere 23 = .ok (.iconst 1, 1) := by decide +kernel
theorem dX12_isThere_24 : decode cX12_isThere 24 = .ok (.goto 4, 3) := by decide +kernel
theorem dX12_isThere_27 : decode cX12_isThere 27 = .ok (.iconst 0, 1) := by decide +kernel
theorem dX12_isThere_28 : decode cX12_isThere 28 = .ok (.ireturn, 1) := by decide +kernel
theorem dX12_canCross_0 : decode cX12_canCross 0 = .ok (.aload_n 0, 1) := by decide +kernel
theorem dX12_canCross_1 : decode cX12_canCross 1 = .ok (.iload_n 1, 1) := by decide +kernel
theorem dX12_canCross_2 : decode cX12_canCross 2 = .ok (.iload_n 2, 1) := by decide +kernel
theorem dX12_canCross_3 : decode cX12_canCross 3 = .ok (.invokevirtual 108, 3) := by decide +kernel
theorem dX12_canCross_6 : decode cX12_canCross 6 = .ok (.istore_n 3, 1) := by decide +kernel
theorem dX12_canCross_7 : decode cX12_canCross 7 = .ok (.aload_n 0, 1) := by decide +kernel
theorem dX12_canCross_8 : decode cX12_canCross 8 = .ok (.iload_n 1, 1) := by decide +kernel
theorem dX12_canCross_9 : decode cX12_canCross 9 = .ok (.invokevirtual 111, 3) := by decide +kernel
theorem dX12_canCross_12 : decode cX12_canCross 12 = .ok (.ifCond .eq 45, 3) := by decide +kernel
theorem dX12_canCross_15 : decode cX12_canCross 15 = .ok (.aload_n 0, 1) := by decide +kernel
theorem dX12_canCross_16 : decode cX12_canCross 16 = .ok (.iload_n 2, 1) := by decide +kernel
theorem dX12_canCross_17 : decode cX12_canCross 17 = .ok (.invokevirtual 111, 3) := by decide +kernel
theorem dX12_canCross_20 : decode cX12_canCross 20 = .ok (.ifCond .eq 37, 3) := by decide +kernel
theorem dX12_canCross_23 : decode cX12_canCross 23 = .ok (.aload_n 0, 1) := by decide +kernel
theorem dX12_canCross_24 : decode cX12_canCross 24 = .ok (.invokevirtual 115, 3) := by decide +kernel
theorem dX12_canCross_27 : decode cX12_canCross 27 = .ok (.ifCond .eq 30, 3) := by decide +kernel
theorem dX12_canCross_30 : decode cX12_canCross 30 = .ok (.aload_n 0, 1) := by decide +kernel
theorem dX12_canCross_31 : decode cX12_canCross 31 = .ok (.getfield 24, 3) := by decide +kernel
theorem dX12_canCross_34 : decode cX12_canCross 34 = .ok (.iconst 1, 1) := by decide +kernel
theorem dX12_canCross_35 : decode cX12_canCross 35 = .ok (.iaload, 1) := by decide +kernel
theorem dX12_canCross_36 : decode cX12_canCross 36 = .ok (.iload_n 3, 1) := by decide +kernel
theorem dX12_canCross_37 : decode cX12_canCross 37 = .ok (.if_icmp .lt 20, 3) := by decide +kernel
theorem dX12_canCross_40 : decode cX12_canCross 40 = .ok (.aload_n 0, 1) := by decide +kernel
theorem dX12_canCross_41 : decode cX12_canCross 41 = .ok (.getfield 24, 3) := by decide +kernel
theorem dX12_canCross_44 : decode cX12_canCross 44 = .ok (.iconst 3, 1) := by decide +kernel
theorem dX12_canCross_45 : decode cX12_canCross 45 = .ok (.iaload, 1) := by decide +kernel
theorem dX12_canCross_46 : decode cX12_canCross 46 = .ok (.iload_n 3, 1) := by decide +kernel
theorem dX12_canCross_47 : decode cX12_canCross 47 = .ok (.iadd, 1) := by decide +kernel
theorem dX12_canCross_48 : decode cX12_canCross 48 = .ok (.bipush 120, 2) := by decide +kernel
theorem dX12_canCross_50 : decode cX12_canCross 50 = .ok (.if_icmp .gt 7, 3) := by decide +kernel
theorem dX12_canCross_53 : decode cX12_canCross 53 = .ok (.iconst 1, 1) := by decide +kernel
theorem dX12_canCross_54 : decode cX12_canCross 54 = .ok (.goto 4, 3) := by decide +kernel
theorem dX12_canCross_57 : decode cX12_canCross 57 = .ok (.iconst 0, 1) := by decide +kernel
theorem dX12_canCross_58 : decode cX12_canCross 58 = .ok (.ireturn, 1) := by decide +kernel
theorem dX12_steps_0 : decode cX12_steps 0 = .ok (.iconst 0, 1) := by decide +kernel
theorem dX12_steps_1 : decode cX12_steps 1 = .ok (.istore_n 2, 1) := by decide +kernel
theorem dX12_steps_2 : decode cX12_steps 2 = .ok (.iconst 0, 1) := by decide +kernel
theorem dX12_steps_3 : decode cX12_steps 3 = .ok (.istore_n 3, 1) := by decide +kernel
theorem dX12_steps_4 : decode cX12_steps 4 = .ok (.iload_n 3, 1) := by decide +kernel
theorem dX12_steps_5 : decode cX12_steps 5 = .ok (.aload_n 0, 1) := by decide +kernel
theorem dX12_steps_6 : decode cX12_steps 6 = .ok (.getfield 20, 3) := by decide +kernel
theorem dX12_steps_9 : decode cX12_steps 9 = .ok (.getfield 37, 3) := by decide +kernel
theorem dX12_steps_12 : decode cX12_steps 12 = .ok (.if_icmp .ge 168, 3) := by decide +kernel
theorem dX12_steps_15 : decode cX12_steps 15 = .ok (.aload_n 0, 1) := by decide +kernel
theorem dX12_steps_16 : decode cX12_steps 16 = .ok (.getfield 24, 3) := by decide +kernel
theorem dX12_steps_19 : decode cX12_steps 19 = .ok (.iconst 0, 1) := by decide +kernel
theorem dX12_steps_20 : decode cX12_steps 20 = .ok (.iaload, 1) := by decide +kernel
theorem dX12_steps_21 : decode cX12_steps 21 = .ok (.ifCond .ne 7, 3) := by decide +kernel
theorem dX12_steps_24 : decode cX12_steps 24 = .ok (.iload_n 3, 1) := by decide +kernel
theorem dX12_steps_25 : decode cX12_steps 25 = .ok (.goto 14, 3) := by decide +kernel
theorem dX12_steps_28 : decode cX12_steps 28 = .ok (.aload_n 0, 1) := by decide +kernel
theorem dX12_steps_29 : decode cX12_steps 29 = .ok (.getfield 20, 3) := by decide +kernel
theorem dX12_steps_32 : decode cX12_steps 32 = .ok (.getfield 37, 3) := by decide +kernel
theorem dX12_steps_35 : decode cX12_steps 35 = .ok (.iconst 1, 1) := by decide +kernel
theorem dX12_steps_36 : decode cX12_steps 36 = .ok (.isub, 1) := by decide +kernel
theorem dX12_steps_37 : decode cX12_steps 37 = .ok (.iload_n 3, 1) := by decide +kernel
theorem dX12_steps_38 : decode cX12_steps 38 = .ok (.isub, 1) := by decide +kernel
theorem dX12_steps_39 : decode cX12_steps 39 = .ok (.istore 4, 2) := by decide +kernel
theorem dX12_steps_41 : decode cX12_steps 41 = .ok (.aload_n 0, 1) := by decide +kernel
theorem dX12_steps_42 : decode cX12_steps 42 = .ok (.iload 4, 2) := by decide +kernel
theorem dX12_steps_44 : decode cX12_steps 44 = .ok (.invokevirtual 118, 3) := by decide +kernel
theorem dX12_steps_47 : decode cX12_steps 47 = .ok (.istore 5, 2) := by decide +kernel
theorem dX12_steps_49 : decode cX12_steps 49 = .ok (.aload_n 0, 1) := by decide +kernel
theorem dX12_steps_50 : decode cX12_steps 50 = .ok (.getfield 24, 3) := by decide +kernel
theorem dX12_steps_53 : decode cX12_steps 53 = .ok (.bipush 16, 2) := by decide +kernel
theorem dX12_steps_55 : decode cX12_steps 55 = .ok (.iload 4, 2) := by decide +kernel
theorem dX12_steps_57 : decode cX12_steps 57 = .ok (.iadd, 1) := by decide +kernel
theorem dX12_steps_58 : decode cX12_steps 58 = .ok (.iaload, 1) := by decide +kernel
theorem dX12_steps_59 : decode cX12_steps 59 = .ok (.ifCond .le 34, 3) := by decide +kernel
theorem dX12_steps_62 : decode cX12_steps 62 = .ok (.iload 5, 2) := by decide +kernel
theorem dX12_steps_64 : decode cX12_steps 64 = .ok (.iload_n 1, 1) := by decide +kernel
theorem dX12_steps_65 : decode cX12_steps 65 = .ok (.if_icmp .ge 28, 3) := by decide +kernel
theorem dX12_steps_68 : decode cX12_steps 68 = .ok (.aload_n 0, 1) := by decide +kernel
theorem dX12_steps_69 : decode cX12_steps 69 = .ok (.getfield 24, 3) := by decide +kernel
theorem dX12_steps_72 : decode cX12_steps 72 = .ok (.bipush 16, 2) := by decide +kernel
theorem dX12_steps_74 : decode cX12_steps 74 = .ok (.iload 4, 2) := by decide +kernel
theorem dX12_steps_76 : decode cX12_steps 76 = .ok (.iadd, 1) := by decide +kernel
theorem dX12_steps_77 : decode cX12_steps 77 = .ok (.iconst 0, 1) := by decide +kernel
theorem dX12_steps_78 : decode cX12_steps 78 = .ok (.iastore, 1) := by decide +kernel
theorem dX12_steps_79 : decode cX12_steps 79 = .ok (.aload_n 0, 1) := by decide +kernel
theorem dX12_steps_80 : decode cX12_steps 80 = .ok (.getfield 24, 3) := by decide +kernel
theorem dX12_steps_83 : decode cX12_steps 83 = .ok (.bipush 28, 2) := by decide +kernel
theorem dX12_steps_85 : decode cX12_steps 85 = .ok (.iload 4, 2) := by decide +kernel
theorem dX12_steps_87 : decode cX12_steps 87 = .ok (.iadd, 1) := by decide +kernel
theorem dX12_steps_88 : decode cX12_steps 88 = .ok (.iconst 0, 1) := by decide +kernel
theorem dX12_steps_89 : decode cX12_steps 89 = .ok (.iastore, 1) := by decide +kernel
theorem dX12_steps_90 : decode cX12_steps 90 = .ok (.goto 50, 3) := by decide +kernel
theorem dX12_steps_93 : decode cX12_steps 93 = .ok (.aload_n 0, 1) := by decide +kernel
theorem dX12_steps_94 : decode cX12_steps 94 = .ok (.getfield 24, 3) := by decide +kernel
theorem dX12_steps_97 : decode cX12_steps 97 = .ok (.bipush 16, 2) := by decide +kernel
theorem dX12_steps_99 : decode cX12_steps 99 = .ok (.iload 4, 2) := by decide +kernel
theorem dX12_steps_101 : decode cX12_steps 101 = .ok (.iadd, 1) := by decide +kernel
theorem dX12_steps_102 : decode cX12_steps 102 = .ok (.iaload, 1) := by decide +kernel
theorem dX12_steps_103 : decode cX12_steps 103 = .ok (.ifCond .le 37, 3) := by decide +kernel
theorem dX12_steps_106 : decode cX12_steps 106 = .ok (.iload 5, 2) := by decide +kernel
theorem dX12_steps_108 : decode cX12_steps 108 = .ok (.iconst 2, 1) := by decide +kernel
theorem dX12_steps_109 : decode cX12_steps 109 = .ok (.iload_n 1, 1) := by decide +kernel
theorem dX12_steps_110 : decode cX12_steps 110 = .ok (.imul, 1) := by decide +kernel
theorem dX12_steps_111 : decode cX12_steps 111 = .ok (.if_icmp .ge 29, 3) := by decide +kernel
theorem dX12_steps_114 : decode cX12_steps 114 = .ok (.aload_n 0, 1) := by decide +kernel
theorem dX12_steps_115 : decode cX12_steps 115 = .ok (.getfield 24, 3) := by decide +kernel
theorem dX12_steps_118 : decode cX12_steps 118 = .ok (.bipush 16, 2) := by decide +kernel
theorem dX12_steps_120 : decode cX12_steps 120 = .ok (.iload 4, 2) := by decide +kernel
theorem dX12_steps_122 : decode cX12_steps 122 = .ok (.iadd, 1) := by decide +kernel
theorem dX12_steps_123 : decode cX12_steps 123 = .ok (.iconst 1, 1) := by decide +kernel
theorem dX12_steps_124 : decode cX12_steps 124 = .ok (.aload_n 0, 1) := by decide +kernel
theorem dX12_steps_125 : decode cX12_steps 125 = .ok (.getfield 24, 3) := by decide +kernel
theorem dX12_steps_128 : decode cX12_steps 128 = .ok (.bipush 16, 2) := by decide +kernel
theorem dX12_steps_130 : decode cX12_steps 130 = .ok (.iload 4, 2) := by decide +kernel
theorem dX12_steps_132 : decode cX12_steps 132 = .ok (.iadd, 1) := by decide +kernel
theorem dX12_steps_133 : decode cX12_steps 133 = .ok (.iaload, 1) := by decide +kernel
theorem dX12_steps_134 : decode cX12_steps 134 = .ok (.iconst 1, 1) := by decide +kernel
theorem dX12_steps_135 : decode cX12_steps 135 = .ok (.isub, 1) := by decide +kernel
theorem dX12_steps_136 : decode cX12_steps 136 = .ok (.invokestatic 92, 3) := by decide +kernel
theorem dX12_steps_139 : decode cX12_steps 139 = .ok (.iastore, 1) := by decide +kernel
theorem dX12_steps_140 : decode cX12_steps 140 = .ok (.aload_n 0, 1) := by decide +kernel
theorem dX12_steps_141 : decode cX12_steps 141 = .ok (.getfield 24, 3) := by decide +kernel
theorem dX12_steps_144 : decode cX12_steps 144 = .ok (.bipush 16, 2) := by decide +kernel
theorem dX12_steps_146 : decode cX12_steps 146 = .ok (.iload 4, 2) := by decide +kernel
theorem dX12_steps_148 : decode cX12_steps 148 = .ok (.iadd, 1) := by decide +kernel
theorem dX12_steps_149 : decode cX12_steps 149 = .ok (.iaload, 1) := by decide +kernel
theorem dX12_steps_150 : decode cX12_steps 150 = .ok (.ifCond .ne 7, 3) := by decide +kernel
theorem dX12_steps_153 : decode cX12_steps 153 = .ok (.iconst 1, 1) := by decide +kernel
theorem dX12_steps_154 : decode cX12_steps 154 = .ok (.goto 4, 3) := by decide +kernel
theorem dX12_steps_157 : decode cX12_steps 157 = .ok (.iconst 0, 1) := by decide +kernel
theorem dX12_steps_158 : decode cX12_steps 158 = .ok (.istore 6, 2) := by decide +kernel
theorem dX12_steps_160 : decode cX12_steps 160 = .ok (.iload 6, 2) := by decide +kernel
theorem dX12_steps_162 : decode cX12_steps 162 = .ok (.ifCond .eq 9, 3) := by decide +kernel
theorem dX12_steps_165 : decode cX12_steps 165 = .ok (.iload_n 2, 1) := by decide +kernel
theorem dX12_steps_166 : decode cX12_steps 166 = .ok (.ifCond .eq 5, 3) := by decide +kernel
theorem dX12_steps_169 : decode cX12_steps 169 = .ok (.iconst 0, 1) := by decide +kernel
theorem dX12_steps_170 : decode cX12_steps 170 = .ok (.ireturn, 1) := by decide +kernel
theorem dX12_steps_171 : decode cX12_steps 171 = .ok (.iload 6, 2) := by decide +kernel
theorem dX12_steps_173 : decode cX12_steps 173 = .ok (.istore_n 2, 1) := by decide +kernel
theorem dX12_steps_174 : decode cX12_steps 174 = .ok (.iinc 3 1, 3) := by decide +kernel
theorem dX12_steps_177 : decode cX12_steps 177 = .ok (.goto (-173), 3) := by decide +kernel
theorem dX12_steps_180 : decode cX12_steps 180 = .ok (.iconst 1, 1) := by decide +kernel
theorem dX12_steps_181 : decode cX12_steps 181 = .ok (.ireturn, 1) := by decide +kernel
theorem dX12_cross_0 : decode cX12_cross 0 = .ok (.aload_n 0, 1) := by decide +kernel
theorem dX12_cross_1 : decode cX12_cross 1 = .ok (.iload_n 1, 1) := by decide +kernel
theorem dX12_cross_2 : decode cX12_cross 2 = .ok (.iload_n 2, 1) := by decide +kernel
theorem dX12_cross_3 : decode cX12_cross 3 = .ok (.invokevirtual 108, 3) := by decide +kernel
theorem dX12_cross_6 : decode cX12_cross 6 = .ok (.istore_n 3, 1) := by decide +kernel
theorem dX12_cross_7 : decode cX12_cross 7 = .ok (.aload_n 0, 1) := by decide +kernel
theorem dX12_cross_8 : decode cX12_cross 8 = .ok (.aload_n 0, 1) := by decide +kernel
theorem dX12_cross_9 : decode cX12_cross 9 = .ok (.getfield 20, 3) := by decide +kernel
theorem dX12_cross_12 : decode cX12_cross 12 = .ok (.getfield 121, 3) := by decide +kernel
theorem dX12_cross_15 : decode cX12_cross 15 = .ok (.iload_n 1, 1) := by decide +kernel
theorem dX12_cross_16 : decode cX12_cross 16 = .ok (.iaload, 1) := by decide +kernel
theorem dX12_cross_17 : decode cX12_cross 17 = .ok (.iload_n 2, 1) := by decide +kernel
theorem dX12_cross_18 : decode cX12_cross 18 = .ok (.iconst (-1), 1) := by decide +kernel
theorem dX12_cross_19 : decode cX12_cross 19 = .ok (.if_icmp .ne 7, 3) := by decide +kernel
theorem dX12_cross_22 : decode cX12_cross 22 = .ok (.iconst 0, 1) := by decide +kernel
theorem dX12_cross_23 : decode cX12_cross 23 = .ok (.goto 12, 3) := by decide +kernel
theorem dX12_cross_26 : decode cX12_cross 26 = .ok (.aload_n 0, 1) := by decide +kernel
theorem dX12_cross_27 : decode cX12_cross 27 = .ok (.getfield 20, 3) := by decide +kernel
theorem dX12_cross_30 : decode cX12_cross 30 = .ok (.getfield 121, 3) := by decide +kernel
theorem dX12_cross_33 : decode cX12_cross 33 = .ok (.iload_n 2, 1) := by decide +kernel
theorem dX12_cross_34 : decode cX12_cross 34 = .ok (.iaload, 1) := by decide +kernel
theorem dX12_cross_35 : decode cX12_cross 35 = .ok (.iadd, 1) := by decide +kernel
theorem dX12_cross_36 : decode cX12_cross 36 = .ok (.invokevirtual 124, 3) := by decide +kernel
theorem dX12_cross_39 : decode cX12_cross 39 = .ok (.istore 4, 2) := by decide +kernel
theorem dX12_cross_41 : decode cX12_cross 41 = .ok (.iload 4, 2) := by decide +kernel
theorem dX12_cross_43 : decode cX12_cross 43 = .ok (.ifCond .eq 65, 3) := by decide +kernel
theorem dX12_cross_46 : decode cX12_cross 46 = .ok (.aload_n 0, 1) := by decide +kernel
theorem dX12_cross_47 : decode cX12_cross 47 = .ok (.getfield 24, 3) := by decide +kernel
theorem dX12_cross_50 : decode cX12_cross 50 = .ok (.iconst 0, 1) := by decide +kernel
theorem dX12_cross_51 : decode cX12_cross 51 = .ok (.iconst 1, 1) := by decide +kernel
theorem dX12_cross_52 : decode cX12_cross 52 = .ok (.aload_n 0, 1) := by decide +kernel
theorem dX12_cross_53 : decode cX12_cross 53 = .ok (.getfield 24, 3) := by decide +kernel
theorem dX12_cross_56 : decode cX12_cross 56 = .ok (.iconst 0, 1) := by decide +kernel
theorem dX12_cross_57 : decode cX12_cross 57 = .ok (.iaload, 1) := by decide +kernel
theorem dX12_cross_58 : decode cX12_cross 58 = .ok (.isub, 1) := by decide +kernel
theorem dX12_cross_59 : decode cX12_cross 59 = .ok (.iastore, 1) := by decide +kernel
theorem dX12_cross_60 : decode cX12_cross 60 = .ok (.aload_n 0, 1) := by decide +kernel
theorem dX12_cross_61 : decode cX12_cross 61 = .ok (.getfield 24, 3) := by decide +kernel
theorem dX12_cross_64 : decode cX12_cross 64 = .ok (.bipush 8, 2) := by decide +kernel
theorem dX12_cross_66 : decode cX12_cross 66 = .ok (.iload_n 1, 1) := by decide +kernel
theorem dX12_cross_67 : decode cX12_cross 67 = .ok (.iadd, 1) := by decide +kernel
theorem dX12_cross_68 : decode cX12_cross 68 = .ok (.aload_n 0, 1) := by decide +kernel
theorem dX12_cross_69 : decode cX12_cross 69 = .ok (.getfield 24, 3) := by decide +kernel
theorem dX12_cross_72 : decode cX12_cross 72 = .ok (.iconst 0, 1) := by decide +kernel
theorem dX12_cross_73 : decode cX12_cross 73 = .ok (.iaload, 1) := by decide +kernel
theorem dX12_cross_74 : decode cX12_cross 74 = .ok (.iastore, 1) := by decide +kernel
theorem dX12_cross_75 : decode cX12_cross 75 = .ok (.iload_n 2, 1) := by decide +kernel
theorem dX12_cross_76 : decode cX12_cross 76 = .ok (.iconst (-1), 1) := by decide +kernel
theorem dX12_cross_77 : decode cX12_cross 77 = .ok (.if_icmp .eq 18, 3) := by decide +kernel
theorem dX12_cross_80 : decode cX12_cross 80 = .ok (.aload_n 0, 1) := by decide +kernel
theorem dX12_cross_81 : decode cX12_cross 81 = .ok (.getfield 24, 3) := by decide +kernel
theorem dX12_cross_84 : decode cX12_cross 84 = .ok (.bipush 8, 2) := by decide +kernel
theorem dX12_cross_86 : decode cX12_cross 86 = .ok (.iload_n 2, 1) := by decide +kernel
theorem dX12_cross_87 : decode cX12_cross 87 = .ok (.iadd, 1) := by decide +kernel
theorem dX12_cross_88 : decode cX12_cross 88 = .ok (.aload_n 0, 1) := by decide +kernel
theorem dX12_cross_89 : decode cX12_cross 89 = .ok (.getfield 24, 3) := by decide +kernel
theorem dX12_cross_92 : decode cX12_cross 92 = .ok (.iconst 0, 1) := by decide +kernel
theorem dX12_cross_93 : decode cX12_cross 93 = .ok (.iaload, 1) := by decide +kernel
theorem dX12_cross_94 : decode cX12_cross 94 = .ok (.iastore, 1) := by decide +kernel
theorem dX12_cross_95 : decode cX12_cross 95 = .ok (.aload_n 0, 1) := by decide +kernel
theorem dX12_cross_96 : decode cX12_cross 96 = .ok (.getfield 24, 3) := by decide +kernel
theorem dX12_cross_99 : decode cX12_cross 99 = .ok (.iconst 4, 1) := by decide +kernel
theorem dX12_cross_100 : decode cX12_cross 100 = .ok (.dup2, 1) := by decide +kernel
theorem dX12_cross_101 : decode cX12_cross 101 = .ok (.iaload, 1) := by decide +kernel
theorem dX12_cross_102 : decode cX12_cross 102 = .ok (.iconst 1, 1) := by decide +kernel
theorem dX12_cross_103 : decode cX12_cross 103 = .ok (.iadd, 1) := by decide +kernel
theorem dX12_cross_104 : decode cX12_cross 104 = .ok (.iastore, 1) := by decide +kernel
theorem dX12_cross_105 : decode cX12_cross 105 = .ok (.goto 13, 3) := by decide +kernel
theorem dX12_cross_108 : decode cX12_cross 108 = .ok (.aload_n 0, 1) := by decide +kernel
theorem dX12_cross_109 : decode cX12_cross 109 = .ok (.getfield 24, 3) := by decide +kernel
theorem dX12_cross_112 : decode cX12_cross 112 = .ok (.iconst 5, 1) := by decide +kernel
theorem dX12_cross_113 : decode cX12_cross 113 = .ok (.dup2, 1) := by decide +kernel
theorem dX12_cross_114 : decode cX12_cross 114 = .ok (.iaload, 1) := by decide +kernel
theorem dX12_cross_115 : decode cX12_cross 115 = .ok (.iconst 1, 1) := by decide +kernel
theorem dX12_cross_116 : decode cX12_cross 116 = .ok (.iadd, 1) := by decide +kernel
theorem dX12_cross_117 : decode cX12_cross 117 = .ok (.iastore, 1) := by decide +kernel
theorem dX12_cross_118 : decode cX12_cross 118 = .ok (.aload_n 0, 1) := by decide +kernel
theorem dX12_cross_119 : decode cX12_cross 119 = .ok (.getfield 24, 3) := by decide +kernel
theorem dX12_cross_122 : decode cX12_cross 122 = .ok (.iconst 1, 1) := by decide +kernel
theorem dX12_cross_123 : decode cX12_cross 123 = .ok (.dup2, 1) := by decide +kernel
theorem dX12_cross_124 : decode cX12_cross 124 = .ok (.iaload, 1) := by decide +kernel
theorem dX12_cross_125 : decode cX12_cross 125 = .ok (.iload_n 3, 1) := by decide +kernel
theorem dX12_cross_126 : decode cX12_cross 126 = .ok (.isub, 1) := by decide +kernel
theorem dX12_cross_127 : decode cX12_cross 127 = .ok (.iastore, 1) := by decide +kernel
theorem dX12_cross_128 : decode cX12_cross 128 = .ok (.aload_n 0, 1) := by decide +kernel
theorem dX12_cross_129 : decode cX12_cross 129 = .ok (.iload_n 3, 1) := by decide +kernel
theorem dX12_cross_130 : decode cX12_cross 130 = .ok (.invokevirtual 127, 3) := by decide +kernel
theorem dX12_cross_133 : decode cX12_cross 133 = .ok (.iload 4, 2) := by decide +kernel
theorem dX12_cross_135 : decode cX12_cross 135 = .ok (.ireturn, 1) := by decide +kernel
theorem dX12_near_0 : decode cX12_near 0 = .ok (.iconst 0, 1) := by decide +kernel
theorem dX12_near_1 : decode cX12_near 1 = .ok (.istore_n 1, 1) := by decide +kernel
theorem dX12_near_2 : decode cX12_near 2 = .ok (.iconst 0, 1) := by decide +kernel
theorem dX12_near_3 : decode cX12_near 3 = .ok (.istore_n 2, 1) := by decide +kernel
theorem dX12_near_4 : decode cX12_near 4 = .ok (.iload_n 2, 1) := by decide +kernel
theorem dX12_near_5 : decode cX12_near 5 = .ok (.aload_n 0, 1) := by decide +kernel
theorem dX12_near_6 : decode cX12_near 6 = .ok (.getfield 20, 3) := by decide +kernel
theorem dX12_near_9 : decode cX12_near 9 = .ok (.getfield 131, 3) := by decide +kernel
theorem dX12_near_12 : decode cX12_near 12 = .ok (.if_icmp .ge 23, 3) := by decide +kernel
theorem dX12_near_15 : decode cX12_near 15 = .ok (.iload_n 1, 1) := by decide +kernel
theorem dX12_near_16 : decode cX12_near 16 = .ok (.iconst 1, 1) := by decide +kernel
theorem dX12_near_17 : decode cX12_near 17 = .ok (.aload_n 0, 1) := by decide +kernel
theorem dX12_near_18 : decode cX12_near 18 = .ok (.getfield 24, 3) := by decide +kernel
theorem dX12_near_21 : decode cX12_near 21 = .ok (.bipush 8, 2) := by decide +kernel
theorem dX12_near_23 : decode cX12_near 23 = .ok (.iload_n 2, 1) := by decide +kernel
theorem dX12_near_24 : decode cX12_near 24 = .ok (.iadd, 1) := by decide +kernel
theorem dX12_near_25 : decode cX12_near 25 = .ok (.iaload, 1) := by decide +kernel
theorem dX12_near_26 : decode cX12_near 26 = .ok (.isub, 1) := by decide +kernel
theorem dX12_near_27 : decode cX12_near 27 = .ok (.iadd, 1) := by decide +kernel
theorem dX12_near_28 : decode cX12_near 28 = .ok (.istore_n 1, 1) := by decide +kernel
theorem dX12_near_29 : decode cX12_near 29 = .ok (.iinc 2 1, 3) := by decide +kernel
theorem dX12_near_32 : decode cX12_near 32 = .ok (.goto (-28), 3) := by decide +kernel
theorem dX12_near_35 : decode cX12_near 35 = .ok (.iload_n 1, 1) := by decide +kernel
theorem dX12_near_36 : decode cX12_near 36 = .ok (.ireturn, 1) := by decide +kernel
theorem dX12_value_0 : decode cX12_value 0 = .ok (.iload_n 1, 1) := by decide +kernel
theorem dX12_value_1 : decode cX12_value 1 = .ok (.tableswitch 114 (-7) (-1) #[87, 82, 75, 68, 61, 48, 43], 43) := by decide +kernel
theorem dX12_value_44 : decode cX12_value 44 = .ok (.aload_n 0, 1) := by decide +kernel
theorem dX12_value_45 : decode cX12_value 45 = .ok (.invokevirtual 134, 3) := by decide +kernel
theorem dX12_value_48 : decode cX12_value 48 = .ok (.ireturn, 1) := by decide +kernel
theorem dX12_value_49 : decode cX12_value 49 = .ok (.aload_n 0, 1) := by decide +kernel
theorem dX12_value_50 : decode cX12_value 50 = .ok (.getfield 20, 3) := by decide +kernel
theorem dX12_value_53 : decode cX12_value 53 = .ok (.getfield 131, 3) := by decide +kernel
theorem dX12_value_56 : decode cX12_value 56 = .ok (.aload_n 0, 1) := by decide +kernel
theorem dX12_value_57 : decode cX12_value 57 = .ok (.invokevirtual 134, 3) := by decide +kernel
theorem dX12_value_60 : decode cX12_value 60 = .ok (.isub, 1) := by decide +kernel
theorem dX12_value_61 : decode cX12_value 61 = .ok (.ireturn, 1) := by decide +kernel
theorem dX12_value_62 : decode cX12_value 62 = .ok (.aload_n 0, 1) := by decide +kernel
theorem dX12_value_63 : decode cX12_value 63 = .ok (.getfield 24, 3) := by decide +kernel
theorem dX12_value_66 : decode cX12_value 66 = .ok (.iconst 1, 1) := by decide +kernel
theorem dX12_value_67 : decode cX12_value 67 = .ok (.iaload, 1) := by decide +kernel
theorem dX12_value_68 : decode cX12_value 68 = .ok (.ireturn, 1) := by decide +kernel
theorem dX12_value_69 : decode cX12_value 69 = .ok (.aload_n 0, 1) := by decide +kernel
theorem dX12_value_70 : decode cX12_value 70 = .ok (.getfield 24, 3) := by decide +kernel
theorem dX12_value_73 : decode cX12_value 73 = .ok (.iconst 3, 1) := by decide +kernel
theorem dX12_value_74 : decode cX12_value 74 = .ok (.iaload, 1) := by decide +kernel
theorem dX12_value_75 : decode cX12_value 75 = .ok (.ireturn, 1) := by decide +kernel
theorem dX12_value_76 : decode cX12_value 76 = .ok (.aload_n 0, 1) := by decide +kernel
theorem dX12_value_77 : decode cX12_value 77 = .ok (.getfield 24, 3) := by decide +kernel
theorem dX12_value_80 : decode cX12_value 80 = .ok (.iconst 2, 1) := by decide +kernel
theorem dX12_value_81 : decode cX12_value 81 = .ok (.iaload, 1) := by decide +kernel
theorem dX12_value_82 : decode cX12_value 82 = .ok (.ireturn, 1) := by decide +kernel
theorem dX12_value_83 : decode cX12_value 83 = .ok (.aload_n 0, 1) := by decide +kernel
theorem dX12_value_84 : decode cX12_value 84 = .ok (.invokevirtual 138, 3) := by decide +kernel
theorem dX12_value_87 : decode cX12_value 87 = .ok (.ireturn, 1) := by decide +kernel
theorem dX12_value_88 : decode cX12_value 88 = .ok (.aload_n 0, 1) := by decide +kernel
theorem dX12_value_89 : decode cX12_value 89 = .ok (.iconst 0, 1) := by decide +kernel
theorem dX12_value_90 : decode cX12_value 90 = .ok (.invokevirtual 98, 3) := by decide +kernel
theorem dX12_value_93 : decode cX12_value 93 = .ok (.iconst (-1), 1) := by decide +kernel
theorem dX12_value_94 : decode cX12_value 94 = .ok (.if_icmp .ne 7, 3) := by decide +kernel
theorem dX12_value_97 : decode cX12_value 97 = .ok (.iconst 0, 1) := by decide +kernel
theorem dX12_value_98 : decode cX12_value 98 = .ok (.goto 16, 3) := by decide +kernel
theorem dX12_value_101 : decode cX12_value 101 = .ok (.aload_n 0, 1) := by decide +kernel
theorem dX12_value_102 : decode cX12_value 102 = .ok (.getfield 24, 3) := by decide +kernel
theorem dX12_value_105 : decode cX12_value 105 = .ok (.bipush 16, 2) := by decide +kernel
theorem dX12_value_107 : decode cX12_value 107 = .ok (.aload_n 0, 1) := by decide +kernel
theorem dX12_value_108 : decode cX12_value 108 = .ok (.iconst 0, 1) := by decide +kernel
theorem dX12_value_109 : decode cX12_value 109 = .ok (.invokevirtual 98, 3) := by decide +kernel
theorem dX12_value_112 : decode cX12_value 112 = .ok (.iadd, 1) := by decide +kernel
theorem dX12_value_113 : decode cX12_value 113 = .ok (.iaload, 1) := by decide +kernel
theorem dX12_value_114 : decode cX12_value 114 = .ok (.ireturn, 1) := by decide +kernel
theorem dX12_value_115 : decode cX12_value 115 = .ok (.iload_n 1, 1) := by decide +kernel
theorem dX12_value_116 : decode cX12_value 116 = .ok (.ireturn, 1) := by decide +kernel
theorem dX12_areSo_0 : decode cX12_areSo 0 = .ok (.iconst 4, 1) := by decide +kernel
theorem dX12_areSo_1 : decode cX12_areSo 1 = .ok (.iload_n 1, 1) := by decide +kernel
theorem dX12_areSo_2 : decode cX12_areSo 2 = .ok (.imul, 1) := by decide +kernel
theorem dX12_areSo_3 : decode cX12_areSo 3 = .ok (.istore_n 2, 1) := by decide +kernel
theorem dX12_areSo_4 : decode cX12_areSo 4 = .ok (.iconst 0, 1) := by decide +kernel
theorem dX12_areSo_5 : decode cX12_areSo 5 = .ok (.istore_n 3, 1) := by decide +kernel
theorem dX12_areSo_6 : decode cX12_areSo 6 = .ok (.iload_n 3, 1) := by decide +kernel
theorem dX12_areSo_7 : decode cX12_areSo 7 = .ok (.ifCond .ne 118, 3) := by decide +kernel
theorem dX12_areSo_10 : decode cX12_areSo 10 = .ok (.aload_n 0, 1) := by decide +kernel
theorem dX12_areSo_11 : decode cX12_areSo 11 = .ok (.aload_n 0, 1) := by decide +kernel
theorem dX12_areSo_12 : decode cX12_areSo 12 = .ok (.getfield 20, 3) := by decide +kernel
theorem dX12_areSo_15 : decode cX12_areSo 15 = .ok (.getfield 141, 3) := by decide +kernel
theorem dX12_areSo_18 : decode cX12_areSo 18 = .ok (.iload_n 2, 1) := by decide +kernel
theorem dX12_areSo_19 : decode cX12_areSo 19 = .ok (.iaload, 1) := by decide +kernel
theorem dX12_areSo_20 : decode cX12_areSo 20 = .ok (.invokevirtual 144, 3) := by decide +kernel
theorem dX12_areSo_23 : decode cX12_areSo 23 = .ok (.istore 4, 2) := by decide +kernel
theorem dX12_areSo_25 : decode cX12_areSo 25 = .ok (.aload_n 0, 1) := by decide +kernel
theorem dX12_areSo_26 : decode cX12_areSo 26 = .ok (.aload_n 0, 1) := by decide +kernel
theorem dX12_areSo_27 : decode cX12_areSo 27 = .ok (.getfield 20, 3) := by decide +kernel
theorem dX12_areSo_30 : decode cX12_areSo 30 = .ok (.getfield 141, 3) := by decide +kernel
theorem dX12_areSo_33 : decode cX12_areSo 33 = .ok (.iload_n 2, 1) := by decide +kernel
theorem dX12_areSo_34 : decode cX12_areSo 34 = .ok (.iconst 2, 1) := by decide +kernel
theorem dX12_areSo_35 : decode cX12_areSo 35 = .ok (.iadd, 1) := by decide +kernel
theorem dX12_areSo_36 : decode cX12_areSo 36 = .ok (.iaload, 1) := by decide +kernel
theorem dX12_areSo_37 : decode cX12_areSo 37 = .ok (.invokevirtual 144, 3) := by decide +kernel
theorem dX12_areSo_40 : decode cX12_areSo 40 = .ok (.istore 5, 2) := by decide +kernel
theorem dX12_areSo_42 : decode cX12_areSo 42 = .ok (.aload_n 0, 1) := by decide +kernel
theorem dX12_areSo_43 : decode cX12_areSo 43 = .ok (.getfield 20, 3) := by decide +kernel
theorem dX12_areSo_46 : decode cX12_areSo 46 = .ok (.getfield 141, 3) := by decide +kernel
theorem dX12_areSo_49 : decode cX12_areSo 49 = .ok (.iload_n 2, 1) := by decide +kernel
theorem dX12_areSo_50 : decode cX12_areSo 50 = .ok (.iconst 1, 1) := by decide +kernel
theorem dX12_areSo_51 : decode cX12_areSo 51 = .ok (.iadd, 1) := by decide +kernel
theorem dX12_areSo_52 : decode cX12_areSo 52 = .ok (.iaload, 1) := by decide +kernel
theorem dX12_areSo_53 : decode cX12_areSo 53 = .ok (.istore 6, 2) := by decide +kernel
theorem dX12_areSo_55 : decode cX12_areSo 55 = .ok (.iload 6, 2) := by decide +kernel
theorem dX12_areSo_57 : decode cX12_areSo 57 = .ok (.bipush 60, 2) := by decide +kernel
theorem dX12_areSo_59 : decode cX12_areSo 59 = .ok (.if_icmp .ne 13, 3) := by decide +kernel
theorem dX12_areSo_62 : decode cX12_areSo 62 = .ok (.iload 4, 2) := by decide +kernel
theorem dX12_areSo_64 : decode cX12_areSo 64 = .ok (.iload 5, 2) := by decide +kernel
theorem dX12_areSo_66 : decode cX12_areSo 66 = .ok (.if_icmp .lt 32, 3) := by decide +kernel
theorem dX12_areSo_69 : decode cX12_areSo 69 = .ok (.goto 27, 3) := by decide +kernel
theorem dX12_areSo_72 : decode cX12_areSo 72 = .ok (.iload 6, 2) := by decide +kernel
theorem dX12_areSo_74 : decode cX12_areSo 74 = .ok (.bipush 62, 2) := by decide +kernel
theorem dX12_areSo_76 : decode cX12_areSo 76 = .ok (.if_icmp .ne 13, 3) := by decide +kernel
theorem dX12_areSo_79 : decode cX12_areSo 79 = .ok (.iload 4, 2) := by decide +kernel
theorem dX12_areSo_81 : decode cX12_areSo 81 = .ok (.iload 5, 2) := by decide +kernel
theorem dX12_areSo_83 : decode cX12_areSo 83 = .ok (.if_icmp .gt 15, 3) := by decide +kernel
theorem dX12_areSo_86 : decode cX12_areSo 86 = .ok (.goto 10, 3) := by decide +kernel
theorem dX12_areSo_89 : decode cX12_areSo 89 = .ok (.iload 4, 2) := by decide +kernel
theorem dX12_areSo_91 : decode cX12_areSo 91 = .ok (.iload 5, 2) := by decide +kernel
theorem dX12_areSo_93 : decode cX12_areSo 93 = .ok (.if_icmp .eq 5, 3) := by decide +kernel
theorem dX12_areSo_96 : decode cX12_areSo 96 = .ok (.iconst 0, 1) := by decide +kernel
theorem dX12_areSo_97 : decode cX12_areSo 97 = .ok (.ireturn, 1) := by decide +kernel
theorem dX12_areSo_98 : decode cX12_areSo 98 = .ok (.aload_n 0, 1) := by decide +kernel
theorem dX12_areSo_99 : decode cX12_areSo 99 = .ok (.getfield 20, 3) := by decide +kernel
theorem dX12_areSo_102 : decode cX12_areSo 102 = .ok (.getfield 141, 3) := by decide +kernel
theorem dX12_areSo_105 : decode cX12_areSo 105 = .ok (.iload_n 2, 1) := by decide +kernel
theorem dX12_areSo_106 : decode cX12_areSo 106 = .ok (.iconst 3, 1) := by decide +kernel
theorem dX12_areSo_107 : decode cX12_areSo 107 = .ok (.iadd, 1) := by decide +kernel
theorem dX12_areSo_108 : decode cX12_areSo 108 = .ok (.iaload, 1) := by decide +kernel
theorem dX12_areSo_109 : decode cX12_areSo 109 = .ok (.iconst 1, 1) := by decide +kernel
theorem dX12_areSo_110 : decode cX12_areSo 110 = .ok (.if_icmp .ne 7, 3) := by decide +kernel
theorem dX12_areSo_113 : decode cX12_areSo 113 = .ok (.iconst 1, 1) := by decide +kernel
theorem dX12_areSo_114 : decode cX12_areSo 114 = .ok (.goto 4, 3) := by decide +kernel
theorem dX12_areSo_117 : decode cX12_areSo 117 = .ok (.iconst 0, 1) := by decide +kernel
theorem dX12_areSo_118 : decode cX12_areSo 118 = .ok (.istore_n 3, 1) := by decide +kernel
theorem dX12_areSo_119 : decode cX12_areSo 119 = .ok (.iinc 2 4, 3) := by decide +kernel
theorem dX12_areSo_122 : decode cX12_areSo 122 = .ok (.goto (-116), 3) := by decide +kernel
theorem dX12_areSo_125 : decode cX12_areSo 125 = .ok (.iconst 1, 1) := by decide +kernel
theorem dX12_areSo_126 : decode cX12_areSo 126 = .ok (.ireturn, 1) := by decide +kernel
theorem dX12_meant_0 : decode cX12_meant 0 = .ok (.iload_n 1, 1) := by decide +kernel
theorem dX12_meant_1 : decode cX12_meant 1 = .ok (.ifCond .lt 5, 3) := by decide +kernel
theorem dX12_meant_4 : decode cX12_meant 4 = .ok (.iload_n 1, 1) := by decide +kernel
theorem dX12_meant_5 : decode cX12_meant 5 = .ok (.ireturn, 1) := by decide +kernel
theorem dX12_meant_6 : decode cX12_meant 6 = .ok (.iconst (-1), 1) := by decide +kernel
theorem dX12_meant_7 : decode cX12_meant 7 = .ok (.istore_n 3, 1) := by decide +kernel
theorem dX12_meant_8 : decode cX12_meant 8 = .ok (.iconst 0, 1) := by decide +kernel
theorem dX12_meant_9 : decode cX12_meant 9 = .ok (.istore 4, 2) := by decide +kernel
theorem dX12_meant_11 : decode cX12_meant 11 = .ok (.iload 4, 2) := by decide +kernel
theorem dX12_meant_13 : decode cX12_meant 13 = .ok (.aload_n 0, 1) := by decide +kernel
theorem dX12_meant_14 : decode cX12_meant 14 = .ok (.getfield 20, 3) := by decide +kernel
theorem dX12_meant_17 : decode cX12_meant 17 = .ok (.getfield 131, 3) := by decide +kernel
theorem dX12_meant_20 : decode cX12_meant 20 = .ok (.if_icmp .ge 46, 3) := by decide +kernel
theorem dX12_meant_23 : decode cX12_meant 23 = .ok (.iload 4, 2) := by decide +kernel
theorem dX12_meant_25 : decode cX12_meant 25 = .ok (.iload_n 2, 1) := by decide +kernel
theorem dX12_meant_26 : decode cX12_meant 26 = .ok (.if_icmp .eq 34, 3) := by decide +kernel
theorem dX12_meant_29 : decode cX12_meant 29 = .ok (.aload_n 0, 1) := by decide +kernel
theorem dX12_meant_30 : decode cX12_meant 30 = .ok (.iload 4, 2) := by decide +kernel
theorem dX12_meant_32 : decode cX12_meant 32 = .ok (.invokevirtual 111, 3) := by decide +kernel
theorem dX12_meant_35 : decode cX12_meant 35 = .ok (.ifCond .ne 6, 3) := by decide +kernel
theorem dX12_meant_38 : decode cX12_meant 38 = .ok (.goto 22, 3) := by decide +kernel
theorem dX12_meant_41 : decode cX12_meant 41 = .ok (.iload_n 3, 1) := by decide +kernel
theorem dX12_meant_42 : decode cX12_meant 42 = .ok (.iconst (-1), 1) := by decide +kernel
theorem dX12_meant_43 : decode cX12_meant 43 = .ok (.if_icmp .eq 14, 3) := by decide +kernel
theorem dX12_meant_46 : decode cX12_meant 46 = .ok (.aload_n 0, 1) := by decide +kernel
theorem dX12_meant_47 : decode cX12_meant 47 = .ok (.iload_n 1, 1) := by decide +kernel
theorem dX12_meant_48 : decode cX12_meant 48 = .ok (.iload 4, 2) := by decide +kernel
theorem dX12_meant_50 : decode cX12_meant 50 = .ok (.iload_n 3, 1) := by decide +kernel
theorem dX12_meant_51 : decode cX12_meant 51 = .ok (.invokevirtual 147, 3) := by decide +kernel
theorem dX12_meant_54 : decode cX12_meant 54 = .ok (.ifCond .eq 6, 3) := by decide +kernel
theorem dX12_meant_57 : decode cX12_meant 57 = .ok (.iload 4, 2) := by decide +kernel
theorem dX12_meant_59 : decode cX12_meant 59 = .ok (.istore_n 3, 1) := by decide +kernel
theorem dX12_meant_60 : decode cX12_meant 60 = .ok (.iinc 4 1, 3) := by decide +kernel
theorem dX12_meant_63 : decode cX12_meant 63 = .ok (.goto (-52), 3) := by decide +kernel
theorem dX12_meant_66 : decode cX12_meant 66 = .ok (.iload_n 3, 1) := by decide +kernel
theorem dX12_meant_67 : decode cX12_meant 67 = .ok (.ireturn, 1) := by decide +kernel
theorem dX12_isRather_0 : decode cX12_isRather 0 = .ok (.iload_n 1, 1) := by decide +kernel
theorem dX12_isRather_1 : decode cX12_isRather 1 = .ok (.bipush (-2), 2) := by decide +kernel
theorem dX12_isRather_3 : decode cX12_isRather 3 = .ok (.if_icmp .ne 30, 3) := by decide +kernel
theorem dX12_isRather_6 : decode cX12_isRather 6 = .ok (.aload_n 0, 1) := by decide +kernel
theorem dX12_isRather_7 : decode cX12_isRather 7 = .ok (.getfield 20, 3) := by decide +kernel
theorem dX12_isRather_10 : decode cX12_isRather 10 = .ok (.getfield 105, 3) := by decide +kernel
theorem dX12_isRather_13 : decode cX12_isRather 13 = .ok (.iload_n 2, 1) := by decide +kernel
theorem dX12_isRather_14 : decode cX12_isRather 14 = .ok (.iaload, 1) := by decide +kernel
theorem dX12_isRather_15 : decode cX12_isRather 15 = .ok (.aload_n 0, 1) := by decide +kernel
theorem dX12_isRather_16 : decode cX12_isRather 16 = .ok (.getfield 20, 3) := by decide +kernel
theorem dX12_isRather_19 : decode cX12_isRather 19 = .ok (.getfield 105, 3) := by decide +kernel
theorem dX12_isRather_22 : decode cX12_isRather 22 = .ok (.iload_n 3, 1) := by decide +kernel
theorem dX12_isRather_23 : decode cX12_isRather 23 = .ok (.iaload, 1) := by decide +kernel
theorem dX12_isRather_24 : decode cX12_isRather 24 = .ok (.if_icmp .ge 7, 3) := by decide +kernel
theorem dX12_isRather_27 : decode cX12_isRather 27 = .ok (.iconst 1, 1) := by decide +kernel
theorem dX12_isRather_28 : decode cX12_isRather 28 = .ok (.goto 4, 3) := by decide +kernel
theorem dX12_isRather_31 : decode cX12_isRather 31 = .ok (.iconst 0, 1) := by decide +kernel
theorem dX12_isRather_32 : decode cX12_isRather 32 = .ok (.ireturn, 1) := by decide +kernel
theorem dX12_isRather_33 : decode cX12_isRather 33 = .ok (.iload_n 1, 1) := by decide +kernel
theorem dX12_isRather_34 : decode cX12_isRather 34 = .ok (.bipush (-3), 2) := by decide +kernel
theorem dX12_isRather_36 : decode cX12_isRather 36 = .ok (.if_icmp .ne 30, 3) := by decide +kernel
theorem dX12_isRather_39 : decode cX12_isRather 39 = .ok (.aload_n 0, 1) := by decide +kernel
theorem dX12_isRather_40 : decode cX12_isRather 40 = .ok (.getfield 20, 3) := by decide +kernel
theorem dX12_isRather_43 : decode cX12_isRather 43 = .ok (.getfield 105, 3) := by decide +kernel
theorem dX12_isRather_46 : decode cX12_isRather 46 = .ok (.iload_n 2, 1) := by decide +kernel
theorem dX12_isRather_47 : decode cX12_isRather 47 = .ok (.iaload, 1) := by decide +kernel
theorem dX12_isRather_48 : decode cX12_isRather 48 = .ok (.aload_n 0, 1) := by decide +kernel
theorem dX12_isRather_49 : decode cX12_isRather 49 = .ok (.getfield 20, 3) := by decide +kernel
theorem dX12_isRather_52 : decode cX12_isRather 52 = .ok (.getfield 105, 3) := by decide +kernel
theorem dX12_isRather_55 : decode cX12_isRather 55 = .ok (.iload_n 3, 1) := by decide +kernel
theorem dX12_isRather_56 : decode cX12_isRather 56 = .ok (.iaload, 1) := by decide +kernel
theorem dX12_isRather_57 : decode cX12_isRather 57 = .ok (.if_icmp .le 7, 3) := by decide +kernel
theorem dX12_isRather_60 : decode cX12_isRather 60 = .ok (.iconst 1, 1) := by decide +kernel
theorem dX12_isRather_61 : decode cX12_isRather 61 = .ok (.goto 4, 3) := by decide +kernel
theorem dX12_isRather_64 : decode cX12_isRather 64 = .ok (.iconst 0, 1) := by decide +kernel
theorem dX12_isRather_65 : decode cX12_isRather 65 = .ok (.ireturn, 1) := by decide +kernel
theorem dX12_isRather_66 : decode cX12_isRather 66 = .ok (.iload_n 1, 1) := by decide +kernel
theorem dX12_isRather_67 : decode cX12_isRather 67 = .ok (.bipush (-4), 2) := by decide +kernel
theorem dX12_isRather_69 : decode cX12_isRather 69 = .ok (.if_icmp .ne 32, 3) := by decide +kernel
theorem dX12_isRather_72 : decode cX12_isRather 72 = .ok (.aload_n 0, 1) := by decide +kernel
theorem dX12_isRather_73 : decode cX12_isRather 73 = .ok (.getfield 20, 3) := by decide +kernel
theorem dX12_isRather_76 : decode cX12_isRather 76 = .ok (.getfield 121, 3) := by decide +kernel
theorem dX12_isRather_79 : decode cX12_isRather 79 = .ok (.iload_n 2, 1) := by decide +kernel
theorem dX12_isRather_80 : decode cX12_isRather 80 = .ok (.iaload, 1) := by decide +kernel
theorem dX12_isRather_81 : decode cX12_isRather 81 = .ok (.aload_n 0, 1) := by decide +kernel
theorem dX12_isRather_82 : decode cX12_isRather 82 = .ok (.getfield 20, 3) := by decide +kernel
theorem dX12_isRather_85 : decode cX12_isRather 85 = .ok (.getfield 121, 3) := by decide +kernel
theorem dX12_isRather_88 : decode cX12_isRather 88 = .ok (.iload_n 3, 1) := by decide +kernel
theorem dX12_isRather_89 : decode cX12_isRather 89 = .ok (.iaload, 1) := by decide +kernel
theorem dX12_isRather_90 : decode cX12_isRather 90 = .ok (.if_icmp .ge 7, 3) := by decide +kernel
theorem dX12_isRather_93 : decode cX12_isRather 93 = .ok (.iconst 1, 1) := by decide +kernel
theorem dX12_isRather_94 : decode cX12_isRather 94 = .ok (.goto 33, 3) := by decide +kernel
theorem dX12_isRather_97 : decode cX12_isRather 97 = .ok (.iconst 0, 1) := by decide +kernel
theorem dX12_isRather_98 : decode cX12_isRather 98 = .ok (.goto 29, 3) := by decide +kernel
theorem dX12_isRather_101 : decode cX12_isRather 101 = .ok (.aload_n 0, 1) := by decide +kernel
theorem dX12_isRather_102 : decode cX12_isRather 102 = .ok (.getfield 20, 3) := by decide +kernel
theorem dX12_isRather_105 : decode cX12_isRather 105 = .ok (.getfield 121, 3) := by decide +kernel
theorem dX12_isRather_108 : decode cX12_isRather 108 = .ok (.iload_n 2, 1) := by decide +kernel
theorem dX12_isRather_109 : decode cX12_isRather 109 = .ok (.iaload, 1) := by decide +kernel
theorem dX12_isRather_110 : decode cX12_isRather 110 = .ok (.aload_n 0, 1) := by decide +kernel
theorem dX12_isRather_111 : decode cX12_isRather 111 = .ok (.getfield 20, 3) := by decide +kernel
theorem dX12_isRather_114 : decode cX12_isRather 114 = .ok (.getfield 121, 3) := by decide +kernel
theorem dX12_isRather_117 : decode cX12_isRather 117 = .ok (.iload_n 3, 1) := by decide +kernel
theorem dX12_isRather_118 : decode cX12_isRather 118 = .ok (.iaload, 1) := by decide +kernel
theorem dX12_isRather_119 : decode cX12_isRather 119 = .ok (.if_icmp .le 7, 3) := by decide +kernel
theorem dX12_isRather_122 : decode cX12_isRather 122 = .ok (.iconst 1, 1) := by decide +kernel
theorem dX12_isRather_123 : decode cX12_isRather 123 = .ok (.goto 4, 3) := by decide +kernel
theorem dX12_isRather_126 : decode cX12_isRather 126 = .ok (.iconst 0, 1) := by decide +kernel
theorem dX12_isRather_127 : decode cX12_isRather 127 = .ok (.ireturn, 1) := by decide +kernel
theorem dX12_send_0 : decode cX12_send 0 = .ok (.aload_n 0, 1) := by decide +kernel
theorem dX12_send_1 : decode cX12_send 1 = .ok (.iload_n 1, 1) := by decide +kernel
theorem dX12_send_2 : decode cX12_send 2 = .ok (.iconst (-1), 1) := by decide +kernel
theorem dX12_send_3 : decode cX12_send 3 = .ok (.invokevirtual 150, 3) := by decide +kernel
theorem dX12_send_6 : decode cX12_send 6 = .ok (.istore_n 3, 1) := by decide +kernel
theorem dX12_send_7 : decode cX12_send 7 = .ok (.iload_n 3, 1) := by decide +kernel
theorem dX12_send_8 : decode cX12_send 8 = .ok (.iconst (-1), 1) := by decide +kernel
theorem dX12_send_9 : decode cX12_send 9 = .ok (.if_icmp .ne 5, 3) := by decide +kernel
theorem dX12_send_12 : decode cX12_send 12 = .ok (.iconst 0, 1) := by decide +kernel
theorem dX12_send_13 : decode cX12_send 13 = .ok (.ireturn, 1) := by decide +kernel
theorem dX12_send_14 : decode cX12_send 14 = .ok (.iload_n 2, 1) := by decide +kernel
theorem dX12_send_15 : decode cX12_send 15 = .ok (.iconst (-1), 1) := by decide +kernel
theorem dX12_send_16 : decode cX12_send 16 = .ok (.if_icmp .ne 7, 3) := by decide +kernel
theorem dX12_send_19 : decode cX12_send 19 = .ok (.iconst (-1), 1) := by decide +kernel
theorem dX12_send_20 : decode cX12_send 20 = .ok (.goto 9, 3) := by decide +kernel
theorem dX12_send_23 : decode cX12_send 23 = .ok (.aload_n 0, 1) := by decide +kernel
theorem dX12_send_24 : decode cX12_send 24 = .ok (.iload_n 2, 1) := by decide +kernel
theorem dX12_send_25 : decode cX12_send 25 = .ok (.iload_n 3, 1) := by decide +kernel
theorem dX12_send_26 : decode cX12_send 26 = .ok (.invokevirtual 150, 3) := by decide +kernel
theorem dX12_send_29 : decode cX12_send 29 = .ok (.istore 4, 2) := by decide +kernel
theorem dX12_send_31 : decode cX12_send 31 = .ok (.iload_n 2, 1) := by decide +kernel
theorem dX12_send_32 : decode cX12_send 32 = .ok (.iconst (-1), 1) := by decide +kernel
theorem dX12_send_33 : decode cX12_send 33 = .ok (.if_icmp .eq 15, 3) := by decide +kernel
theorem dX12_send_36 : decode cX12_send 36 = .ok (.iload 4, 2) := by decide +kernel
theorem dX12_send_38 : decode cX12_send 38 = .ok (.iconst (-1), 1) := by decide +kernel
theorem dX12_send_39 : decode cX12_send 39 = .ok (.if_icmp .eq 19, 3) := by decide +kernel
theorem dX12_send_42 : decode cX12_send 42 = .ok (.iload 4, 2) := by decide +kernel
theorem dX12_send_44 : decode cX12_send 44 = .ok (.iload_n 3, 1) := by decide +kernel
theorem dX12_send_45 : decode cX12_send 45 = .ok (.if_icmp .eq 13, 3) := by decide +kernel
theorem dX12_send_48 : decode cX12_send 48 = .ok (.aload_n 0, 1) := by decide +kernel
theorem dX12_send_49 : decode cX12_send 49 = .ok (.iload_n 3, 1) := by decide +kernel
theorem dX12_send_50 : decode cX12_send 50 = .ok (.iload 4, 2) := by decide +kernel
theorem dX12_send_52 : decode cX12_send 52 = .ok (.invokevirtual 153, 3) := by decide +kernel
theorem dX12_send_55 : decode cX12_send 55 = .ok (.ifCond .ne 5, 3) := by decide +kernel
theorem dX12_send_58 : decode cX12_send 58 = .ok (.iconst 0, 1) := by decide +kernel
theorem dX12_send_59 : decode cX12_send 59 = .ok (.ireturn, 1) := by decide +kernel
theorem dX12_send_60 : decode cX12_send 60 = .ok (.aload_n 0, 1) := by decide +kernel
theorem dX12_send_61 : decode cX12_send 61 = .ok (.iload_n 3, 1) := by decide +kernel
theorem dX12_send_62 : decode cX12_send 62 = .ok (.iload 4, 2) := by decide +kernel
theorem dX12_send_64 : decode cX12_send 64 = .ok (.invokevirtual 157, 3) := by decide +kernel
theorem dX12_send_67 : decode cX12_send 67 = .ok (.pop, 1) := by decide +kernel
theorem dX12_send_68 : decode cX12_send 68 = .ok (.iconst 1, 1) := by decide +kernel
theorem dX12_send_69 : decode cX12_send 69 = .ok (.ireturn, 1) := by decide +kernel
theorem dX12_mend_0 : decode cX12_mend 0 = .ok (.iload_n 1, 1) := by decide +kernel
theorem dX12_mend_1 : decode cX12_mend 1 = .ok (.iconst 1, 1) := by decide +kernel
theorem dX12_mend_2 : decode cX12_mend 2 = .ok (.bipush 30, 2) := by decide +kernel
theorem dX12_mend_4 : decode cX12_mend 4 = .ok (.invokestatic 56, 3) := by decide +kernel
theorem dX12_mend_7 : decode cX12_mend 7 = .ok (.ifCond .ne 5, 3) := by decide +kernel
theorem dX12_mend_10 : decode cX12_mend 10 = .ok (.iconst 0, 1) := by decide +kernel
theorem dX12_mend_11 : decode cX12_mend 11 = .ok (.ireturn, 1) := by decide +kernel
theorem dX12_mend_12 : decode cX12_mend 12 = .ok (.iconst 0, 1) := by decide +kernel
theorem dX12_mend_13 : decode cX12_mend 13 = .ok (.istore_n 2, 1) := by decide +kernel
theorem dX12_mend_14 : decode cX12_mend 14 = .ok (.iload_n 2, 1) := by decide +kernel
theorem dX12_mend_15 : decode cX12_mend 15 = .ok (.aload_n 0, 1) := by decide +kernel
theorem dX12_mend_16 : decode cX12_mend 16 = .ok (.getfield 20, 3) := by decide +kernel
theorem dX12_mend_19 : decode cX12_mend 19 = .ok (.getfield 37, 3) := by decide +kernel
theorem dX12_mend_22 : decode cX12_mend 22 = .ok (.if_icmp .ge 46, 3) := by decide +kernel
theorem dX12_mend_25 : decode cX12_mend 25 = .ok (.aload_n 0, 1) := by decide +kernel
theorem dX12_mend_26 : decode cX12_mend 26 = .ok (.getfield 24, 3) := by decide +kernel
theorem dX12_mend_29 : decode cX12_mend 29 = .ok (.bipush 16, 2) := by decide +kernel
theorem dX12_mend_31 : decode cX12_mend 31 = .ok (.iload_n 2, 1) := by decide +kernel
theorem dX12_mend_32 : decode cX12_mend 32 = .ok (.iadd, 1) := by decide +kernel
theorem dX12_mend_33 : decode cX12_mend 33 = .ok (.iaload, 1) := by decide +kernel
theorem dX12_mend_34 : decode cX12_mend 34 = .ok (.ifCond .le 6, 3) := by decide +kernel
theorem dX12_mend_37 : decode cX12_mend 37 = .ok (.goto 25, 3) := by decide +kernel
theorem dX12_mend_40 : decode cX12_mend 40 = .ok (.aload_n 0, 1) := by decide +kernel
theorem dX12_mend_41 : decode cX12_mend 41 = .ok (.getfield 24, 3) := by decide +kernel
theorem dX12_mend_44 : decode cX12_mend 44 = .ok (.bipush 16, 2) := by decide +kernel
theorem dX12_mend_46 : decode cX12_mend 46 = .ok (.iload_n 2, 1) := by decide +kernel
theorem dX12_mend_47 : decode cX12_mend 47 = .ok (.iadd, 1) := by decide +kernel
theorem dX12_mend_48 : decode cX12_mend 48 = .ok (.iload_n 1, 1) := by decide +kernel
theorem dX12_mend_49 : decode cX12_mend 49 = .ok (.iastore, 1) := by decide +kernel
theorem dX12_mend_50 : decode cX12_mend 50 = .ok (.aload_n 0, 1) := by decide +kernel
theorem dX12_mend_51 : decode cX12_mend 51 = .ok (.getfield 24, 3) := by decide +kernel
theorem dX12_mend_54 : decode cX12_mend 54 = .ok (.bipush 28, 2) := by decide +kernel
theorem dX12_mend_56 : decode cX12_mend 56 = .ok (.iload_n 2, 1) := by decide +kernel
theorem dX12_mend_57 : decode cX12_mend 57 = .ok (.iadd, 1) := by decide +kernel
theorem dX12_mend_58 : decode cX12_mend 58 = .ok (.iconst 0, 1) := by decide +kernel
theorem dX12_mend_59 : decode cX12_mend 59 = .ok (.iastore, 1) := by decide +kernel
theorem dX12_mend_60 : decode cX12_mend 60 = .ok (.iconst 1, 1) := by decide +kernel
theorem dX12_mend_61 : decode cX12_mend 61 = .ok (.ireturn, 1) := by decide +kernel
theorem dX12_mend_62 : decode cX12_mend 62 = .ok (.iinc 2 1, 3) := by decide +kernel
theorem dX12_mend_65 : decode cX12_mend 65 = .ok (.goto (-51), 3) := by decide +kernel
theorem dX12_mend_68 : decode cX12_mend 68 = .ok (.iconst 0, 1) := by decide +kernel
theorem dX12_mend_69 : decode cX12_mend 69 = .ok (.ireturn, 1) := by decide +kernel
theorem dX12_write_0 : decode cX12_write 0 = .ok (.bipush 9, 2) := by decide +kernel
theorem dX12_write_2 : decode cX12_write 2 = .ok (.istore_n 2, 1) := by decide +kernel
theorem dX12_write_3 : decode cX12_write 3 = .ok (.iload_n 2, 1) := by decide +kernel
theorem dX12_write_4 : decode cX12_write 4 = .ok (.ifCond .le 29, 3) := by decide +kernel
theorem dX12_write_7 : decode cX12_write 7 = .ok (.aload_n 0, 1) := by decide +kernel
theorem dX12_write_8 : decode cX12_write 8 = .ok (.getfield 24, 3) := by decide +kernel
theorem dX12_write_11 : decode cX12_write 11 = .ok (.bipush 40, 2) := by decide +kernel
theorem dX12_write_13 : decode cX12_write 13 = .ok (.iload_n 2, 1) := by decide +kernel
theorem dX12_write_14 : decode cX12_write 14 = .ok (.iadd, 1) := by decide +kernel
theorem dX12_write_15 : decode cX12_write 15 = .ok (.aload_n 0, 1) := by decide +kernel
theorem dX12_write_16 : decode cX12_write 16 = .ok (.getfield 24, 3) := by decide +kernel
theorem dX12_write_19 : decode cX12_write 19 = .ok (.bipush 40, 2) := by decide +kernel
theorem dX12_write_21 : decode cX12_write 21 = .ok (.iload_n 2, 1) := by decide +kernel
theorem dX12_write_22 : decode cX12_write 22 = .ok (.iadd, 1) := by decide +kernel
theorem dX12_write_23 : decode cX12_write 23 = .ok (.iconst 1, 1) := by decide +kernel
theorem dX12_write_24 : decode cX12_write 24 = .ok (.isub, 1) := by decide +kernel
theorem dX12_write_25 : decode cX12_write 25 = .ok (.iaload, 1) := by decide +kernel
theorem dX12_write_26 : decode cX12_write 26 = .ok (.iastore, 1) := by decide +kernel
theorem dX12_write_27 : decode cX12_write 27 = .ok (.iinc 2 (-1), 3) := by decide +kernel
theorem dX12_write_30 : decode cX12_write 30 = .ok (.goto (-27), 3) := by decide +kernel
theorem dX12_write_33 : decode cX12_write 33 = .ok (.aload_n 0, 1) := by decide +kernel
theorem dX12_write_34 : decode cX12_write 34 = .ok (.getfield 24, 3) := by decide +kernel
theorem dX12_write_37 : decode cX12_write 37 = .ok (.bipush 40, 2) := by decide +kernel
theorem dX12_write_39 : decode cX12_write 39 = .ok (.iload_n 1, 1) := by decide +kernel
theorem dX12_write_40 : decode cX12_write 40 = .ok (.iastore, 1) := by decide +kernel
theorem dX12_write_41 : decode cX12_write 41 = .ok (.aload_n 0, 1) := by decide +kernel
theorem dX12_write_42 : decode cX12_write 42 = .ok (.getfield 24, 3) := by decide +kernel
theorem dX12_write_45 : decode cX12_write 45 = .ok (.bipush 6, 2) := by decide +kernel
theorem dX12_write_47 : decode cX12_write 47 = .ok (.dup2, 1) := by decide +kernel
theorem dX12_write_48 : decode cX12_write 48 = .ok (.iaload, 1) := by decide +kernel
