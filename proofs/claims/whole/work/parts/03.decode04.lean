theorem dX12_filled_17 : decode cX12_filled 17 = .ok (.aload_n 0, 1) := by decide +kernel
theorem dX12_filled_18 : decode cX12_filled 18 = .ok (.getfield 171, 3) := by decide +kernel
theorem dX12_filled_21 : decode cX12_filled 21 = .ok (.iadd, 1) := by decide +kernel
theorem dX12_filled_22 : decode cX12_filled 22 = .ok (.i2l, 1) := by decide +kernel
theorem dX12_filled_23 : decode cX12_filled 23 = .ok (.invokestatic 145, 3) := by decide +kernel
theorem dX12_filled_26 : decode cX12_filled 26 = .ok (.ifCond .ne 5, 3) := by decide +kernel
theorem dX12_filled_29 : decode cX12_filled 29 = .ok (.iconst (-1), 1) := by decide +kernel
theorem dX12_filled_30 : decode cX12_filled 30 = .ok (.ireturn, 1) := by decide +kernel
theorem dX12_filled_31 : decode cX12_filled 31 = .ok (.aload_n 0, 1) := by decide +kernel
theorem dX12_filled_32 : decode cX12_filled 32 = .ok (.invokevirtual 238, 3) := by decide +kernel
theorem dX12_filled_35 : decode cX12_filled 35 = .ok (.istore_n 2, 1) := by decide +kernel
theorem dX12_filled_36 : decode cX12_filled 36 = .ok (.iconst 0, 1) := by decide +kernel
theorem dX12_filled_37 : decode cX12_filled 37 = .ok (.istore_n 3, 1) := by decide +kernel
theorem dX12_filled_38 : decode cX12_filled 38 = .ok (.iconst 0, 1) := by decide +kernel
theorem dX12_filled_39 : decode cX12_filled 39 = .ok (.istore 4, 2) := by decide +kernel
theorem dX12_filled_41 : decode cX12_filled 41 = .ok (.iload 4, 2) := by decide +kernel
theorem dX12_filled_43 : decode cX12_filled 43 = .ok (.aload_n 0, 1) := by decide +kernel
theorem dX12_filled_44 : decode cX12_filled 44 = .ok (.getfield 171, 3) := by decide +kernel
theorem dX12_filled_47 : decode cX12_filled 47 = .ok (.if_icmp .ge 29, 3) := by decide +kernel
theorem dX12_filled_50 : decode cX12_filled 50 = .ok (.iload_n 3, 1) := by decide +kernel
theorem dX12_filled_51 : decode cX12_filled 51 = .ok (.aload_n 0, 1) := by decide +kernel
theorem dX12_filled_52 : decode cX12_filled 52 = .ok (.getfield 79, 3) := by decide +kernel
theorem dX12_filled_55 : decode cX12_filled 55 = .ok (.iload 4, 2) := by decide +kernel
theorem dX12_filled_57 : decode cX12_filled 57 = .ok (.iaload, 1) := by decide +kernel
theorem dX12_filled_58 : decode cX12_filled 58 = .ok (.bipush (-4), 2) := by decide +kernel
theorem dX12_filled_60 : decode cX12_filled 60 = .ok (.if_icmp .ne 7, 3) := by decide +kernel
theorem dX12_filled_63 : decode cX12_filled 63 = .ok (.iconst 0, 1) := by decide +kernel
theorem dX12_filled_64 : decode cX12_filled 64 = .ok (.goto 4, 3) := by decide +kernel
theorem dX12_filled_67 : decode cX12_filled 67 = .ok (.iconst 1, 1) := by decide +kernel
theorem dX12_filled_68 : decode cX12_filled 68 = .ok (.iadd, 1) := by decide +kernel
theorem dX12_filled_69 : decode cX12_filled 69 = .ok (.istore_n 3, 1) := by decide +kernel
theorem dX12_filled_70 : decode cX12_filled 70 = .ok (.iinc 4 1, 3) := by decide +kernel
theorem dX12_filled_73 : decode cX12_filled 73 = .ok (.goto (-32), 3) := by decide +kernel
theorem dX12_filled_76 : decode cX12_filled 76 = .ok (.iload_n 1, 1) := by decide +kernel
theorem dX12_filled_77 : decode cX12_filled 77 = .ok (.ifCond .ne 7, 3) := by decide +kernel
theorem dX12_filled_80 : decode cX12_filled 80 = .ok (.iload_n 2, 1) := by decide +kernel
theorem dX12_filled_81 : decode cX12_filled 81 = .ok (.goto 21, 3) := by decide +kernel
theorem dX12_filled_84 : decode cX12_filled 84 = .ok (.iload_n 1, 1) := by decide +kernel
theorem dX12_filled_85 : decode cX12_filled 85 = .ok (.iconst 1, 1) := by decide +kernel
theorem dX12_filled_86 : decode cX12_filled 86 = .ok (.if_icmp .ne 7, 3) := by decide +kernel
theorem dX12_filled_89 : decode cX12_filled 89 = .ok (.iload_n 3, 1) := by decide +kernel
theorem dX12_filled_90 : decode cX12_filled 90 = .ok (.goto 12, 3) := by decide +kernel
theorem dX12_filled_93 : decode cX12_filled 93 = .ok (.aload_n 0, 1) := by decide +kernel
theorem dX12_filled_94 : decode cX12_filled 94 = .ok (.getfield 79, 3) := by decide +kernel
theorem dX12_filled_97 : decode cX12_filled 97 = .ok (.iload_n 1, 1) := by decide +kernel
theorem dX12_filled_98 : decode cX12_filled 98 = .ok (.bipush 10, 2) := by decide +kernel
theorem dX12_filled_100 : decode cX12_filled 100 = .ok (.isub, 1) := by decide +kernel
theorem dX12_filled_101 : decode cX12_filled 101 = .ok (.iaload, 1) := by decide +kernel
theorem dX12_filled_102 : decode cX12_filled 102 = .ok (.ireturn, 1) := by decide +kernel
theorem dX12_deliver_0 : decode cX12_deliver 0 = .ok (.aload_n 0, 1) := by decide +kernel
theorem dX12_deliver_1 : decode cX12_deliver 1 = .ok (.invokevirtual 238, 3) := by decide +kernel
theorem dX12_deliver_4 : decode cX12_deliver 4 = .ok (.istore_n 1, 1) := by decide +kernel
theorem dX12_deliver_5 : decode cX12_deliver 5 = .ok (.iconst 0, 1) := by decide +kernel
theorem dX12_deliver_6 : decode cX12_deliver 6 = .ok (.istore_n 2, 1) := by decide +kernel
theorem dX12_deliver_7 : decode cX12_deliver 7 = .ok (.iconst 0, 1) := by decide +kernel
theorem dX12_deliver_8 : decode cX12_deliver 8 = .ok (.istore_n 3, 1) := by decide +kernel
theorem dX12_deliver_9 : decode cX12_deliver 9 = .ok (.iconst 0, 1) := by decide +kernel
theorem dX12_deliver_10 : decode cX12_deliver 10 = .ok (.istore 4, 2) := by decide +kernel
theorem dX12_deliver_12 : decode cX12_deliver 12 = .ok (.iload 4, 2) := by decide +kernel
theorem dX12_deliver_14 : decode cX12_deliver 14 = .ok (.aload_n 0, 1) := by decide +kernel
theorem dX12_deliver_15 : decode cX12_deliver 15 = .ok (.getfield 171, 3) := by decide +kernel
theorem dX12_deliver_18 : decode cX12_deliver 18 = .ok (.if_icmp .ge 78, 3) := by decide +kernel
theorem dX12_deliver_21 : decode cX12_deliver 21 = .ok (.aload_n 0, 1) := by decide +kernel
theorem dX12_deliver_22 : decode cX12_deliver 22 = .ok (.getfield 79, 3) := by decide +kernel
theorem dX12_deliver_25 : decode cX12_deliver 25 = .ok (.iload 4, 2) := by decide +kernel
theorem dX12_deliver_27 : decode cX12_deliver 27 = .ok (.iaload, 1) := by decide +kernel
theorem dX12_deliver_28 : decode cX12_deliver 28 = .ok (.bipush (-4), 2) := by decide +kernel
theorem dX12_deliver_30 : decode cX12_deliver 30 = .ok (.if_icmp .eq 18, 3) := by decide +kernel
theorem dX12_deliver_33 : decode cX12_deliver 33 = .ok (.iload_n 2, 1) := by decide +kernel
theorem dX12_deliver_34 : decode cX12_deliver 34 = .ok (.iconst 1, 1) := by decide +kernel
theorem dX12_deliver_35 : decode cX12_deliver 35 = .ok (.aload_n 0, 1) := by decide +kernel
theorem dX12_deliver_36 : decode cX12_deliver 36 = .ok (.getfield 79, 3) := by decide +kernel
theorem dX12_deliver_39 : decode cX12_deliver 39 = .ok (.iload 4, 2) := by decide +kernel
theorem dX12_deliver_41 : decode cX12_deliver 41 = .ok (.iaload, 1) := by decide +kernel
theorem dX12_deliver_42 : decode cX12_deliver 42 = .ok (.ishl, 1) := by decide +kernel
theorem dX12_deliver_43 : decode cX12_deliver 43 = .ok (.ior, 1) := by decide +kernel
theorem dX12_deliver_44 : decode cX12_deliver 44 = .ok (.istore_n 2, 1) := by decide +kernel
theorem dX12_deliver_45 : decode cX12_deliver 45 = .ok (.goto 45, 3) := by decide +kernel
theorem dX12_deliver_48 : decode cX12_deliver 48 = .ok (.aload_n 0, 1) := by decide +kernel
theorem dX12_deliver_49 : decode cX12_deliver 49 = .ok (.getfield 66, 3) := by decide +kernel
theorem dX12_deliver_52 : decode cX12_deliver 52 = .ok (.iload_n 3, 1) := by decide +kernel
theorem dX12_deliver_53 : decode cX12_deliver 53 = .ok (.aload_n 0, 1) := by decide +kernel
theorem dX12_deliver_54 : decode cX12_deliver 54 = .ok (.getfield 66, 3) := by decide +kernel
theorem dX12_deliver_57 : decode cX12_deliver 57 = .ok (.iload 4, 2) := by decide +kernel
theorem dX12_deliver_59 : decode cX12_deliver 59 = .ok (.iaload, 1) := by decide +kernel
theorem dX12_deliver_60 : decode cX12_deliver 60 = .ok (.iastore, 1) := by decide +kernel
theorem dX12_deliver_61 : decode cX12_deliver 61 = .ok (.aload_n 0, 1) := by decide +kernel
theorem dX12_deliver_62 : decode cX12_deliver 62 = .ok (.getfield 69, 3) := by decide +kernel
theorem dX12_deliver_65 : decode cX12_deliver 65 = .ok (.iload_n 3, 1) := by decide +kernel
theorem dX12_deliver_66 : decode cX12_deliver 66 = .ok (.aload_n 0, 1) := by decide +kernel
theorem dX12_deliver_67 : decode cX12_deliver 67 = .ok (.getfield 69, 3) := by decide +kernel
theorem dX12_deliver_70 : decode cX12_deliver 70 = .ok (.iload 4, 2) := by decide +kernel
theorem dX12_deliver_72 : decode cX12_deliver 72 = .ok (.iaload, 1) := by decide +kernel
theorem dX12_deliver_73 : decode cX12_deliver 73 = .ok (.iastore, 1) := by decide +kernel
theorem dX12_deliver_74 : decode cX12_deliver 74 = .ok (.aload_n 0, 1) := by decide +kernel
theorem dX12_deliver_75 : decode cX12_deliver 75 = .ok (.getfield 72, 3) := by decide +kernel
theorem dX12_deliver_78 : decode cX12_deliver 78 = .ok (.iload_n 3, 1) := by decide +kernel
theorem dX12_deliver_79 : decode cX12_deliver 79 = .ok (.aload_n 0, 1) := by decide +kernel
theorem dX12_deliver_80 : decode cX12_deliver 80 = .ok (.getfield 72, 3) := by decide +kernel
theorem dX12_deliver_83 : decode cX12_deliver 83 = .ok (.iload 4, 2) := by decide +kernel
theorem dX12_deliver_85 : decode cX12_deliver 85 = .ok (.iaload, 1) := by decide +kernel
theorem dX12_deliver_86 : decode cX12_deliver 86 = .ok (.iastore, 1) := by decide +kernel
theorem dX12_deliver_87 : decode cX12_deliver 87 = .ok (.iinc 3 1, 3) := by decide +kernel
theorem dX12_deliver_90 : decode cX12_deliver 90 = .ok (.iinc 4 1, 3) := by decide +kernel
theorem dX12_deliver_93 : decode cX12_deliver 93 = .ok (.goto (-81), 3) := by decide +kernel
theorem dX12_deliver_96 : decode cX12_deliver 96 = .ok (.aload_n 0, 1) := by decide +kernel
theorem dX12_deliver_97 : decode cX12_deliver 97 = .ok (.iload_n 3, 1) := by decide +kernel
theorem dX12_deliver_98 : decode cX12_deliver 98 = .ok (.putfield 171, 3) := by decide +kernel
theorem dX12_deliver_101 : decode cX12_deliver 101 = .ok (.iconst 0, 1) := by decide +kernel
theorem dX12_deliver_102 : decode cX12_deliver 102 = .ok (.istore_n 3, 1) := by decide +kernel
theorem dX12_deliver_103 : decode cX12_deliver 103 = .ok (.iconst 0, 1) := by decide +kernel
theorem dX12_deliver_104 : decode cX12_deliver 104 = .ok (.istore 4, 2) := by decide +kernel
theorem dX12_deliver_106 : decode cX12_deliver 106 = .ok (.iload 4, 2) := by decide +kernel
theorem dX12_deliver_108 : decode cX12_deliver 108 = .ok (.aload_n 0, 1) := by decide +kernel
theorem dX12_deliver_109 : decode cX12_deliver 109 = .ok (.getfield 226, 3) := by decide +kernel
theorem dX12_deliver_112 : decode cX12_deliver 112 = .ok (.if_icmp .ge 73, 3) := by decide +kernel
theorem dX12_deliver_115 : decode cX12_deliver 115 = .ok (.iload_n 2, 1) := by decide +kernel
theorem dX12_deliver_116 : decode cX12_deliver 116 = .ok (.iload 4, 2) := by decide +kernel
theorem dX12_deliver_118 : decode cX12_deliver 118 = .ok (.ishr, 1) := by decide +kernel
theorem dX12_deliver_119 : decode cX12_deliver 119 = .ok (.iconst 1, 1) := by decide +kernel
theorem dX12_deliver_120 : decode cX12_deliver 120 = .ok (.iand, 1) := by decide +kernel
theorem dX12_deliver_121 : decode cX12_deliver 121 = .ok (.ifCond .ne 58, 3) := by decide +kernel
theorem dX12_deliver_124 : decode cX12_deliver 124 = .ok (.aload_n 0, 1) := by decide +kernel
theorem dX12_deliver_125 : decode cX12_deliver 125 = .ok (.getfield 54, 3) := by decide +kernel
theorem dX12_deliver_128 : decode cX12_deliver 128 = .ok (.iload_n 3, 1) := by decide +kernel
theorem dX12_deliver_129 : decode cX12_deliver 129 = .ok (.aload_n 0, 1) := by decide +kernel
theorem dX12_deliver_130 : decode cX12_deliver 130 = .ok (.getfield 54, 3) := by decide +kernel
theorem dX12_deliver_133 : decode cX12_deliver 133 = .ok (.iload 4, 2) := by decide +kernel
theorem dX12_deliver_135 : decode cX12_deliver 135 = .ok (.iaload, 1) := by decide +kernel
theorem dX12_deliver_136 : decode cX12_deliver 136 = .ok (.iastore, 1) := by decide +kernel
theorem dX12_deliver_137 : decode cX12_deliver 137 = .ok (.aload_n 0, 1) := by decide +kernel
theorem dX12_deliver_138 : decode cX12_deliver 138 = .ok (.getfield 57, 3) := by decide +kernel
theorem dX12_deliver_141 : decode cX12_deliver 141 = .ok (.iload_n 3, 1) := by decide +kernel
theorem dX12_deliver_142 : decode cX12_deliver 142 = .ok (.aload_n 0, 1) := by decide +kernel
theorem dX12_deliver_143 : decode cX12_deliver 143 = .ok (.getfield 57, 3) := by decide +kernel
theorem dX12_deliver_146 : decode cX12_deliver 146 = .ok (.iload 4, 2) := by decide +kernel
theorem dX12_deliver_148 : decode cX12_deliver 148 = .ok (.iaload, 1) := by decide +kernel
theorem dX12_deliver_149 : decode cX12_deliver 149 = .ok (.iastore, 1) := by decide +kernel
theorem dX12_deliver_150 : decode cX12_deliver 150 = .ok (.aload_n 0, 1) := by decide +kernel
theorem dX12_deliver_151 : decode cX12_deliver 151 = .ok (.getfield 60, 3) := by decide +kernel
theorem dX12_deliver_154 : decode cX12_deliver 154 = .ok (.iload_n 3, 1) := by decide +kernel
theorem dX12_deliver_155 : decode cX12_deliver 155 = .ok (.aload_n 0, 1) := by decide +kernel
theorem dX12_deliver_156 : decode cX12_deliver 156 = .ok (.getfield 60, 3) := by decide +kernel
theorem dX12_deliver_159 : decode cX12_deliver 159 = .ok (.iload 4, 2) := by decide +kernel
theorem dX12_deliver_161 : decode cX12_deliver 161 = .ok (.iaload, 1) := by decide +kernel
theorem dX12_deliver_162 : decode cX12_deliver 162 = .ok (.iastore, 1) := by decide +kernel
theorem dX12_deliver_163 : decode cX12_deliver 163 = .ok (.aload_n 0, 1) := by decide +kernel
theorem dX12_deliver_164 : decode cX12_deliver 164 = .ok (.getfield 63, 3) := by decide +kernel
theorem dX12_deliver_167 : decode cX12_deliver 167 = .ok (.iload_n 3, 1) := by decide +kernel
theorem dX12_deliver_168 : decode cX12_deliver 168 = .ok (.aload_n 0, 1) := by decide +kernel
theorem dX12_deliver_169 : decode cX12_deliver 169 = .ok (.getfield 63, 3) := by decide +kernel
theorem dX12_deliver_172 : decode cX12_deliver 172 = .ok (.iload 4, 2) := by decide +kernel
theorem dX12_deliver_174 : decode cX12_deliver 174 = .ok (.iaload, 1) := by decide +kernel
theorem dX12_deliver_175 : decode cX12_deliver 175 = .ok (.iastore, 1) := by decide +kernel
theorem dX12_deliver_176 : decode cX12_deliver 176 = .ok (.iinc 3 1, 3) := by decide +kernel
theorem dX12_deliver_179 : decode cX12_deliver 179 = .ok (.iinc 4 1, 3) := by decide +kernel
theorem dX12_deliver_182 : decode cX12_deliver 182 = .ok (.goto (-76), 3) := by decide +kernel
theorem dX12_deliver_185 : decode cX12_deliver 185 = .ok (.aload_n 0, 1) := by decide +kernel
theorem dX12_deliver_186 : decode cX12_deliver 186 = .ok (.iload_n 3, 1) := by decide +kernel
theorem dX12_deliver_187 : decode cX12_deliver 187 = .ok (.putfield 226, 3) := by decide +kernel
theorem dX12_deliver_190 : decode cX12_deliver 190 = .ok (.iload_n 1, 1) := by decide +kernel
theorem dX12_deliver_191 : decode cX12_deliver 191 = .ok (.ireturn, 1) := by decide +kernel
theorem dX12_gains_0 : decode cX12_gains 0 = .ok (.aload_n 0, 1) := by decide +kernel
theorem dX12_gains_1 : decode cX12_gains 1 = .ok (.iload_n 1, 1) := by decide +kernel
theorem dX12_gains_2 : decode cX12_gains 2 = .ok (.invokevirtual 190, 3) := by decide +kernel
theorem dX12_gains_5 : decode cX12_gains 5 = .ok (.ifCond .eq 15, 3) := by decide +kernel
theorem dX12_gains_8 : decode cX12_gains 8 = .ok (.iload_n 2, 1) := by decide +kernel
theorem dX12_gains_9 : decode cX12_gains 9 = .ok (.i2l, 1) := by decide +kernel
theorem dX12_gains_10 : decode cX12_gains 10 = .ok (.lconst 1, 1) := by decide +kernel
theorem dX12_gains_11 : decode cX12_gains 11 = .ok (.ldc2_w 169, 3) := by decide +kernel
theorem dX12_gains_14 : decode cX12_gains 14 = .ok (.invokestatic 145, 3) := by decide +kernel
theorem dX12_gains_17 : decode cX12_gains 17 = .ok (.ifCond .ne 6, 3) := by decide +kernel
theorem dX12_gains_20 : decode cX12_gains 20 = .ok (.ldc 242, 2) := by decide +kernel
theorem dX12_gains_22 : decode cX12_gains 22 = .ok (.ireturn, 1) := by decide +kernel
theorem dX12_gains_23 : decode cX12_gains 23 = .ok (.aload_n 0, 1) := by decide +kernel
theorem dX12_gains_24 : decode cX12_gains 24 = .ok (.iconst (-1), 1) := by decide +kernel
theorem dX12_gains_25 : decode cX12_gains 25 = .ok (.invokevirtual 218, 3) := by decide +kernel
theorem dX12_gains_28 : decode cX12_gains 28 = .ok (.istore_n 3, 1) := by decide +kernel
theorem dX12_gains_29 : decode cX12_gains 29 = .ok (.aload_n 0, 1) := by decide +kernel
theorem dX12_gains_30 : decode cX12_gains 30 = .ok (.getfield 39, 3) := by decide +kernel
theorem dX12_gains_33 : decode cX12_gains 33 = .ok (.iload_n 1, 1) := by decide +kernel
theorem dX12_gains_34 : decode cX12_gains 34 = .ok (.iaload, 1) := by decide +kernel
theorem dX12_gains_35 : decode cX12_gains 35 = .ok (.istore 4, 2) := by decide +kernel
theorem dX12_gains_37 : decode cX12_gains 37 = .ok (.aload_n 0, 1) := by decide +kernel
theorem dX12_gains_38 : decode cX12_gains 38 = .ok (.getfield 39, 3) := by decide +kernel
theorem dX12_gains_41 : decode cX12_gains 41 = .ok (.iload_n 1, 1) := by decide +kernel
theorem dX12_gains_42 : decode cX12_gains 42 = .ok (.iload_n 2, 1) := by decide +kernel
theorem dX12_gains_43 : decode cX12_gains 43 = .ok (.iastore, 1) := by decide +kernel
theorem dX12_gains_44 : decode cX12_gains 44 = .ok (.aload_n 0, 1) := by decide +kernel
theorem dX12_gains_45 : decode cX12_gains 45 = .ok (.iconst (-1), 1) := by decide +kernel
theorem dX12_gains_46 : decode cX12_gains 46 = .ok (.invokevirtual 218, 3) := by decide +kernel
theorem dX12_gains_49 : decode cX12_gains 49 = .ok (.istore 5, 2) := by decide +kernel
theorem dX12_gains_51 : decode cX12_gains 51 = .ok (.aload_n 0, 1) := by decide +kernel
theorem dX12_gains_52 : decode cX12_gains 52 = .ok (.getfield 39, 3) := by decide +kernel
theorem dX12_gains_55 : decode cX12_gains 55 = .ok (.iload_n 1, 1) := by decide +kernel
theorem dX12_gains_56 : decode cX12_gains 56 = .ok (.iload 4, 2) := by decide +kernel
theorem dX12_gains_58 : decode cX12_gains 58 = .ok (.iastore, 1) := by decide +kernel
theorem dX12_gains_59 : decode cX12_gains 59 = .ok (.iload 5, 2) := by decide +kernel
theorem dX12_gains_61 : decode cX12_gains 61 = .ok (.iload_n 3, 1) := by decide +kernel
theorem dX12_gains_62 : decode cX12_gains 62 = .ok (.isub, 1) := by decide +kernel
theorem dX12_gains_63 : decode cX12_gains 63 = .ok (.ireturn, 1) := by decide +kernel
theorem dX12_least_0 : decode cX12_least 0 = .ok (.iload_n 0, 1) := by decide +kernel
theorem dX12_least_1 : decode cX12_least 1 = .ok (.iload_n 1, 1) := by decide +kernel
theorem dX12_least_2 : decode cX12_least 2 = .ok (.if_icmp .ge 7, 3) := by decide +kernel
theorem dX12_least_5 : decode cX12_least 5 = .ok (.iload_n 0, 1) := by decide +kernel
theorem dX12_least_6 : decode cX12_least 6 = .ok (.goto 4, 3) := by decide +kernel
theorem dX12_least_9 : decode cX12_least 9 = .ok (.iload_n 1, 1) := by decide +kernel
theorem dX12_least_10 : decode cX12_least 10 = .ok (.ireturn, 1) := by decide +kernel
theorem dX12_greatest_0 : decode cX12_greatest 0 = .ok (.iload_n 0, 1) := by decide +kernel
theorem dX12_greatest_1 : decode cX12_greatest 1 = .ok (.iload_n 1, 1) := by decide +kernel
theorem dX12_greatest_2 : decode cX12_greatest 2 = .ok (.if_icmp .le 7, 3) := by decide +kernel
theorem dX12_greatest_5 : decode cX12_greatest 5 = .ok (.iload_n 0, 1) := by decide +kernel
theorem dX12_greatest_6 : decode cX12_greatest 6 = .ok (.goto 4, 3) := by decide +kernel
theorem dX12_greatest_9 : decode cX12_greatest 9 = .ok (.iload_n 1, 1) := by decide +kernel
theorem dX12_greatest_10 : decode cX12_greatest 10 = .ok (.ireturn, 1) := by decide +kernel
theorem dX12_pipe_0 : decode cX12_pipe 0 = .ok (.iload_n 1, 1) := by decide +kernel
theorem dX12_pipe_1 : decode cX12_pipe 1 = .ok (.i2l, 1) := by decide +kernel
theorem dX12_pipe_2 : decode cX12_pipe 2 = .ok (.lconst 0, 1) := by decide +kernel
theorem dX12_pipe_3 : decode cX12_pipe 3 = .ok (.ldc2_w 222, 3) := by decide +kernel
theorem dX12_pipe_6 : decode cX12_pipe 6 = .ok (.invokestatic 145, 3) := by decide +kernel
theorem dX12_pipe_9 : decode cX12_pipe 9 = .ok (.ifCond .eq 81, 3) := by decide +kernel
theorem dX12_pipe_12 : decode cX12_pipe 12 = .ok (.iload_n 2, 1) := by decide +kernel
theorem dX12_pipe_13 : decode cX12_pipe 13 = .ok (.i2l, 1) := by decide +kernel
theorem dX12_pipe_14 : decode cX12_pipe 14 = .ok (.lconst 0, 1) := by decide +kernel
theorem dX12_pipe_15 : decode cX12_pipe 15 = .ok (.ldc2_w 222, 3) := by decide +kernel
theorem dX12_pipe_18 : decode cX12_pipe 18 = .ok (.invokestatic 145, 3) := by decide +kernel
theorem dX12_pipe_21 : decode cX12_pipe 21 = .ok (.ifCond .eq 69, 3) := by decide +kernel
theorem dX12_pipe_24 : decode cX12_pipe 24 = .ok (.iload_n 3, 1) := by decide +kernel
theorem dX12_pipe_25 : decode cX12_pipe 25 = .ok (.i2l, 1) := by decide +kernel
theorem dX12_pipe_26 : decode cX12_pipe 26 = .ok (.lconst 0, 1) := by decide +kernel
theorem dX12_pipe_27 : decode cX12_pipe 27 = .ok (.ldc2_w 222, 3) := by decide +kernel
theorem dX12_pipe_30 : decode cX12_pipe 30 = .ok (.invokestatic 145, 3) := by decide +kernel
theorem dX12_pipe_33 : decode cX12_pipe 33 = .ok (.ifCond .eq 57, 3) := by decide +kernel
theorem dX12_pipe_36 : decode cX12_pipe 36 = .ok (.iload 4, 2) := by decide +kernel
theorem dX12_pipe_38 : decode cX12_pipe 38 = .ok (.i2l, 1) := by decide +kernel
theorem dX12_pipe_39 : decode cX12_pipe 39 = .ok (.lconst 0, 1) := by decide +kernel
theorem dX12_pipe_40 : decode cX12_pipe 40 = .ok (.ldc2_w 222, 3) := by decide +kernel
theorem dX12_pipe_43 : decode cX12_pipe 43 = .ok (.invokestatic 145, 3) := by decide +kernel
theorem dX12_pipe_46 : decode cX12_pipe 46 = .ok (.ifCond .eq 44, 3) := by decide +kernel
theorem dX12_pipe_49 : decode cX12_pipe 49 = .ok (.iload 5, 2) := by decide +kernel
theorem dX12_pipe_51 : decode cX12_pipe 51 = .ok (.i2l, 1) := by decide +kernel
theorem dX12_pipe_52 : decode cX12_pipe 52 = .ok (.lconst 0, 1) := by decide +kernel
theorem dX12_pipe_53 : decode cX12_pipe 53 = .ok (.ldc2_w 243, 3) := by decide +kernel
theorem dX12_pipe_56 : decode cX12_pipe 56 = .ok (.invokestatic 145, 3) := by decide +kernel
theorem dX12_pipe_59 : decode cX12_pipe 59 = .ok (.ifCond .eq 31, 3) := by decide +kernel
theorem dX12_pipe_62 : decode cX12_pipe 62 = .ok (.iload 6, 2) := by decide +kernel
theorem dX12_pipe_64 : decode cX12_pipe 64 = .ok (.i2l, 1) := by decide +kernel
theorem dX12_pipe_65 : decode cX12_pipe 65 = .ok (.ldc2_w 245, 3) := by decide +kernel
theorem dX12_pipe_68 : decode cX12_pipe 68 = .ok (.ldc2_w 247, 3) := by decide +kernel
theorem dX12_pipe_71 : decode cX12_pipe 71 = .ok (.invokestatic 145, 3) := by decide +kernel
theorem dX12_pipe_74 : decode cX12_pipe 74 = .ok (.ifCond .eq 16, 3) := by decide +kernel
theorem dX12_pipe_77 : decode cX12_pipe 77 = .ok (.iload 7, 2) := by decide +kernel
theorem dX12_pipe_79 : decode cX12_pipe 79 = .ok (.i2l, 1) := by decide +kernel
theorem dX12_pipe_80 : decode cX12_pipe 80 = .ok (.lconst 0, 1) := by decide +kernel
theorem dX12_pipe_81 : decode cX12_pipe 81 = .ok (.ldc2_w 249, 3) := by decide +kernel
theorem dX12_pipe_84 : decode cX12_pipe 84 = .ok (.invokestatic 145, 3) := by decide +kernel
theorem dX12_pipe_87 : decode cX12_pipe 87 = .ok (.ifCond .ne 5, 3) := by decide +kernel
theorem dX12_pipe_90 : decode cX12_pipe 90 = .ok (.iconst (-1), 1) := by decide +kernel
theorem dX12_pipe_91 : decode cX12_pipe 91 = .ok (.ireturn, 1) := by decide +kernel
theorem dX12_pipe_92 : decode cX12_pipe 92 = .ok (.aload_n 0, 1) := by decide +kernel
theorem dX12_pipe_93 : decode cX12_pipe 93 = .ok (.getfield 251, 3) := by decide +kernel
theorem dX12_pipe_96 : decode cX12_pipe 96 = .ok (.bipush 12, 2) := by decide +kernel
theorem dX12_pipe_98 : decode cX12_pipe 98 = .ok (.if_icmp .ne 6, 3) := by decide +kernel
theorem dX12_pipe_101 : decode cX12_pipe 101 = .ok (.bipush (-3), 2) := by decide +kernel
theorem dX12_pipe_103 : decode cX12_pipe 103 = .ok (.ireturn, 1) := by decide +kernel
theorem dX12_pipe_104 : decode cX12_pipe 104 = .ok (.iload_n 2, 1) := by decide +kernel
theorem dX12_pipe_105 : decode cX12_pipe 105 = .ok (.iload_n 3, 1) := by decide +kernel
theorem dX12_pipe_106 : decode cX12_pipe 106 = .ok (.iload 4, 2) := by decide +kernel
theorem dX12_pipe_108 : decode cX12_pipe 108 = .ok (.invokestatic 254, 3) := by decide +kernel
theorem dX12_pipe_111 : decode cX12_pipe 111 = .ok (.invokestatic 254, 3) := by decide +kernel
theorem dX12_pipe_114 : decode cX12_pipe 114 = .ok (.istore 8, 2) := by decide +kernel
theorem dX12_pipe_116 : decode cX12_pipe 116 = .ok (.iload_n 2, 1) := by decide +kernel
theorem dX12_pipe_117 : decode cX12_pipe 117 = .ok (.iload_n 3, 1) := by decide +kernel
theorem dX12_pipe_118 : decode cX12_pipe 118 = .ok (.iload 4, 2) := by decide +kernel
theorem dX12_pipe_120 : decode cX12_pipe 120 = .ok (.invokestatic 258, 3) := by decide +kernel
theorem dX12_pipe_123 : decode cX12_pipe 123 = .ok (.invokestatic 258, 3) := by decide +kernel
theorem dX12_pipe_126 : decode cX12_pipe 126 = .ok (.istore 9, 2) := by decide +kernel
theorem dX12_pipe_128 : decode cX12_pipe 128 = .ok (.aload_n 0, 1) := by decide +kernel
theorem dX12_pipe_129 : decode cX12_pipe 129 = .ok (.getfield 82, 3) := by decide +kernel
theorem dX12_pipe_132 : decode cX12_pipe 132 = .ok (.aload_n 0, 1) := by decide +kernel
theorem dX12_pipe_133 : decode cX12_pipe 133 = .ok (.getfield 251, 3) := by decide +kernel
theorem dX12_pipe_136 : decode cX12_pipe 136 = .ok (.iload_n 1, 1) := by decide +kernel
theorem dX12_pipe_137 : decode cX12_pipe 137 = .ok (.iastore, 1) := by decide +kernel
theorem dX12_pipe_138 : decode cX12_pipe 138 = .ok (.aload_n 0, 1) := by decide +kernel
theorem dX12_pipe_139 : decode cX12_pipe 139 = .ok (.getfield 85, 3) := by decide +kernel
theorem dX12_pipe_142 : decode cX12_pipe 142 = .ok (.aload_n 0, 1) := by decide +kernel
theorem dX12_pipe_143 : decode cX12_pipe 143 = .ok (.getfield 251, 3) := by decide +kernel
theorem dX12_pipe_146 : decode cX12_pipe 146 = .ok (.iload_n 2, 1) := by decide +kernel
theorem dX12_pipe_147 : decode cX12_pipe 147 = .ok (.iload_n 3, 1) := by decide +kernel
theorem dX12_pipe_148 : decode cX12_pipe 148 = .ok (.iadd, 1) := by decide +kernel
theorem dX12_pipe_149 : decode cX12_pipe 149 = .ok (.iload 4, 2) := by decide +kernel
theorem dX12_pipe_151 : decode cX12_pipe 151 = .ok (.iadd, 1) := by decide +kernel
theorem dX12_pipe_152 : decode cX12_pipe 152 = .ok (.iload 8, 2) := by decide +kernel
theorem dX12_pipe_154 : decode cX12_pipe 154 = .ok (.isub, 1) := by decide +kernel
theorem dX12_pipe_155 : decode cX12_pipe 155 = .ok (.iload 9, 2) := by decide +kernel
theorem dX12_pipe_157 : decode cX12_pipe 157 = .ok (.isub, 1) := by decide +kernel
theorem dX12_pipe_158 : decode cX12_pipe 158 = .ok (.iastore, 1) := by decide +kernel
theorem dX12_pipe_159 : decode cX12_pipe 159 = .ok (.aload_n 0, 1) := by decide +kernel
theorem dX12_pipe_160 : decode cX12_pipe 160 = .ok (.getfield 88, 3) := by decide +kernel
theorem dX12_pipe_163 : decode cX12_pipe 163 = .ok (.aload_n 0, 1) := by decide +kernel
theorem dX12_pipe_164 : decode cX12_pipe 164 = .ok (.getfield 251, 3) := by decide +kernel
theorem dX12_pipe_167 : decode cX12_pipe 167 = .ok (.iload 9, 2) := by decide +kernel
theorem dX12_pipe_169 : decode cX12_pipe 169 = .ok (.iload 8, 2) := by decide +kernel
theorem dX12_pipe_171 : decode cX12_pipe 171 = .ok (.isub, 1) := by decide +kernel
theorem dX12_pipe_172 : decode cX12_pipe 172 = .ok (.iconst 1, 1) := by decide +kernel
theorem dX12_pipe_173 : decode cX12_pipe 173 = .ok (.if_icmp .gt 7, 3) := by decide +kernel
theorem dX12_pipe_176 : decode cX12_pipe 176 = .ok (.iconst 1, 1) := by decide +kernel
theorem dX12_pipe_177 : decode cX12_pipe 177 = .ok (.goto 4, 3) := by decide +kernel
theorem dX12_pipe_180 : decode cX12_pipe 180 = .ok (.iconst 0, 1) := by decide +kernel
theorem dX12_pipe_181 : decode cX12_pipe 181 = .ok (.bastore, 1) := by decide +kernel
theorem dX12_pipe_182 : decode cX12_pipe 182 = .ok (.aload_n 0, 1) := by decide +kernel
theorem dX12_pipe_183 : decode cX12_pipe 183 = .ok (.getfield 91, 3) := by decide +kernel
theorem dX12_pipe_186 : decode cX12_pipe 186 = .ok (.aload_n 0, 1) := by decide +kernel
theorem dX12_pipe_187 : decode cX12_pipe 187 = .ok (.getfield 251, 3) := by decide +kernel
theorem dX12_pipe_190 : decode cX12_pipe 190 = .ok (.iload 5, 2) := by decide +kernel
theorem dX12_pipe_192 : decode cX12_pipe 192 = .ok (.iastore, 1) := by decide +kernel
theorem dX12_pipe_193 : decode cX12_pipe 193 = .ok (.aload_n 0, 1) := by decide +kernel
theorem dX12_pipe_194 : decode cX12_pipe 194 = .ok (.getfield 94, 3) := by decide +kernel
theorem dX12_pipe_197 : decode cX12_pipe 197 = .ok (.aload_n 0, 1) := by decide +kernel
theorem dX12_pipe_198 : decode cX12_pipe 198 = .ok (.getfield 251, 3) := by decide +kernel
theorem dX12_pipe_201 : decode cX12_pipe 201 = .ok (.iload 6, 2) := by decide +kernel
theorem dX12_pipe_203 : decode cX12_pipe 203 = .ok (.iastore, 1) := by decide +kernel
theorem dX12_pipe_204 : decode cX12_pipe 204 = .ok (.aload_n 0, 1) := by decide +kernel
theorem dX12_pipe_205 : decode cX12_pipe 205 = .ok (.getfield 97, 3) := by decide +kernel
theorem dX12_pipe_208 : decode cX12_pipe 208 = .ok (.aload_n 0, 1) := by decide +kernel
theorem dX12_pipe_209 : decode cX12_pipe 209 = .ok (.getfield 251, 3) := by decide +kernel
theorem dX12_pipe_212 : decode cX12_pipe 212 = .ok (.iload 7, 2) := by decide +kernel
theorem dX12_pipe_214 : decode cX12_pipe 214 = .ok (.iastore, 1) := by decide +kernel
theorem dX12_pipe_215 : decode cX12_pipe 215 = .ok (.aload_n 0, 1) := by decide +kernel
theorem dX12_pipe_216 : decode cX12_pipe 216 = .ok (.dup, 1) := by decide +kernel
theorem dX12_pipe_217 : decode cX12_pipe 217 = .ok (.getfield 251, 3) := by decide +kernel
theorem dX12_pipe_220 : decode cX12_pipe 220 = .ok (.iconst 1, 1) := by decide +kernel
theorem dX12_pipe_221 : decode cX12_pipe 221 = .ok (.iadd, 1) := by decide +kernel
theorem dX12_pipe_222 : decode cX12_pipe 222 = .ok (.putfield 251, 3) := by decide +kernel
theorem dX12_pipe_225 : decode cX12_pipe 225 = .ok (.aload_n 0, 1) := by decide +kernel
theorem dX12_pipe_226 : decode cX12_pipe 226 = .ok (.getfield 251, 3) := by decide +kernel
theorem dX12_pipe_229 : decode cX12_pipe 229 = .ok (.iconst 1, 1) := by decide +kernel
theorem dX12_pipe_230 : decode cX12_pipe 230 = .ok (.isub, 1) := by decide +kernel
theorem dX12_pipe_231 : decode cX12_pipe 231 = .ok (.ireturn, 1) := by decide +kernel
theorem dX12_soldAs_0 : decode cX12_soldAs 0 = .ok (.aload_n 0, 1) := by decide +kernel
theorem dX12_soldAs_1 : decode cX12_soldAs 1 = .ok (.getfield 97, 3) := by decide +kernel
theorem dX12_soldAs_4 : decode cX12_soldAs 4 = .ok (.iload_n 1, 1) := by decide +kernel
theorem dX12_soldAs_5 : decode cX12_soldAs 5 = .ok (.iaload, 1) := by decide +kernel
theorem dX12_soldAs_6 : decode cX12_soldAs 6 = .ok (.istore_n 2, 1) := by decide +kernel
theorem dX12_soldAs_7 : decode cX12_soldAs 7 = .ok (.iload_n 2, 1) := by decide +kernel
theorem dX12_soldAs_8 : decode cX12_soldAs 8 = .ok (.bipush (-4), 2) := by decide +kernel
theorem dX12_soldAs_10 : decode cX12_soldAs 10 = .ok (.if_icmp .eq 28, 3) := by decide +kernel
theorem dX12_soldAs_13 : decode cX12_soldAs 13 = .ok (.aload_n 0, 1) := by decide +kernel
theorem dX12_soldAs_14 : decode cX12_soldAs 14 = .ok (.getfield 85, 3) := by decide +kernel
theorem dX12_soldAs_17 : decode cX12_soldAs 17 = .ok (.iload_n 1, 1) := by decide +kernel
theorem dX12_soldAs_18 : decode cX12_soldAs 18 = .ok (.iaload, 1) := by decide +kernel
theorem dX12_soldAs_19 : decode cX12_soldAs 19 = .ok (.aload_n 0, 1) := by decide +kernel
theorem dX12_soldAs_20 : decode cX12_soldAs 20 = .ok (.getfield 112, 3) := by decide +kernel
theorem dX12_soldAs_23 : decode cX12_soldAs 23 = .ok (.iload_n 2, 1) := by decide +kernel
theorem dX12_soldAs_24 : decode cX12_soldAs 24 = .ok (.iaload, 1) := by decide +kernel
theorem dX12_soldAs_25 : decode cX12_soldAs 25 = .ok (.if_icmp .ge 13, 3) := by decide +kernel
theorem dX12_soldAs_28 : decode cX12_soldAs 28 = .ok (.aload_n 0, 1) := by decide +kernel
theorem dX12_soldAs_29 : decode cX12_soldAs 29 = .ok (.getfield 115, 3) := by decide +kernel
theorem dX12_soldAs_32 : decode cX12_soldAs 32 = .ok (.iload_n 2, 1) := by decide +kernel
theorem dX12_soldAs_33 : decode cX12_soldAs 33 = .ok (.iaload, 1) := by decide +kernel
theorem dX12_soldAs_34 : decode cX12_soldAs 34 = .ok (.istore_n 2, 1) := by decide +kernel
theorem dX12_soldAs_35 : decode cX12_soldAs 35 = .ok (.goto (-28), 3) := by decide +kernel
theorem dX12_soldAs_38 : decode cX12_soldAs 38 = .ok (.iload_n 2, 1) := by decide +kernel
theorem dX12_soldAs_39 : decode cX12_soldAs 39 = .ok (.ireturn, 1) := by decide +kernel
theorem dX12_wentOn_0 : decode cX12_wentOn 0 = .ok (.iconst 0, 1) := by decide +kernel
theorem dX12_wentOn_1 : decode cX12_wentOn 1 = .ok (.istore_n 3, 1) := by decide +kernel
theorem dX12_wentOn_2 : decode cX12_wentOn 2 = .ok (.iload_n 1, 1) := by decide +kernel
theorem dX12_wentOn_3 : decode cX12_wentOn 3 = .ok (.istore 4, 2) := by decide +kernel
theorem dX12_wentOn_5 : decode cX12_wentOn 5 = .ok (.iload 4, 2) := by decide +kernel
theorem dX12_wentOn_7 : decode cX12_wentOn 7 = .ok (.iload_n 2, 1) := by decide +kernel
theorem dX12_wentOn_8 : decode cX12_wentOn 8 = .ok (.if_icmp .eq 30, 3) := by decide +kernel
theorem dX12_wentOn_11 : decode cX12_wentOn 11 = .ok (.aload_n 0, 1) := by decide +kernel
theorem dX12_wentOn_12 : decode cX12_wentOn 12 = .ok (.getfield 115, 3) := by decide +kernel
theorem dX12_wentOn_15 : decode cX12_wentOn 15 = .ok (.iload 4, 2) := by decide +kernel
theorem dX12_wentOn_17 : decode cX12_wentOn 17 = .ok (.iaload, 1) := by decide +kernel
theorem dX12_wentOn_18 : decode cX12_wentOn 18 = .ok (.bipush (-4), 2) := by decide +kernel
theorem dX12_wentOn_20 : decode cX12_wentOn 20 = .ok (.if_icmp .eq 18, 3) := by decide +kernel
theorem dX12_wentOn_23 : decode cX12_wentOn 23 = .ok (.iinc 3 1, 3) := by decide +kernel
theorem dX12_wentOn_26 : decode cX12_wentOn 26 = .ok (.aload_n 0, 1) := by decide +kernel
theorem dX12_wentOn_27 : decode cX12_wentOn 27 = .ok (.getfield 115, 3) := by decide +kernel
theorem dX12_wentOn_30 : decode cX12_wentOn 30 = .ok (.iload 4, 2) := by decide +kernel
theorem dX12_wentOn_32 : decode cX12_wentOn 32 = .ok (.iaload, 1) := by decide +kernel
theorem dX12_wentOn_33 : decode cX12_wentOn 33 = .ok (.istore 4, 2) := by decide +kernel
theorem dX12_wentOn_35 : decode cX12_wentOn 35 = .ok (.goto (-30), 3) := by decide +kernel
theorem dX12_wentOn_38 : decode cX12_wentOn 38 = .ok (.iload_n 3, 1) := by decide +kernel
theorem dX12_wentOn_39 : decode cX12_wentOn 39 = .ok (.ireturn, 1) := by decide +kernel
theorem dX12_told_0 : decode cX12_told 0 = .ok (.iload_n 1, 1) := by decide +kernel
theorem dX12_told_1 : decode cX12_told 1 = .ok (.i2l, 1) := by decide +kernel
theorem dX12_told_2 : decode cX12_told 2 = .ok (.lconst 0, 1) := by decide +kernel
theorem dX12_told_3 : decode cX12_told 3 = .ok (.aload_n 0, 1) := by decide +kernel
theorem dX12_told_4 : decode cX12_told 4 = .ok (.getfield 251, 3) := by decide +kernel
theorem dX12_told_7 : decode cX12_told 7 = .ok (.iconst 1, 1) := by decide +kernel
theorem dX12_told_8 : decode cX12_told 8 = .ok (.isub, 1) := by decide +kernel
theorem dX12_told_9 : decode cX12_told 9 = .ok (.i2l, 1) := by decide +kernel
theorem dX12_told_10 : decode cX12_told 10 = .ok (.invokestatic 145, 3) := by decide +kernel
theorem dX12_told_13 : decode cX12_told 13 = .ok (.ifCond .eq 15, 3) := by decide +kernel
theorem dX12_told_16 : decode cX12_told 16 = .ok (.iload_n 2, 1) := by decide +kernel
theorem dX12_told_17 : decode cX12_told 17 = .ok (.i2l, 1) := by decide +kernel
theorem dX12_told_18 : decode cX12_told 18 = .ok (.lconst 0, 1) := by decide +kernel
theorem dX12_told_19 : decode cX12_told 19 = .ok (.ldc2_w 249, 3) := by decide +kernel
theorem dX12_told_22 : decode cX12_told 22 = .ok (.invokestatic 145, 3) := by decide +kernel
theorem dX12_told_25 : decode cX12_told 25 = .ok (.ifCond .ne 6, 3) := by decide +kernel
theorem dX12_told_28 : decode cX12_told 28 = .ok (.bipush (-100), 2) := by decide +kernel
theorem dX12_told_30 : decode cX12_told 30 = .ok (.ireturn, 1) := by decide +kernel
theorem dX12_told_31 : decode cX12_told 31 = .ok (.iload_n 2, 1) := by decide +kernel
theorem dX12_told_32 : decode cX12_told 32 = .ok (.tableswitch 100 0 6 #[44, 51, 58, 73, 80, 87, 94], 44) := by decide +kernel
theorem dX12_told_76 : decode cX12_told 76 = .ok (.aload_n 0, 1) := by decide +kernel
theorem dX12_told_77 : decode cX12_told 77 = .ok (.getfield 82, 3) := by decide +kernel
theorem dX12_told_80 : decode cX12_told 80 = .ok (.iload_n 1, 1) := by decide +kernel
theorem dX12_told_81 : decode cX12_told 81 = .ok (.iaload, 1) := by decide +kernel
theorem dX12_told_82 : decode cX12_told 82 = .ok (.ireturn, 1) := by decide +kernel
theorem dX12_told_83 : decode cX12_told 83 = .ok (.aload_n 0, 1) := by decide +kernel
theorem dX12_told_84 : decode cX12_told 84 = .ok (.getfield 85, 3) := by decide +kernel
theorem dX12_told_87 : decode cX12_told 87 = .ok (.iload_n 1, 1) := by decide +kernel
theorem dX12_told_88 : decode cX12_told 88 = .ok (.iaload, 1) := by decide +kernel
theorem dX12_told_89 : decode cX12_told 89 = .ok (.ireturn, 1) := by decide +kernel
theorem dX12_told_90 : decode cX12_told 90 = .ok (.aload_n 0, 1) := by decide +kernel
theorem dX12_told_91 : decode cX12_told 91 = .ok (.getfield 88, 3) := by decide +kernel
theorem dX12_told_94 : decode cX12_told 94 = .ok (.iload_n 1, 1) := by decide +kernel
theorem dX12_told_95 : decode cX12_told 95 = .ok (.baload, 1) := by decide +kernel
theorem dX12_told_96 : decode cX12_told 96 = .ok (.ifCond .eq 7, 3) := by decide +kernel
theorem dX12_told_99 : decode cX12_told 99 = .ok (.iconst 1, 1) := by decide +kernel
theorem dX12_told_100 : decode cX12_told 100 = .ok (.goto 4, 3) := by decide +kernel
theorem dX12_told_103 : decode cX12_told 103 = .ok (.iconst 0, 1) := by decide +kernel
theorem dX12_told_104 : decode cX12_told 104 = .ok (.ireturn, 1) := by decide +kernel
theorem dX12_told_105 : decode cX12_told 105 = .ok (.aload_n 0, 1) := by decide +kernel
theorem dX12_told_106 : decode cX12_told 106 = .ok (.getfield 91, 3) := by decide +kernel
theorem dX12_told_109 : decode cX12_told 109 = .ok (.iload_n 1, 1) := by decide +kernel
theorem dX12_told_110 : decode cX12_told 110 = .ok (.iaload, 1) := by decide +kernel
theorem dX12_told_111 : decode cX12_told 111 = .ok (.ireturn, 1) := by decide +kernel
theorem dX12_told_112 : decode cX12_told 112 = .ok (.aload_n 0, 1) := by decide +kernel
theorem dX12_told_113 : decode cX12_told 113 = .ok (.getfield 94, 3) := by decide +kernel
theorem dX12_told_116 : decode cX12_told 116 = .ok (.iload_n 1, 1) := by decide +kernel
theorem dX12_told_117 : decode cX12_told 117 = .ok (.iaload, 1) := by decide +kernel
theorem dX12_told_118 : decode cX12_told 118 = .ok (.ireturn, 1) := by decide +kernel
theorem dX12_told_119 : decode cX12_told 119 = .ok (.aload_n 0, 1) := by decide +kernel
theorem dX12_told_120 : decode cX12_told 120 = .ok (.getfield 97, 3) := by decide +kernel
theorem dX12_told_123 : decode cX12_told 123 = .ok (.iload_n 1, 1) := by decide +kernel
theorem dX12_told_124 : decode cX12_told 124 = .ok (.iaload, 1) := by decide +kernel
theorem dX12_told_125 : decode cX12_told 125 = .ok (.ireturn, 1) := by decide +kernel
theorem dX12_told_126 : decode cX12_told 126 = .ok (.aload_n 0, 1) := by decide +kernel
theorem dX12_told_127 : decode cX12_told 127 = .ok (.iload_n 1, 1) := by decide +kernel
theorem dX12_told_128 : decode cX12_told 128 = .ok (.invokevirtual 261, 3) := by decide +kernel
theorem dX12_told_131 : decode cX12_told 131 = .ok (.ireturn, 1) := by decide +kernel
theorem dX12_told_132 : decode cX12_told 132 = .ok (.aload_n 0, 1) := by decide +kernel
theorem dX12_told_133 : decode cX12_told 133 = .ok (.aload_n 0, 1) := by decide +kernel
theorem dX12_told_134 : decode cX12_told 134 = .ok (.getfield 97, 3) := by decide +kernel
theorem dX12_told_137 : decode cX12_told 137 = .ok (.iload_n 1, 1) := by decide +kernel
theorem dX12_told_138 : decode cX12_told 138 = .ok (.iaload, 1) := by decide +kernel
theorem dX12_told_139 : decode cX12_told 139 = .ok (.aload_n 0, 1) := by decide +kernel
theorem dX12_told_140 : decode cX12_told 140 = .ok (.iload_n 1, 1) := by decide +kernel
theorem dX12_told_141 : decode cX12_told 141 = .ok (.invokevirtual 261, 3) := by decide +kernel
theorem dX12_told_144 : decode cX12_told 144 = .ok (.invokevirtual 264, 3) := by decide +kernel
theorem dX12_told_147 : decode cX12_told 147 = .ok (.ireturn, 1) := by decide +kernel
theorem dX12_feed_0 : decode cX12_feed 0 = .ok (.aload_n 0, 1) := by decide +kernel
theorem dX12_feed_1 : decode cX12_feed 1 = .ok (.getfield 267, 3) := by decide +kernel
theorem dX12_feed_4 : decode cX12_feed 4 = .ok (.bipush 8, 2) := by decide +kernel
theorem dX12_feed_6 : decode cX12_feed 6 = .ok (.iadd, 1) := by decide +kernel
theorem dX12_feed_7 : decode cX12_feed 7 = .ok (.sipush 200, 3) := by decide +kernel
theorem dX12_feed_10 : decode cX12_feed 10 = .ok (.if_icmp .le 6, 3) := by decide +kernel
theorem dX12_feed_13 : decode cX12_feed 13 = .ok (.bipush (-3), 2) := by decide +kernel
theorem dX12_feed_15 : decode cX12_feed 15 = .ok (.ireturn, 1) := by decide +kernel
theorem dX12_feed_16 : decode cX12_feed 16 = .ok (.bipush 56, 2) := by decide +kernel
theorem dX12_feed_18 : decode cX12_feed 18 = .ok (.istore_n 3, 1) := by decide +kernel
theorem dX12_feed_19 : decode cX12_feed 19 = .ok (.iload_n 3, 1) := by decide +kernel
theorem dX12_feed_20 : decode cX12_feed 20 = .ok (.ifCond .lt 36, 3) := by decide +kernel
theorem dX12_feed_23 : decode cX12_feed 23 = .ok (.aload_n 0, 1) := by decide +kernel
theorem dX12_feed_24 : decode cX12_feed 24 = .ok (.getfield 100, 3) := by decide +kernel
theorem dX12_feed_27 : decode cX12_feed 27 = .ok (.aload_n 0, 1) := by decide +kernel
theorem dX12_feed_28 : decode cX12_feed 28 = .ok (.getfield 267, 3) := by decide +kernel
theorem dX12_feed_31 : decode cX12_feed 31 = .ok (.lload_n 1, 1) := by decide +kernel
theorem dX12_feed_32 : decode cX12_feed 32 = .ok (.iload_n 3, 1) := by decide +kernel
theorem dX12_feed_33 : decode cX12_feed 33 = .ok (.lshr, 1) := by decide +kernel
theorem dX12_feed_34 : decode cX12_feed 34 = .ok (.ldc2_w 243, 3) := by decide +kernel
theorem dX12_feed_37 : decode cX12_feed 37 = .ok (.land, 1) := by decide +kernel
theorem dX12_feed_38 : decode cX12_feed 38 = .ok (.l2i, 1) := by decide +kernel
theorem dX12_feed_39 : decode cX12_feed 39 = .ok (.iastore, 1) := by decide +kernel
theorem dX12_feed_40 : decode cX12_feed 40 = .ok (.aload_n 0, 1) := by decide +kernel
theorem dX12_feed_41 : decode cX12_feed 41 = .ok (.dup, 1) := by decide +kernel
theorem dX12_feed_42 : decode cX12_feed 42 = .ok (.getfield 267, 3) := by decide +kernel
theorem dX12_feed_45 : decode cX12_feed 45 = .ok (.iconst 1, 1) := by decide +kernel
theorem dX12_feed_46 : decode cX12_feed 46 = .ok (.iadd, 1) := by decide +kernel
theorem dX12_feed_47 : decode cX12_feed 47 = .ok (.putfield 267, 3) := by decide +kernel
theorem dX12_feed_50 : decode cX12_feed 50 = .ok (.iinc 3 (-8), 3) := by decide +kernel
theorem dX12_feed_53 : decode cX12_feed 53 = .ok (.goto (-34), 3) := by decide +kernel
theorem dX12_feed_56 : decode cX12_feed 56 = .ok (.aload_n 0, 1) := by decide +kernel
theorem dX12_feed_57 : decode cX12_feed 57 = .ok (.getfield 267, 3) := by decide +kernel
theorem dX12_feed_60 : decode cX12_feed 60 = .ok (.ireturn, 1) := by decide +kernel
theorem dX12_end_0 : decode cX12_end 0 = .ok (.iload_n 1, 1) := by decide +kernel
theorem dX12_end_1 : decode cX12_end 1 = .ok (.i2l, 1) := by decide +kernel
theorem dX12_end_2 : decode cX12_end 2 = .ok (.lconst 0, 1) := by decide +kernel
theorem dX12_end_3 : decode cX12_end 3 = .ok (.aload_n 0, 1) := by decide +kernel
theorem dX12_end_4 : decode cX12_end 4 = .ok (.getfield 267, 3) := by decide +kernel
theorem dX12_end_7 : decode cX12_end 7 = .ok (.i2l, 1) := by decide +kernel
theorem dX12_end_8 : decode cX12_end 8 = .ok (.invokestatic 145, 3) := by decide +kernel
theorem dX12_end_11 : decode cX12_end 11 = .ok (.ifCond .ne 5, 3) := by decide +kernel
theorem dX12_end_14 : decode cX12_end 14 = .ok (.iconst (-1), 1) := by decide +kernel
theorem dX12_end_15 : decode cX12_end 15 = .ok (.ireturn, 1) := by decide +kernel
theorem dX12_end_16 : decode cX12_end 16 = .ok (.aload_n 0, 1) := by decide +kernel
theorem dX12_end_17 : decode cX12_end 17 = .ok (.getfield 267, 3) := by decide +kernel
theorem dX12_end_20 : decode cX12_end 20 = .ok (.istore_n 2, 1) := by decide +kernel
theorem dX12_end_21 : decode cX12_end 21 = .ok (.aload_n 0, 1) := by decide +kernel
theorem dX12_end_22 : decode cX12_end 22 = .ok (.iload_n 1, 1) := by decide +kernel
theorem dX12_end_23 : decode cX12_end 23 = .ok (.putfield 267, 3) := by decide +kernel
theorem dX12_end_26 : decode cX12_end 26 = .ok (.iload_n 2, 1) := by decide +kernel
theorem dX12_end_27 : decode cX12_end 27 = .ok (.ireturn, 1) := by decide +kernel
theorem dX12_wants_0 : decode cX12_wants 0 = .ok (.iload_n 1, 1) := by decide +kernel
theorem dX12_wants_1 : decode cX12_wants 1 = .ok (.ifCond .ne 23, 3) := by decide +kernel
theorem dX12_wants_4 : decode cX12_wants 4 = .ok (.aload_n 0, 1) := by decide +kernel
theorem dX12_wants_5 : decode cX12_wants 5 = .ok (.getfield 270, 3) := by decide +kernel
theorem dX12_wants_8 : decode cX12_wants 8 = .ok (.ifCond .ne 16, 3) := by decide +kernel
theorem dX12_wants_11 : decode cX12_wants 11 = .ok (.aload_n 0, 1) := by decide +kernel
theorem dX12_wants_12 : decode cX12_wants 12 = .ok (.iload_n 2, 1) := by decide +kernel
theorem dX12_wants_13 : decode cX12_wants 13 = .ok (.putfield 270, 3) := by decide +kernel
theorem dX12_wants_16 : decode cX12_wants 16 = .ok (.aload_n 0, 1) := by decide +kernel
theorem dX12_wants_17 : decode cX12_wants 17 = .ok (.aload_n 0, 1) := by decide +kernel
theorem dX12_wants_18 : decode cX12_wants 18 = .ok (.getfield 273, 3) := by decide +kernel
theorem dX12_wants_21 : decode cX12_wants 21 = .ok (.putfield 276, 3) := by decide +kernel
theorem dX12_wants_24 : decode cX12_wants 24 = .ok (.return_, 1) := by decide +kernel
theorem dX12_look_0 : decode cX12_look 0 = .ok (.iload_n 1, 1) := by decide +kernel
theorem dX12_look_1 : decode cX12_look 1 = .ok (.aload_n 0, 1) := by decide +kernel
theorem dX12_look_2 : decode cX12_look 2 = .ok (.getfield 267, 3) := by decide +kernel
theorem dX12_look_5 : decode cX12_look 5 = .ok (.if_icmp .ge 12, 3) := by decide +kernel
theorem dX12_look_8 : decode cX12_look 8 = .ok (.aload_n 0, 1) := by decide +kernel
theorem dX12_look_9 : decode cX12_look 9 = .ok (.getfield 100, 3) := by decide +kernel
theorem dX12_look_12 : decode cX12_look 12 = .ok (.iload_n 1, 1) := by decide +kernel
theorem dX12_look_13 : decode cX12_look 13 = .ok (.iaload, 1) := by decide +kernel
theorem dX12_look_14 : decode cX12_look 14 = .ok (.goto 4, 3) := by decide +kernel
theorem dX12_look_17 : decode cX12_look 17 = .ok (.iconst (-1), 1) := by decide +kernel
theorem dX12_look_18 : decode cX12_look 18 = .ok (.ireturn, 1) := by decide +kernel
theorem dX12_is_0 : decode cX12_is 0 = .ok (.iload 4, 2) := by decide +kernel
theorem dX12_is_2 : decode cX12_is 2 = .ok (.ifCond .ne 7, 3) := by decide +kernel
theorem dX12_is_5 : decode cX12_is 5 = .ok (.iconst 3, 1) := by decide +kernel
theorem dX12_is_6 : decode cX12_is 6 = .ok (.goto 14, 3) := by decide +kernel
theorem dX12_is_9 : decode cX12_is 9 = .ok (.iload 6, 2) := by decide +kernel
theorem dX12_is_11 : decode cX12_is 11 = .ok (.ifCond .ne 7, 3) := by decide +kernel
theorem dX12_is_14 : decode cX12_is 14 = .ok (.iconst 5, 1) := by decide +kernel
theorem dX12_is_15 : decode cX12_is 15 = .ok (.goto 5, 3) := by decide +kernel
theorem dX12_is_18 : decode cX12_is 18 = .ok (.bipush 6, 2) := by decide +kernel
theorem dX12_is_20 : decode cX12_is 20 = .ok (.istore 7, 2) := by decide +kernel
theorem dX12_is_22 : decode cX12_is 22 = .ok (.aload_n 0, 1) := by decide +kernel
theorem dX12_is_23 : decode cX12_is 23 = .ok (.getfield 279, 3) := by decide +kernel
theorem dX12_is_26 : decode cX12_is 26 = .ok (.aload_n 0, 1) := by decide +kernel
theorem dX12_is_27 : decode cX12_is 27 = .ok (.getfield 273, 3) := by decide +kernel
theorem dX12_is_30 : decode cX12_is 30 = .ok (.isub, 1) := by decide +kernel
theorem dX12_is_31 : decode cX12_is 31 = .ok (.iload 7, 2) := by decide +kernel
theorem dX12_is_33 : decode cX12_is 33 = .ok (.if_icmp .ne 105, 3) := by decide +kernel
theorem dX12_is_36 : decode cX12_is 36 = .ok (.aload_n 0, 1) := by decide +kernel
theorem dX12_is_37 : decode cX12_is 37 = .ok (.aload_n 0, 1) := by decide +kernel
theorem dX12_is_38 : decode cX12_is 38 = .ok (.getfield 273, 3) := by decide +kernel
theorem dX12_is_41 : decode cX12_is 41 = .ok (.invokevirtual 282, 3) := by decide +kernel
theorem dX12_is_44 : decode cX12_is 44 = .ok (.iload_n 1, 1) := by decide +kernel
theorem dX12_is_45 : decode cX12_is 45 = .ok (.if_icmp .ne 93, 3) := by decide +kernel
theorem dX12_is_48 : decode cX12_is 48 = .ok (.aload_n 0, 1) := by decide +kernel
theorem dX12_is_49 : decode cX12_is 49 = .ok (.aload_n 0, 1) := by decide +kernel
theorem dX12_is_50 : decode cX12_is 50 = .ok (.getfield 273, 3) := by decide +kernel
theorem dX12_is_53 : decode cX12_is 53 = .ok (.iconst 1, 1) := by decide +kernel
theorem dX12_is_54 : decode cX12_is 54 = .ok (.iadd, 1) := by decide +kernel
theorem dX12_is_55 : decode cX12_is 55 = .ok (.invokevirtual 282, 3) := by decide +kernel
theorem dX12_is_58 : decode cX12_is 58 = .ok (.iload_n 2, 1) := by decide +kernel
theorem dX12_is_59 : decode cX12_is 59 = .ok (.if_icmp .ne 79, 3) := by decide +kernel
theorem dX12_is_62 : decode cX12_is 62 = .ok (.aload_n 0, 1) := by decide +kernel
theorem dX12_is_63 : decode cX12_is 63 = .ok (.aload_n 0, 1) := by decide +kernel
theorem dX12_is_64 : decode cX12_is 64 = .ok (.getfield 273, 3) := by decide +kernel
theorem dX12_is_67 : decode cX12_is 67 = .ok (.iconst 2, 1) := by decide +kernel
theorem dX12_is_68 : decode cX12_is 68 = .ok (.iadd, 1) := by decide +kernel
theorem dX12_is_69 : decode cX12_is 69 = .ok (.invokevirtual 282, 3) := by decide +kernel
theorem dX12_is_72 : decode cX12_is 72 = .ok (.iload_n 3, 1) := by decide +kernel
theorem dX12_is_73 : decode cX12_is 73 = .ok (.if_icmp .ne 65, 3) := by decide +kernel
theorem dX12_is_76 : decode cX12_is 76 = .ok (.iload 7, 2) := by decide +kernel
theorem dX12_is_78 : decode cX12_is 78 = .ok (.iconst 4, 1) := by decide +kernel
theorem dX12_is_79 : decode cX12_is 79 = .ok (.if_icmp .lt 33, 3) := by decide +kernel
theorem dX12_is_82 : decode cX12_is 82 = .ok (.aload_n 0, 1) := by decide +kernel
theorem dX12_is_83 : decode cX12_is 83 = .ok (.aload_n 0, 1) := by decide +kernel
theorem dX12_is_84 : decode cX12_is 84 = .ok (.getfield 273, 3) := by decide +kernel
theorem dX12_is_87 : decode cX12_is 87 = .ok (.iconst 3, 1) := by decide +kernel
theorem dX12_is_88 : decode cX12_is 88 = .ok (.iadd, 1) := by decide +kernel
theorem dX12_is_89 : decode cX12_is 89 = .ok (.invokevirtual 282, 3) := by decide +kernel
theorem dX12_is_92 : decode cX12_is 92 = .ok (.iload 4, 2) := by decide +kernel
theorem dX12_is_94 : decode cX12_is 94 = .ok (.if_icmp .ne 44, 3) := by decide +kernel
theorem dX12_is_97 : decode cX12_is 97 = .ok (.aload_n 0, 1) := by decide +kernel
theorem dX12_is_98 : decode cX12_is 98 = .ok (.aload_n 0, 1) := by decide +kernel
theorem dX12_is_99 : decode cX12_is 99 = .ok (.getfield 273, 3) := by decide +kernel
theorem dX12_is_102 : decode cX12_is 102 = .ok (.iconst 4, 1) := by decide +kernel
theorem dX12_is_103 : decode cX12_is 103 = .ok (.iadd, 1) := by decide +kernel
theorem dX12_is_104 : decode cX12_is 104 = .ok (.invokevirtual 282, 3) := by decide +kernel
theorem dX12_is_107 : decode cX12_is 107 = .ok (.iload 5, 2) := by decide +kernel
theorem dX12_is_109 : decode cX12_is 109 = .ok (.if_icmp .ne 29, 3) := by decide +kernel
theorem dX12_is_112 : decode cX12_is 112 = .ok (.iload 7, 2) := by decide +kernel
theorem dX12_is_114 : decode cX12_is 114 = .ok (.bipush 6, 2) := by decide +kernel
theorem dX12_is_116 : decode cX12_is 116 = .ok (.if_icmp .lt 18, 3) := by decide +kernel
theorem dX12_is_119 : decode cX12_is 119 = .ok (.aload_n 0, 1) := by decide +kernel
theorem dX12_is_120 : decode cX12_is 120 = .ok (.aload_n 0, 1) := by decide +kernel
theorem dX12_is_121 : decode cX12_is 121 = .ok (.getfield 273, 3) := by decide +kernel
theorem dX12_is_124 : decode cX12_is 124 = .ok (.iconst 5, 1) := by decide +kernel
theorem dX12_is_125 : decode cX12_is 125 = .ok (.iadd, 1) := by decide +kernel
theorem dX12_is_126 : decode cX12_is 126 = .ok (.invokevirtual 282, 3) := by decide +kernel
theorem dX12_is_129 : decode cX12_is 129 = .ok (.iload 6, 2) := by decide +kernel
theorem dX12_is_131 : decode cX12_is 131 = .ok (.if_icmp .ne 7, 3) := by decide +kernel
theorem dX12_is_134 : decode cX12_is 134 = .ok (.iconst 1, 1) := by decide +kernel
theorem dX12_is_135 : decode cX12_is 135 = .ok (.goto 4, 3) := by decide +kernel
theorem dX12_is_138 : decode cX12_is 138 = .ok (.iconst 0, 1) := by decide +kernel
theorem dX12_is_139 : decode cX12_is 139 = .ok (.ireturn, 1) := by decide +kernel
theorem dX12_wordNow_0 : decode cX12_wordNow 0 = .ok (.aload_n 0, 1) := by decide +kernel
theorem dX12_wordNow_1 : decode cX12_wordNow 1 = .ok (.bipush 115, 2) := by decide +kernel
theorem dX12_wordNow_3 : decode cX12_wordNow 3 = .ok (.bipush 116, 2) := by decide +kernel
theorem dX12_wordNow_5 : decode cX12_wordNow 5 = .ok (.bipush 97, 2) := by decide +kernel
theorem dX12_wordNow_7 : decode cX12_wordNow 7 = .ok (.bipush 109, 2) := by decide +kernel
theorem dX12_wordNow_9 : decode cX12_wordNow 9 = .ok (.bipush 112, 2) := by decide +kernel
theorem dX12_wordNow_11 : decode cX12_wordNow 11 = .ok (.iconst 0, 1) := by decide +kernel
theorem dX12_wordNow_12 : decode cX12_wordNow 12 = .ok (.invokevirtual 285, 3) := by decide +kernel
theorem dX12_wordNow_15 : decode cX12_wordNow 15 = .ok (.ifCond .eq 5, 3) := by decide +kernel
theorem dX12_wordNow_18 : decode cX12_wordNow 18 = .ok (.iconst 0, 1) := by decide +kernel
theorem dX12_wordNow_19 : decode cX12_wordNow 19 = .ok (.ireturn, 1) := by decide +kernel
theorem dX12_wordNow_20 : decode cX12_wordNow 20 = .ok (.aload_n 0, 1) := by decide +kernel
theorem dX12_wordNow_21 : decode cX12_wordNow 21 = .ok (.bipush 98, 2) := by decide +kernel
theorem dX12_wordNow_23 : decode cX12_wordNow 23 = .ok (.bipush 97, 2) := by decide +kernel
theorem dX12_wordNow_25 : decode cX12_wordNow 25 = .ok (.bipush 114, 2) := by decide +kernel
theorem dX12_wordNow_27 : decode cX12_wordNow 27 = .ok (.iconst 0, 1) := by decide +kernel
theorem dX12_wordNow_28 : decode cX12_wordNow 28 = .ok (.iconst 0, 1) := by decide +kernel
theorem dX12_wordNow_29 : decode cX12_wordNow 29 = .ok (.iconst 0, 1) := by decide +kernel
theorem dX12_wordNow_30 : decode cX12_wordNow 30 = .ok (.invokevirtual 285, 3) := by decide +kernel
theorem dX12_wordNow_33 : decode cX12_wordNow 33 = .ok (.ifCond .eq 5, 3) := by decide +kernel
theorem dX12_wordNow_36 : decode cX12_wordNow 36 = .ok (.iconst 1, 1) := by decide +kernel
theorem dX12_wordNow_37 : decode cX12_wordNow 37 = .ok (.ireturn, 1) := by decide +kernel
theorem dX12_wordNow_38 : decode cX12_wordNow 38 = .ok (.aload_n 0, 1) := by decide +kernel
theorem dX12_wordNow_39 : decode cX12_wordNow 39 = .ok (.bipush 108, 2) := by decide +kernel
theorem dX12_wordNow_41 : decode cX12_wordNow 41 = .ok (.bipush 105, 2) := by decide +kernel
theorem dX12_wordNow_43 : decode cX12_wordNow 43 = .ok (.bipush 109, 2) := by decide +kernel
theorem dX12_wordNow_45 : decode cX12_wordNow 45 = .ok (.bipush 105, 2) := by decide +kernel
theorem dX12_wordNow_47 : decode cX12_wordNow 47 = .ok (.bipush 116, 2) := by decide +kernel
theorem dX12_wordNow_49 : decode cX12_wordNow 49 = .ok (.iconst 0, 1) := by decide +kernel
theorem dX12_wordNow_50 : decode cX12_wordNow 50 = .ok (.invokevirtual 285, 3) := by decide +kernel
theorem dX12_wordNow_53 : decode cX12_wordNow 53 = .ok (.ifCond .eq 5, 3) := by decide +kernel
theorem dX12_wordNow_56 : decode cX12_wordNow 56 = .ok (.iconst 2, 1) := by decide +kernel
theorem dX12_wordNow_57 : decode cX12_wordNow 57 = .ok (.ireturn, 1) := by decide +kernel
theorem dX12_wordNow_58 : decode cX12_wordNow 58 = .ok (.aload_n 0, 1) := by decide +kernel
theorem dX12_wordNow_59 : decode cX12_wordNow 59 = .ok (.bipush 108, 2) := by decide +kernel
theorem dX12_wordNow_61 : decode cX12_wordNow 61 = .ok (.bipush 101, 2) := by decide +kernel
theorem dX12_wordNow_63 : decode cX12_wordNow 63 = .ok (.bipush 97, 2) := by decide +kernel
theorem dX12_wordNow_65 : decode cX12_wordNow 65 = .ok (.bipush 115, 2) := by decide +kernel
theorem dX12_wordNow_67 : decode cX12_wordNow 67 = .ok (.bipush 116, 2) := by decide +kernel
theorem dX12_wordNow_69 : decode cX12_wordNow 69 = .ok (.iconst 0, 1) := by decide +kernel
theorem dX12_wordNow_70 : decode cX12_wordNow 70 = .ok (.invokevirtual 285, 3) := by decide +kernel
theorem dX12_wordNow_73 : decode cX12_wordNow 73 = .ok (.ifCond .eq 5, 3) := by decide +kernel
theorem dX12_wordNow_76 : decode cX12_wordNow 76 = .ok (.iconst 3, 1) := by decide +kernel
theorem dX12_wordNow_77 : decode cX12_wordNow 77 = .ok (.ireturn, 1) := by decide +kernel
theorem dX12_wordNow_78 : decode cX12_wordNow 78 = .ok (.aload_n 0, 1) := by decide +kernel
theorem dX12_wordNow_79 : decode cX12_wordNow 79 = .ok (.bipush 115, 2) := by decide +kernel
theorem dX12_wordNow_81 : decode cX12_wordNow 81 = .ok (.bipush 101, 2) := by decide +kernel
theorem dX12_wordNow_83 : decode cX12_wordNow 83 = .ok (.bipush 99, 2) := by decide +kernel
theorem dX12_wordNow_85 : decode cX12_wordNow 85 = .ok (.bipush 111, 2) := by decide +kernel
theorem dX12_wordNow_87 : decode cX12_wordNow 87 = .ok (.bipush 110, 2) := by decide +kernel
theorem dX12_wordNow_89 : decode cX12_wordNow 89 = .ok (.bipush 100, 2) := by decide +kernel
theorem dX12_wordNow_91 : decode cX12_wordNow 91 = .ok (.invokevirtual 285, 3) := by decide +kernel
theorem dX12_wordNow_94 : decode cX12_wordNow 94 = .ok (.ifCond .eq 7, 3) := by decide +kernel
theorem dX12_wordNow_97 : decode cX12_wordNow 97 = .ok (.iconst 4, 1) := by decide +kernel
theorem dX12_wordNow_98 : decode cX12_wordNow 98 = .ok (.goto 5, 3) := by decide +kernel
theorem dX12_wordNow_101 : decode cX12_wordNow 101 = .ok (.bipush (-4), 2) := by decide +kernel
theorem dX12_wordNow_103 : decode cX12_wordNow 103 = .ok (.ireturn, 1) := by decide +kernel
theorem dX12_next_0 : decode cX12_next 0 = .ok (.aload_n 0, 1) := by decide +kernel
theorem dX12_next_1 : decode cX12_next 1 = .ok (.aload_n 0, 1) := by decide +kernel
theorem dX12_next_2 : decode cX12_next 2 = .ok (.getfield 279, 3) := by decide +kernel
theorem dX12_next_5 : decode cX12_next 5 = .ok (.invokevirtual 282, 3) := by decide +kernel
theorem dX12_next_8 : decode cX12_next 8 = .ok (.bipush 32, 2) := by decide +kernel
theorem dX12_next_10 : decode cX12_next 10 = .ok (.if_icmp .ne 16, 3) := by decide +kernel
theorem dX12_next_13 : decode cX12_next 13 = .ok (.aload_n 0, 1) := by decide +kernel
theorem dX12_next_14 : decode cX12_next 14 = .ok (.dup, 1) := by decide +kernel
theorem dX12_next_15 : decode cX12_next 15 = .ok (.getfield 279, 3) := by decide +kernel
theorem dX12_next_18 : decode cX12_next 18 = .ok (.iconst 1, 1) := by decide +kernel
theorem dX12_next_19 : decode cX12_next 19 = .ok (.iadd, 1) := by decide +kernel
theorem dX12_next_20 : decode cX12_next 20 = .ok (.putfield 279, 3) := by decide +kernel
theorem dX12_next_23 : decode cX12_next 23 = .ok (.goto (-23), 3) := by decide +kernel
theorem dX12_next_26 : decode cX12_next 26 = .ok (.aload_n 0, 1) := by decide +kernel
theorem dX12_next_27 : decode cX12_next 27 = .ok (.aload_n 0, 1) := by decide +kernel
theorem dX12_next_28 : decode cX12_next 28 = .ok (.getfield 279, 3) := by decide +kernel
theorem dX12_next_31 : decode cX12_next 31 = .ok (.putfield 273, 3) := by decide +kernel
theorem dX12_next_34 : decode cX12_next 34 = .ok (.aload_n 0, 1) := by decide +kernel
theorem dX12_next_35 : decode cX12_next 35 = .ok (.aload_n 0, 1) := by decide +kernel
theorem dX12_next_36 : decode cX12_next 36 = .ok (.getfield 279, 3) := by decide +kernel
theorem dX12_next_39 : decode cX12_next 39 = .ok (.invokevirtual 282, 3) := by decide +kernel
theorem dX12_next_42 : decode cX12_next 42 = .ok (.istore_n 1, 1) := by decide +kernel
theorem dX12_next_43 : decode cX12_next 43 = .ok (.iload_n 1, 1) := by decide +kernel
theorem dX12_next_44 : decode cX12_next 44 = .ok (.ifCond .ge 11, 3) := by decide +kernel
theorem dX12_next_47 : decode cX12_next 47 = .ok (.aload_n 0, 1) := by decide +kernel
theorem dX12_next_48 : decode cX12_next 48 = .ok (.iconst 0, 1) := by decide +kernel
theorem dX12_next_49 : decode cX12_next 49 = .ok (.putfield 288, 3) := by decide +kernel
theorem dX12_next_52 : decode cX12_next 52 = .ok (.goto 284, 3) := by decide +kernel
theorem dX12_next_55 : decode cX12_next 55 = .ok (.iload_n 1, 1) := by decide +kernel
theorem dX12_next_56 : decode cX12_next 56 = .ok (.i2l, 1) := by decide +kernel
theorem dX12_next_57 : decode cX12_next 57 = .ok (.ldc2_w 291, 3) := by decide +kernel
theorem dX12_next_60 : decode cX12_next 60 = .ok (.ldc2_w 293, 3) := by decide +kernel
theorem dX12_next_63 : decode cX12_next 63 = .ok (.invokestatic 145, 3) := by decide +kernel
theorem dX12_next_66 : decode cX12_next 66 = .ok (.ifCond .eq 72, 3) := by decide +kernel
theorem dX12_next_69 : decode cX12_next 69 = .ok (.aload_n 0, 1) := by decide +kernel
theorem dX12_next_70 : decode cX12_next 70 = .ok (.iconst 1, 1) := by decide +kernel
theorem dX12_next_71 : decode cX12_next 71 = .ok (.putfield 288, 3) := by decide +kernel
theorem dX12_next_74 : decode cX12_next 74 = .ok (.aload_n 0, 1) := by decide +kernel
theorem dX12_next_75 : decode cX12_next 75 = .ok (.aload_n 0, 1) := by decide +kernel
theorem dX12_next_76 : decode cX12_next 76 = .ok (.getfield 279, 3) := by decide +kernel
theorem dX12_next_79 : decode cX12_next 79 = .ok (.invokevirtual 282, 3) := by decide +kernel
theorem dX12_next_82 : decode cX12_next 82 = .ok (.i2l, 1) := by decide +kernel
theorem dX12_next_83 : decode cX12_next 83 = .ok (.ldc2_w 291, 3) := by decide +kernel
theorem dX12_next_86 : decode cX12_next 86 = .ok (.ldc2_w 293, 3) := by decide +kernel
theorem dX12_next_89 : decode cX12_next 89 = .ok (.invokestatic 145, 3) := by decide +kernel
theorem dX12_next_92 : decode cX12_next 92 = .ok (.ifCond .eq 16, 3) := by decide +kernel
theorem dX12_next_95 : decode cX12_next 95 = .ok (.aload_n 0, 1) := by decide +kernel
theorem dX12_next_96 : decode cX12_next 96 = .ok (.dup, 1) := by decide +kernel
theorem dX12_next_97 : decode cX12_next 97 = .ok (.getfield 279, 3) := by decide +kernel
theorem dX12_next_100 : decode cX12_next 100 = .ok (.iconst 1, 1) := by decide +kernel
theorem dX12_next_101 : decode cX12_next 101 = .ok (.iadd, 1) := by decide +kernel
theorem dX12_next_102 : decode cX12_next 102 = .ok (.putfield 279, 3) := by decide +kernel
theorem dX12_next_105 : decode cX12_next 105 = .ok (.goto (-31), 3) := by decide +kernel
theorem dX12_next_108 : decode cX12_next 108 = .ok (.aload_n 0, 1) := by decide +kernel
theorem dX12_next_109 : decode cX12_next 109 = .ok (.aload_n 0, 1) := by decide +kernel
theorem dX12_next_110 : decode cX12_next 110 = .ok (.invokevirtual 295, 3) := by decide +kernel
theorem dX12_next_113 : decode cX12_next 113 = .ok (.putfield 298, 3) := by decide +kernel
theorem dX12_next_116 : decode cX12_next 116 = .ok (.aload_n 0, 1) := by decide +kernel
theorem dX12_next_117 : decode cX12_next 117 = .ok (.aload_n 0, 1) := by decide +kernel
theorem dX12_next_118 : decode cX12_next 118 = .ok (.getfield 298, 3) := by decide +kernel
theorem dX12_next_121 : decode cX12_next 121 = .ok (.bipush (-4), 2) := by decide +kernel
theorem dX12_next_123 : decode cX12_next 123 = .ok (.if_icmp .eq 7, 3) := by decide +kernel
theorem dX12_next_126 : decode cX12_next 126 = .ok (.iconst 1, 1) := by decide +kernel
theorem dX12_next_127 : decode cX12_next 127 = .ok (.goto 4, 3) := by decide +kernel
theorem dX12_next_130 : decode cX12_next 130 = .ok (.iconst 0, 1) := by decide +kernel
theorem dX12_next_131 : decode cX12_next 131 = .ok (.iconst 1, 1) := by decide +kernel
theorem dX12_next_132 : decode cX12_next 132 = .ok (.invokevirtual 301, 3) := by decide +kernel
theorem dX12_next_135 : decode cX12_next 135 = .ok (.goto 201, 3) := by decide +kernel
theorem dX12_next_138 : decode cX12_next 138 = .ok (.iload_n 1, 1) := by decide +kernel
theorem dX12_next_139 : decode cX12_next 139 = .ok (.i2l, 1) := by decide +kernel
theorem dX12_next_140 : decode cX12_next 140 = .ok (.ldc2_w 305, 3) := by decide +kernel
theorem dX12_next_143 : decode cX12_next 143 = .ok (.ldc2_w 307, 3) := by decide +kernel
theorem dX12_next_146 : decode cX12_next 146 = .ok (.invokestatic 145, 3) := by decide +kernel
theorem dX12_next_149 : decode cX12_next 149 = .ok (.ifCond .eq 29, 3) := by decide +kernel
theorem dX12_next_152 : decode cX12_next 152 = .ok (.aload_n 0, 1) := by decide +kernel
theorem dX12_next_153 : decode cX12_next 153 = .ok (.iconst 2, 1) := by decide +kernel
theorem dX12_next_154 : decode cX12_next 154 = .ok (.putfield 288, 3) := by decide +kernel
theorem dX12_next_157 : decode cX12_next 157 = .ok (.aload_n 0, 1) := by decide +kernel
theorem dX12_next_158 : decode cX12_next 158 = .ok (.iload_n 1, 1) := by decide +kernel
theorem dX12_next_159 : decode cX12_next 159 = .ok (.bipush 65, 2) := by decide +kernel
theorem dX12_next_161 : decode cX12_next 161 = .ok (.isub, 1) := by decide +kernel
theorem dX12_next_162 : decode cX12_next 162 = .ok (.putfield 298, 3) := by decide +kernel
theorem dX12_next_165 : decode cX12_next 165 = .ok (.aload_n 0, 1) := by decide +kernel
theorem dX12_next_166 : decode cX12_next 166 = .ok (.dup, 1) := by decide +kernel
theorem dX12_next_167 : decode cX12_next 167 = .ok (.getfield 279, 3) := by decide +kernel
theorem dX12_next_170 : decode cX12_next 170 = .ok (.iconst 1, 1) := by decide +kernel
theorem dX12_next_171 : decode cX12_next 171 = .ok (.iadd, 1) := by decide +kernel
theorem dX12_next_172 : decode cX12_next 172 = .ok (.putfield 279, 3) := by decide +kernel
theorem dX12_next_175 : decode cX12_next 175 = .ok (.goto 161, 3) := by decide +kernel
theorem dX12_next_178 : decode cX12_next 178 = .ok (.iload_n 1, 1) := by decide +kernel
theorem dX12_next_179 : decode cX12_next 179 = .ok (.i2l, 1) := by decide +kernel
theorem dX12_next_180 : decode cX12_next 180 = .ok (.ldc2_w 309, 3) := by decide +kernel
theorem dX12_next_183 : decode cX12_next 183 = .ok (.ldc2_w 311, 3) := by decide +kernel
theorem dX12_next_186 : decode cX12_next 186 = .ok (.invokestatic 145, 3) := by decide +kernel
theorem dX12_next_189 : decode cX12_next 189 = .ok (.ifCond .eq 116, 3) := by decide +kernel
theorem dX12_next_192 : decode cX12_next 192 = .ok (.aload_n 0, 1) := by decide +kernel
theorem dX12_next_193 : decode cX12_next 193 = .ok (.iconst 3, 1) := by decide +kernel
theorem dX12_next_194 : decode cX12_next 194 = .ok (.putfield 288, 3) := by decide +kernel
theorem dX12_next_197 : decode cX12_next 197 = .ok (.aload_n 0, 1) := by decide +kernel
theorem dX12_next_198 : decode cX12_next 198 = .ok (.iconst 0, 1) := by decide +kernel
theorem dX12_next_199 : decode cX12_next 199 = .ok (.putfield 298, 3) := by decide +kernel
theorem dX12_next_202 : decode cX12_next 202 = .ok (.aload_n 0, 1) := by decide +kernel
theorem dX12_next_203 : decode cX12_next 203 = .ok (.aload_n 0, 1) := by decide +kernel
theorem dX12_next_204 : decode cX12_next 204 = .ok (.getfield 279, 3) := by decide +kernel
theorem dX12_next_207 : decode cX12_next 207 = .ok (.invokevirtual 282, 3) := by decide +kernel
theorem dX12_next_210 : decode cX12_next 210 = .ok (.i2l, 1) := by decide +kernel
theorem dX12_next_211 : decode cX12_next 211 = .ok (.ldc2_w 309, 3) := by decide +kernel
theorem dX12_next_214 : decode cX12_next 214 = .ok (.ldc2_w 311, 3) := by decide +kernel
theorem dX12_next_217 : decode cX12_next 217 = .ok (.invokestatic 145, 3) := by decide +kernel
theorem dX12_next_220 : decode cX12_next 220 = .ok (.ifCond .eq 59, 3) := by decide +kernel
theorem dX12_next_223 : decode cX12_next 223 = .ok (.aload_n 0, 1) := by decide +kernel
theorem dX12_next_224 : decode cX12_next 224 = .ok (.aload_n 0, 1) := by decide +kernel
theorem dX12_next_225 : decode cX12_next 225 = .ok (.getfield 279, 3) := by decide +kernel
theorem dX12_next_228 : decode cX12_next 228 = .ok (.aload_n 0, 1) := by decide +kernel
theorem dX12_next_229 : decode cX12_next 229 = .ok (.getfield 273, 3) := by decide +kernel
theorem dX12_next_232 : decode cX12_next 232 = .ok (.isub, 1) := by decide +kernel
theorem dX12_next_233 : decode cX12_next 233 = .ok (.iconst 4, 1) := by decide +kernel
theorem dX12_next_234 : decode cX12_next 234 = .ok (.if_icmp .ge 25, 3) := by decide +kernel
theorem dX12_next_237 : decode cX12_next 237 = .ok (.bipush 10, 2) := by decide +kernel
theorem dX12_next_239 : decode cX12_next 239 = .ok (.aload_n 0, 1) := by decide +kernel
theorem dX12_next_240 : decode cX12_next 240 = .ok (.getfield 298, 3) := by decide +kernel
theorem dX12_next_243 : decode cX12_next 243 = .ok (.imul, 1) := by decide +kernel
theorem dX12_next_244 : decode cX12_next 244 = .ok (.aload_n 0, 1) := by decide +kernel
theorem dX12_next_245 : decode cX12_next 245 = .ok (.aload_n 0, 1) := by decide +kernel
theorem dX12_next_246 : decode cX12_next 246 = .ok (.getfield 279, 3) := by decide +kernel
theorem dX12_next_249 : decode cX12_next 249 = .ok (.invokevirtual 282, 3) := by decide +kernel
theorem dX12_next_252 : decode cX12_next 252 = .ok (.iadd, 1) := by decide +kernel
theorem dX12_next_253 : decode cX12_next 253 = .ok (.bipush 48, 2) := by decide +kernel
theorem dX12_next_255 : decode cX12_next 255 = .ok (.isub, 1) := by decide +kernel
theorem dX12_next_256 : decode cX12_next 256 = .ok (.goto 7, 3) := by decide +kernel
theorem dX12_next_259 : decode cX12_next 259 = .ok (.aload_n 0, 1) := by decide +kernel
theorem dX12_next_260 : decode cX12_next 260 = .ok (.getfield 298, 3) := by decide +kernel
theorem dX12_next_263 : decode cX12_next 263 = .ok (.putfield 298, 3) := by decide +kernel
theorem dX12_next_266 : decode cX12_next 266 = .ok (.aload_n 0, 1) := by decide +kernel
theorem dX12_next_267 : decode cX12_next 267 = .ok (.dup, 1) := by decide +kernel
theorem dX12_next_268 : decode cX12_next 268 = .ok (.getfield 279, 3) := by decide +kernel
theorem dX12_next_271 : decode cX12_next 271 = .ok (.iconst 1, 1) := by decide +kernel
theorem dX12_next_272 : decode cX12_next 272 = .ok (.iadd, 1) := by decide +kernel
theorem dX12_next_273 : decode cX12_next 273 = .ok (.putfield 279, 3) := by decide +kernel
theorem dX12_next_276 : decode cX12_next 276 = .ok (.goto (-74), 3) := by decide +kernel
theorem dX12_next_279 : decode cX12_next 279 = .ok (.aload_n 0, 1) := by decide +kernel
theorem dX12_next_280 : decode cX12_next 280 = .ok (.aload_n 0, 1) := by decide +kernel
theorem dX12_next_281 : decode cX12_next 281 = .ok (.getfield 279, 3) := by decide +kernel
theorem dX12_next_284 : decode cX12_next 284 = .ok (.aload_n 0, 1) := by decide +kernel
theorem dX12_next_285 : decode cX12_next 285 = .ok (.getfield 273, 3) := by decide +kernel
theorem dX12_next_288 : decode cX12_next 288 = .ok (.isub, 1) := by decide +kernel
theorem dX12_next_289 : decode cX12_next 289 = .ok (.iconst 4, 1) := by decide +kernel
theorem dX12_next_290 : decode cX12_next 290 = .ok (.if_icmp .gt 7, 3) := by decide +kernel
theorem dX12_next_293 : decode cX12_next 293 = .ok (.iconst 1, 1) := by decide +kernel
theorem dX12_next_294 : decode cX12_next 294 = .ok (.goto 4, 3) := by decide +kernel
theorem dX12_next_297 : decode cX12_next 297 = .ok (.iconst 0, 1) := by decide +kernel
theorem dX12_next_298 : decode cX12_next 298 = .ok (.iconst 1, 1) := by decide +kernel
theorem dX12_next_299 : decode cX12_next 299 = .ok (.invokevirtual 301, 3) := by decide +kernel
theorem dX12_next_302 : decode cX12_next 302 = .ok (.goto 34, 3) := by decide +kernel
theorem dX12_next_305 : decode cX12_next 305 = .ok (.aload_n 0, 1) := by decide +kernel
theorem dX12_next_306 : decode cX12_next 306 = .ok (.iload_n 1, 1) := by decide +kernel
theorem dX12_next_307 : decode cX12_next 307 = .ok (.bipush 59, 2) := by decide +kernel
theorem dX12_next_309 : decode cX12_next 309 = .ok (.if_icmp .ne 7, 3) := by decide +kernel
theorem dX12_next_312 : decode cX12_next 312 = .ok (.iconst 1, 1) := by decide +kernel
theorem dX12_next_313 : decode cX12_next 313 = .ok (.goto 4, 3) := by decide +kernel
theorem dX12_next_316 : decode cX12_next 316 = .ok (.iconst 0, 1) := by decide +kernel
theorem dX12_next_317 : decode cX12_next 317 = .ok (.iconst 1, 1) := by decide +kernel
theorem dX12_next_318 : decode cX12_next 318 = .ok (.invokevirtual 301, 3) := by decide +kernel
theorem dX12_next_321 : decode cX12_next 321 = .ok (.aload_n 0, 1) := by decide +kernel
theorem dX12_next_322 : decode cX12_next 322 = .ok (.iconst 4, 1) := by decide +kernel
theorem dX12_next_323 : decode cX12_next 323 = .ok (.putfield 288, 3) := by decide +kernel
theorem dX12_next_326 : decode cX12_next 326 = .ok (.aload_n 0, 1) := by decide +kernel
theorem dX12_next_327 : decode cX12_next 327 = .ok (.dup, 1) := by decide +kernel
theorem dX12_next_328 : decode cX12_next 328 = .ok (.getfield 279, 3) := by decide +kernel
theorem dX12_next_331 : decode cX12_next 331 = .ok (.iconst 1, 1) := by decide +kernel
theorem dX12_next_332 : decode cX12_next 332 = .ok (.iadd, 1) := by decide +kernel
theorem dX12_next_333 : decode cX12_next 333 = .ok (.putfield 279, 3) := by decide +kernel
theorem dX12_next_336 : decode cX12_next 336 = .ok (.return_, 1) := by decide +kernel
theorem dX12_goesOn_0 : decode cX12_goesOn 0 = .ok (.aload_n 0, 1) := by decide +kernel
theorem dX12_goesOn_1 : decode cX12_goesOn 1 = .ok (.getfield 270, 3) := by decide +kernel
theorem dX12_goesOn_4 : decode cX12_goesOn 4 = .ok (.ifCond .ne 7, 3) := by decide +kernel
theorem dX12_goesOn_7 : decode cX12_goesOn 7 = .ok (.aload_n 0, 1) := by decide +kernel
theorem dX12_goesOn_8 : decode cX12_goesOn 8 = .ok (.invokevirtual 313, 3) := by decide +kernel
theorem dX12_goesOn_11 : decode cX12_goesOn 11 = .ok (.return_, 1) := by decide +kernel
theorem dX12_forgets_0 : decode cX12_forgets 0 = .ok (.aload_n 0, 1) := by decide +kernel
theorem dX12_forgets_1 : decode cX12_forgets 1 = .ok (.bipush (-4), 2) := by decide +kernel
theorem dX12_forgets_3 : decode cX12_forgets 3 = .ok (.putfield 316, 3) := by decide +kernel
theorem dX12_forgets_6 : decode cX12_forgets 6 = .ok (.aload_n 0, 1) := by decide +kernel
theorem dX12_forgets_7 : decode cX12_forgets 7 = .ok (.iconst 0, 1) := by decide +kernel
theorem dX12_forgets_8 : decode cX12_forgets 8 = .ok (.putfield 319, 3) := by decide +kernel
theorem dX12_forgets_11 : decode cX12_forgets 11 = .ok (.iconst 0, 1) := by decide +kernel
theorem dX12_forgets_12 : decode cX12_forgets 12 = .ok (.istore_n 1, 1) := by decide +kernel
theorem dX12_forgets_13 : decode cX12_forgets 13 = .ok (.iload_n 1, 1) := by decide +kernel
theorem dX12_forgets_14 : decode cX12_forgets 14 = .ok (.bipush 8, 2) := by decide +kernel
theorem dX12_forgets_16 : decode cX12_forgets 16 = .ok (.if_icmp .ge 48, 3) := by decide +kernel
theorem dX12_forgets_19 : decode cX12_forgets 19 = .ok (.aload_n 0, 1) := by decide +kernel
theorem dX12_forgets_20 : decode cX12_forgets 20 = .ok (.getfield 118, 3) := by decide +kernel
theorem dX12_forgets_23 : decode cX12_forgets 23 = .ok (.iload_n 1, 1) := by decide +kernel
theorem dX12_forgets_24 : decode cX12_forgets 24 = .ok (.bipush (-4), 2) := by decide +kernel
theorem dX12_forgets_26 : decode cX12_forgets 26 = .ok (.iastore, 1) := by decide +kernel
theorem dX12_forgets_27 : decode cX12_forgets 27 = .ok (.aload_n 0, 1) := by decide +kernel
theorem dX12_forgets_28 : decode cX12_forgets 28 = .ok (.getfield 121, 3) := by decide +kernel
theorem dX12_forgets_31 : decode cX12_forgets 31 = .ok (.iload_n 1, 1) := by decide +kernel
theorem dX12_forgets_32 : decode cX12_forgets 32 = .ok (.bipush (-4), 2) := by decide +kernel
theorem dX12_forgets_34 : decode cX12_forgets 34 = .ok (.iastore, 1) := by decide +kernel
theorem dX12_forgets_35 : decode cX12_forgets 35 = .ok (.aload_n 0, 1) := by decide +kernel
theorem dX12_forgets_36 : decode cX12_forgets 36 = .ok (.getfield 124, 3) := by decide +kernel
theorem dX12_forgets_39 : decode cX12_forgets 39 = .ok (.iload_n 1, 1) := by decide +kernel
theorem dX12_forgets_40 : decode cX12_forgets 40 = .ok (.iconst 0, 1) := by decide +kernel
theorem dX12_forgets_41 : decode cX12_forgets 41 = .ok (.iastore, 1) := by decide +kernel
theorem dX12_forgets_42 : decode cX12_forgets 42 = .ok (.aload_n 0, 1) := by decide +kernel
theorem dX12_forgets_43 : decode cX12_forgets 43 = .ok (.getfield 127, 3) := by decide +kernel
theorem dX12_forgets_46 : decode cX12_forgets 46 = .ok (.iload_n 1, 1) := by decide +kernel
theorem dX12_forgets_47 : decode cX12_forgets 47 = .ok (.bipush (-4), 2) := by decide +kernel
theorem dX12_forgets_49 : decode cX12_forgets 49 = .ok (.iastore, 1) := by decide +kernel
theorem dX12_forgets_50 : decode cX12_forgets 50 = .ok (.aload_n 0, 1) := by decide +kernel
theorem dX12_forgets_51 : decode cX12_forgets 51 = .ok (.getfield 130, 3) := by decide +kernel
theorem dX12_forgets_54 : decode cX12_forgets 54 = .ok (.iload_n 1, 1) := by decide +kernel
theorem dX12_forgets_55 : decode cX12_forgets 55 = .ok (.bipush (-4), 2) := by decide +kernel
theorem dX12_forgets_57 : decode cX12_forgets 57 = .ok (.iastore, 1) := by decide +kernel
theorem dX12_forgets_58 : decode cX12_forgets 58 = .ok (.iinc 1 1, 3) := by decide +kernel
theorem dX12_forgets_61 : decode cX12_forgets 61 = .ok (.goto (-48), 3) := by decide +kernel
theorem dX12_forgets_64 : decode cX12_forgets 64 = .ok (.aload_n 0, 1) := by decide +kernel
theorem dX12_forgets_65 : decode cX12_forgets 65 = .ok (.invokevirtual 322, 3) := by decide +kernel
theorem dX12_forgets_68 : decode cX12_forgets 68 = .ok (.return_, 1) := by decide +kernel
theorem dX12_takes_0 : decode cX12_takes 0 = .ok (.aload_n 0, 1) := by decide +kernel
theorem dX12_takes_1 : decode cX12_takes 1 = .ok (.aload_n 0, 1) := by decide +kernel
theorem dX12_takes_2 : decode cX12_takes 2 = .ok (.getfield 316, 3) := by decide +kernel
theorem dX12_takes_5 : decode cX12_takes 5 = .ok (.bipush (-4), 2) := by decide +kernel
theorem dX12_takes_7 : decode cX12_takes 7 = .ok (.if_icmp .ne 7, 3) := by decide +kernel
theorem dX12_takes_10 : decode cX12_takes 10 = .ok (.iconst 5, 1) := by decide +kernel
theorem dX12_takes_11 : decode cX12_takes 11 = .ok (.goto 7, 3) := by decide +kernel
theorem dX12_takes_14 : decode cX12_takes 14 = .ok (.aload_n 0, 1) := by decide +kernel
theorem dX12_takes_15 : decode cX12_takes 15 = .ok (.getfield 316, 3) := by decide +kernel
theorem dX12_takes_18 : decode cX12_takes 18 = .ok (.putfield 325, 3) := by decide +kernel
theorem dX12_takes_21 : decode cX12_takes 21 = .ok (.aload_n 0, 1) := by decide +kernel
theorem dX12_takes_22 : decode cX12_takes 22 = .ok (.aload_n 0, 1) := by decide +kernel
theorem dX12_takes_23 : decode cX12_takes 23 = .ok (.getfield 319, 3) := by decide +kernel
theorem dX12_takes_26 : decode cX12_takes 26 = .ok (.putfield 328, 3) := by decide +kernel
theorem dX12_takes_29 : decode cX12_takes 29 = .ok (.iconst 0, 1) := by decide +kernel
theorem dX12_takes_30 : decode cX12_takes 30 = .ok (.istore_n 1, 1) := by decide +kernel
theorem dX12_takes_31 : decode cX12_takes 31 = .ok (.iload_n 1, 1) := by decide +kernel
theorem dX12_takes_32 : decode cX12_takes 32 = .ok (.bipush 8, 2) := by decide +kernel
theorem dX12_takes_34 : decode cX12_takes 34 = .ok (.if_icmp .ge 118, 3) := by decide +kernel
theorem dX12_takes_37 : decode cX12_takes 37 = .ok (.aload_n 0, 1) := by decide +kernel
theorem dX12_takes_38 : decode cX12_takes 38 = .ok (.getfield 103, 3) := by decide +kernel
theorem dX12_takes_41 : decode cX12_takes 41 = .ok (.iload_n 1, 1) := by decide +kernel
theorem dX12_takes_42 : decode cX12_takes 42 = .ok (.aload_n 0, 1) := by decide +kernel
theorem dX12_takes_43 : decode cX12_takes 43 = .ok (.getfield 118, 3) := by decide +kernel
theorem dX12_takes_46 : decode cX12_takes 46 = .ok (.iload_n 1, 1) := by decide +kernel
theorem dX12_takes_47 : decode cX12_takes 47 = .ok (.iaload, 1) := by decide +kernel
theorem dX12_takes_48 : decode cX12_takes 48 = .ok (.bipush (-4), 2) := by decide +kernel
theorem dX12_takes_50 : decode cX12_takes 50 = .ok (.if_icmp .ne 9, 3) := by decide +kernel
theorem dX12_takes_53 : decode cX12_takes 53 = .ok (.sipush 1800, 3) := by decide +kernel
theorem dX12_takes_56 : decode cX12_takes 56 = .ok (.goto 9, 3) := by decide +kernel
theorem dX12_takes_59 : decode cX12_takes 59 = .ok (.aload_n 0, 1) := by decide +kernel
theorem dX12_takes_60 : decode cX12_takes 60 = .ok (.getfield 118, 3) := by decide +kernel
theorem dX12_takes_63 : decode cX12_takes 63 = .ok (.iload_n 1, 1) := by decide +kernel
theorem dX12_takes_64 : decode cX12_takes 64 = .ok (.iaload, 1) := by decide +kernel
theorem dX12_takes_65 : decode cX12_takes 65 = .ok (.iastore, 1) := by decide +kernel
theorem dX12_takes_66 : decode cX12_takes 66 = .ok (.aload_n 0, 1) := by decide +kernel
theorem dX12_takes_67 : decode cX12_takes 67 = .ok (.getfield 106, 3) := by decide +kernel
theorem dX12_takes_70 : decode cX12_takes 70 = .ok (.iload_n 1, 1) := by decide +kernel
theorem dX12_takes_71 : decode cX12_takes 71 = .ok (.aload_n 0, 1) := by decide +kernel
theorem dX12_takes_72 : decode cX12_takes 72 = .ok (.getfield 121, 3) := by decide +kernel
theorem dX12_takes_75 : decode cX12_takes 75 = .ok (.iload_n 1, 1) := by decide +kernel
theorem dX12_takes_76 : decode cX12_takes 76 = .ok (.iaload, 1) := by decide +kernel
theorem dX12_takes_77 : decode cX12_takes 77 = .ok (.bipush (-4), 2) := by decide +kernel
theorem dX12_takes_79 : decode cX12_takes 79 = .ok (.if_icmp .ne 9, 3) := by decide +kernel
theorem dX12_takes_82 : decode cX12_takes 82 = .ok (.sipush 2000, 3) := by decide +kernel
theorem dX12_takes_85 : decode cX12_takes 85 = .ok (.goto 9, 3) := by decide +kernel
theorem dX12_takes_88 : decode cX12_takes 88 = .ok (.aload_n 0, 1) := by decide +kernel
theorem dX12_takes_89 : decode cX12_takes 89 = .ok (.getfield 121, 3) := by decide +kernel
theorem dX12_takes_92 : decode cX12_takes 92 = .ok (.iload_n 1, 1) := by decide +kernel
theorem dX12_takes_93 : decode cX12_takes 93 = .ok (.iaload, 1) := by decide +kernel
theorem dX12_takes_94 : decode cX12_takes 94 = .ok (.iastore, 1) := by decide +kernel
theorem dX12_takes_95 : decode cX12_takes 95 = .ok (.aload_n 0, 1) := by decide +kernel
theorem dX12_takes_96 : decode cX12_takes 96 = .ok (.getfield 109, 3) := by decide +kernel
theorem dX12_takes_99 : decode cX12_takes 99 = .ok (.iload_n 1, 1) := by decide +kernel
theorem dX12_takes_100 : decode cX12_takes 100 = .ok (.aload_n 0, 1) := by decide +kernel
theorem dX12_takes_101 : decode cX12_takes 101 = .ok (.getfield 124, 3) := by decide +kernel
theorem dX12_takes_104 : decode cX12_takes 104 = .ok (.iload_n 1, 1) := by decide +kernel
theorem dX12_takes_105 : decode cX12_takes 105 = .ok (.iaload, 1) := by decide +kernel
theorem dX12_takes_106 : decode cX12_takes 106 = .ok (.iastore, 1) := by decide +kernel
theorem dX12_takes_107 : decode cX12_takes 107 = .ok (.aload_n 0, 1) := by decide +kernel
theorem dX12_takes_108 : decode cX12_takes 108 = .ok (.getfield 112, 3) := by decide +kernel
theorem dX12_takes_111 : decode cX12_takes 111 = .ok (.iload_n 1, 1) := by decide +kernel
theorem dX12_takes_112 : decode cX12_takes 112 = .ok (.aload_n 0, 1) := by decide +kernel
theorem dX12_takes_113 : decode cX12_takes 113 = .ok (.getfield 127, 3) := by decide +kernel
theorem dX12_takes_116 : decode cX12_takes 116 = .ok (.iload_n 1, 1) := by decide +kernel
theorem dX12_takes_117 : decode cX12_takes 117 = .ok (.iaload, 1) := by decide +kernel
theorem dX12_takes_118 : decode cX12_takes 118 = .ok (.bipush (-4), 2) := by decide +kernel
theorem dX12_takes_120 : decode cX12_takes 120 = .ok (.if_icmp .ne 7, 3) := by decide +kernel
theorem dX12_takes_123 : decode cX12_takes 123 = .ok (.iconst 0, 1) := by decide +kernel
theorem dX12_takes_124 : decode cX12_takes 124 = .ok (.goto 9, 3) := by decide +kernel
theorem dX12_takes_127 : decode cX12_takes 127 = .ok (.aload_n 0, 1) := by decide +kernel
theorem dX12_takes_128 : decode cX12_takes 128 = .ok (.getfield 127, 3) := by decide +kernel
theorem dX12_takes_131 : decode cX12_takes 131 = .ok (.iload_n 1, 1) := by decide +kernel
theorem dX12_takes_132 : decode cX12_takes 132 = .ok (.iaload, 1) := by decide +kernel
theorem dX12_takes_133 : decode cX12_takes 133 = .ok (.iastore, 1) := by decide +kernel
theorem dX12_takes_134 : decode cX12_takes 134 = .ok (.aload_n 0, 1) := by decide +kernel
theorem dX12_takes_135 : decode cX12_takes 135 = .ok (.getfield 115, 3) := by decide +kernel
theorem dX12_takes_138 : decode cX12_takes 138 = .ok (.iload_n 1, 1) := by decide +kernel
theorem dX12_takes_139 : decode cX12_takes 139 = .ok (.aload_n 0, 1) := by decide +kernel
theorem dX12_takes_140 : decode cX12_takes 140 = .ok (.getfield 130, 3) := by decide +kernel
theorem dX12_takes_143 : decode cX12_takes 143 = .ok (.iload_n 1, 1) := by decide +kernel
theorem dX12_takes_144 : decode cX12_takes 144 = .ok (.iaload, 1) := by decide +kernel
theorem dX12_takes_145 : decode cX12_takes 145 = .ok (.iastore, 1) := by decide +kernel
theorem dX12_takes_146 : decode cX12_takes 146 = .ok (.iinc 1 1, 3) := by decide +kernel
theorem dX12_takes_149 : decode cX12_takes 149 = .ok (.goto (-118), 3) := by decide +kernel
theorem dX12_takes_152 : decode cX12_takes 152 = .ok (.return_, 1) := by decide +kernel
theorem dX12_number_0 : decode cX12_number 0 = .ok (.aload_n 0, 1) := by decide +kernel
theorem dX12_number_1 : decode cX12_number 1 = .ok (.aload_n 0, 1) := by decide +kernel
theorem dX12_number_2 : decode cX12_number 2 = .ok (.getfield 288, 3) := by decide +kernel
theorem dX12_number_5 : decode cX12_number 5 = .ok (.iconst 3, 1) := by decide +kernel
theorem dX12_number_6 : decode cX12_number 6 = .ok (.if_icmp .ne 7, 3) := by decide +kernel
theorem dX12_number_9 : decode cX12_number 9 = .ok (.iconst 1, 1) := by decide +kernel
theorem dX12_number_10 : decode cX12_number 10 = .ok (.goto 4, 3) := by decide +kernel
theorem dX12_number_13 : decode cX12_number 13 = .ok (.iconst 0, 1) := by decide +kernel
theorem dX12_number_14 : decode cX12_number 14 = .ok (.iconst 2, 1) := by decide +kernel
theorem dX12_number_15 : decode cX12_number 15 = .ok (.invokevirtual 301, 3) := by decide +kernel
theorem dX12_number_18 : decode cX12_number 18 = .ok (.aload_n 0, 1) := by decide +kernel
theorem dX12_number_19 : decode cX12_number 19 = .ok (.getfield 270, 3) := by decide +kernel
theorem dX12_number_22 : decode cX12_number 22 = .ok (.ifCond .ne 20, 3) := by decide +kernel
theorem dX12_number_25 : decode cX12_number 25 = .ok (.aload_n 0, 1) := by decide +kernel
theorem dX12_number_26 : decode cX12_number 26 = .ok (.aload_n 0, 1) := by decide +kernel
theorem dX12_number_27 : decode cX12_number 27 = .ok (.getfield 298, 3) := by decide +kernel
theorem dX12_number_30 : decode cX12_number 30 = .ok (.i2l, 1) := by decide +kernel
theorem dX12_number_31 : decode cX12_number 31 = .ok (.iload_n 1, 1) := by decide +kernel
theorem dX12_number_32 : decode cX12_number 32 = .ok (.i2l, 1) := by decide +kernel
theorem dX12_number_33 : decode cX12_number 33 = .ok (.iload_n 2, 1) := by decide +kernel
theorem dX12_number_34 : decode cX12_number 34 = .ok (.i2l, 1) := by decide +kernel
theorem dX12_number_35 : decode cX12_number 35 = .ok (.invokestatic 145, 3) := by decide +kernel
theorem dX12_number_38 : decode cX12_number 38 = .ok (.iconst 3, 1) := by decide +kernel
theorem dX12_number_39 : decode cX12_number 39 = .ok (.invokevirtual 301, 3) := by decide +kernel
theorem dX12_number_42 : decode cX12_number 42 = .ok (.aload_n 0, 1) := by decide +kernel
theorem dX12_number_43 : decode cX12_number 43 = .ok (.getfield 298, 3) := by decide +kernel
theorem dX12_number_46 : decode cX12_number 46 = .ok (.ireturn, 1) := by decide +kernel
theorem dX12_letter_0 : decode cX12_letter 0 = .ok (.aload_n 0, 1) := by decide +kernel
theorem dX12_letter_1 : decode cX12_letter 1 = .ok (.aload_n 0, 1) := by decide +kernel
theorem dX12_letter_2 : decode cX12_letter 2 = .ok (.getfield 288, 3) := by decide +kernel
theorem dX12_letter_5 : decode cX12_letter 5 = .ok (.iconst 2, 1) := by decide +kernel
theorem dX12_letter_6 : decode cX12_letter 6 = .ok (.if_icmp .ne 7, 3) := by decide +kernel
theorem dX12_letter_9 : decode cX12_letter 9 = .ok (.iconst 1, 1) := by decide +kernel
theorem dX12_letter_10 : decode cX12_letter 10 = .ok (.goto 4, 3) := by decide +kernel
theorem dX12_letter_13 : decode cX12_letter 13 = .ok (.iconst 0, 1) := by decide +kernel
theorem dX12_letter_14 : decode cX12_letter 14 = .ok (.iconst 2, 1) := by decide +kernel
theorem dX12_letter_15 : decode cX12_letter 15 = .ok (.invokevirtual 301, 3) := by decide +kernel
theorem dX12_letter_18 : decode cX12_letter 18 = .ok (.aload_n 0, 1) := by decide +kernel
theorem dX12_letter_19 : decode cX12_letter 19 = .ok (.getfield 298, 3) := by decide +kernel
theorem dX12_letter_22 : decode cX12_letter 22 = .ok (.ireturn, 1) := by decide +kernel
theorem dX12_readStamp_0 : decode cX12_readStamp 0 = .ok (.aload_n 0, 1) := by decide +kernel
theorem dX12_readStamp_1 : decode cX12_readStamp 1 = .ok (.iconst 0, 1) := by decide +kernel
theorem dX12_readStamp_2 : decode cX12_readStamp 2 = .ok (.bipush 7, 2) := by decide +kernel
theorem dX12_readStamp_4 : decode cX12_readStamp 4 = .ok (.invokevirtual 331, 3) := by decide +kernel
theorem dX12_readStamp_7 : decode cX12_readStamp 7 = .ok (.istore_n 1, 1) := by decide +kernel
theorem dX12_readStamp_8 : decode cX12_readStamp 8 = .ok (.aload_n 0, 1) := by decide +kernel
theorem dX12_readStamp_9 : decode cX12_readStamp 9 = .ok (.getfield 270, 3) := by decide +kernel
theorem dX12_readStamp_12 : decode cX12_readStamp 12 = .ok (.ifCond .ne 24, 3) := by decide +kernel
theorem dX12_readStamp_15 : decode cX12_readStamp 15 = .ok (.aload_n 0, 1) := by decide +kernel
theorem dX12_readStamp_16 : decode cX12_readStamp 16 = .ok (.aload_n 0, 1) := by decide +kernel
theorem dX12_readStamp_17 : decode cX12_readStamp 17 = .ok (.getfield 118, 3) := by decide +kernel
theorem dX12_readStamp_20 : decode cX12_readStamp 20 = .ok (.iload_n 1, 1) := by decide +kernel
theorem dX12_readStamp_21 : decode cX12_readStamp 21 = .ok (.iaload, 1) := by decide +kernel
theorem dX12_readStamp_22 : decode cX12_readStamp 22 = .ok (.bipush (-4), 2) := by decide +kernel
theorem dX12_readStamp_24 : decode cX12_readStamp 24 = .ok (.if_icmp .ne 7, 3) := by decide +kernel
theorem dX12_readStamp_27 : decode cX12_readStamp 27 = .ok (.iconst 1, 1) := by decide +kernel
theorem dX12_readStamp_28 : decode cX12_readStamp 28 = .ok (.goto 4, 3) := by decide +kernel
theorem dX12_readStamp_31 : decode cX12_readStamp 31 = .ok (.iconst 0, 1) := by decide +kernel
theorem dX12_readStamp_32 : decode cX12_readStamp 32 = .ok (.iconst 4, 1) := by decide +kernel
theorem dX12_readStamp_33 : decode cX12_readStamp 33 = .ok (.invokevirtual 301, 3) := by decide +kernel
theorem dX12_readStamp_36 : decode cX12_readStamp 36 = .ok (.aload_n 0, 1) := by decide +kernel
theorem dX12_readStamp_37 : decode cX12_readStamp 37 = .ok (.invokevirtual 334, 3) := by decide +kernel
theorem dX12_readStamp_40 : decode cX12_readStamp 40 = .ok (.aload_n 0, 1) := by decide +kernel
theorem dX12_readStamp_41 : decode cX12_readStamp 41 = .ok (.getfield 270, 3) := by decide +kernel
theorem dX12_readStamp_44 : decode cX12_readStamp 44 = .ok (.ifCond .ne 16, 3) := by decide +kernel
theorem dX12_readStamp_47 : decode cX12_readStamp 47 = .ok (.aload_n 0, 1) := by decide +kernel
theorem dX12_readStamp_48 : decode cX12_readStamp 48 = .ok (.sipush 1800, 3) := by decide +kernel
theorem dX12_readStamp_51 : decode cX12_readStamp 51 = .ok (.sipush 2000, 3) := by decide +kernel
theorem dX12_readStamp_54 : decode cX12_readStamp 54 = .ok (.invokevirtual 331, 3) := by decide +kernel
theorem dX12_readStamp_57 : decode cX12_readStamp 57 = .ok (.goto 4, 3) := by decide +kernel
theorem dX12_readStamp_60 : decode cX12_readStamp 60 = .ok (.iconst 0, 1) := by decide +kernel
theorem dX12_readStamp_61 : decode cX12_readStamp 61 = .ok (.istore_n 2, 1) := by decide +kernel
theorem dX12_readStamp_62 : decode cX12_readStamp 62 = .ok (.aload_n 0, 1) := by decide +kernel
theorem dX12_readStamp_63 : decode cX12_readStamp 63 = .ok (.invokevirtual 334, 3) := by decide +kernel
theorem dX12_readStamp_66 : decode cX12_readStamp 66 = .ok (.aload_n 0, 1) := by decide +kernel
theorem dX12_readStamp_67 : decode cX12_readStamp 67 = .ok (.getfield 270, 3) := by decide +kernel
theorem dX12_readStamp_70 : decode cX12_readStamp 70 = .ok (.ifCond .ne 14, 3) := by decide +kernel
theorem dX12_readStamp_73 : decode cX12_readStamp 73 = .ok (.aload_n 0, 1) := by decide +kernel
theorem dX12_readStamp_74 : decode cX12_readStamp 74 = .ok (.iload_n 2, 1) := by decide +kernel
theorem dX12_readStamp_75 : decode cX12_readStamp 75 = .ok (.sipush 2000, 3) := by decide +kernel
theorem dX12_readStamp_78 : decode cX12_readStamp 78 = .ok (.invokevirtual 331, 3) := by decide +kernel
theorem dX12_readStamp_81 : decode cX12_readStamp 81 = .ok (.goto 4, 3) := by decide +kernel
theorem dX12_readStamp_84 : decode cX12_readStamp 84 = .ok (.iconst 0, 1) := by decide +kernel
theorem dX12_readStamp_85 : decode cX12_readStamp 85 = .ok (.istore_n 3, 1) := by decide +kernel
theorem dX12_readStamp_86 : decode cX12_readStamp 86 = .ok (.aload_n 0, 1) := by decide +kernel
theorem dX12_readStamp_87 : decode cX12_readStamp 87 = .ok (.getfield 270, 3) := by decide +kernel
theorem dX12_readStamp_90 : decode cX12_readStamp 90 = .ok (.ifCond .ne 17, 3) := by decide +kernel
theorem dX12_readStamp_93 : decode cX12_readStamp 93 = .ok (.aload_n 0, 1) := by decide +kernel
theorem dX12_readStamp_94 : decode cX12_readStamp 94 = .ok (.getfield 118, 3) := by decide +kernel
theorem dX12_readStamp_97 : decode cX12_readStamp 97 = .ok (.iload_n 1, 1) := by decide +kernel
theorem dX12_readStamp_98 : decode cX12_readStamp 98 = .ok (.iload_n 2, 1) := by decide +kernel
theorem dX12_readStamp_99 : decode cX12_readStamp 99 = .ok (.iastore, 1) := by decide +kernel
theorem dX12_readStamp_100 : decode cX12_readStamp 100 = .ok (.aload_n 0, 1) := by decide +kernel
theorem dX12_readStamp_101 : decode cX12_readStamp 101 = .ok (.getfield 121, 3) := by decide +kernel
theorem dX12_readStamp_104 : decode cX12_readStamp 104 = .ok (.iload_n 1, 1) := by decide +kernel
theorem dX12_readStamp_105 : decode cX12_readStamp 105 = .ok (.iload_n 3, 1) := by decide +kernel
theorem dX12_readStamp_106 : decode cX12_readStamp 106 = .ok (.iastore, 1) := by decide +kernel
theorem dX12_readStamp_107 : decode cX12_readStamp 107 = .ok (.return_, 1) := by decide +kernel
theorem dX12_readBar_0 : decode cX12_readBar 0 = .ok (.aload_n 0, 1) := by decide +kernel
theorem dX12_readBar_1 : decode cX12_readBar 1 = .ok (.iconst 0, 1) := by decide +kernel
theorem dX12_readBar_2 : decode cX12_readBar 2 = .ok (.bipush 7, 2) := by decide +kernel
theorem dX12_readBar_4 : decode cX12_readBar 4 = .ok (.invokevirtual 331, 3) := by decide +kernel
theorem dX12_readBar_7 : decode cX12_readBar 7 = .ok (.istore_n 1, 1) := by decide +kernel
theorem dX12_readBar_8 : decode cX12_readBar 8 = .ok (.aload_n 0, 1) := by decide +kernel
theorem dX12_readBar_9 : decode cX12_readBar 9 = .ok (.invokevirtual 334, 3) := by decide +kernel
theorem dX12_readBar_12 : decode cX12_readBar 12 = .ok (.aload_n 0, 1) := by decide +kernel
theorem dX12_readBar_13 : decode cX12_readBar 13 = .ok (.getfield 270, 3) := by decide +kernel
theorem dX12_readBar_16 : decode cX12_readBar 16 = .ok (.ifCond .ne 13, 3) := by decide +kernel
theorem dX12_readBar_19 : decode cX12_readBar 19 = .ok (.aload_n 0, 1) := by decide +kernel
theorem dX12_readBar_20 : decode cX12_readBar 20 = .ok (.iconst 0, 1) := by decide +kernel
theorem dX12_readBar_21 : decode cX12_readBar 21 = .ok (.bipush 7, 2) := by decide +kernel
theorem dX12_readBar_23 : decode cX12_readBar 23 = .ok (.invokevirtual 331, 3) := by decide +kernel
theorem dX12_readBar_26 : decode cX12_readBar 26 = .ok (.goto 4, 3) := by decide +kernel
theorem dX12_readBar_29 : decode cX12_readBar 29 = .ok (.iconst 0, 1) := by decide +kernel
theorem dX12_readBar_30 : decode cX12_readBar 30 = .ok (.istore_n 2, 1) := by decide +kernel
theorem dX12_readBar_31 : decode cX12_readBar 31 = .ok (.aload_n 0, 1) := by decide +kernel
theorem dX12_readBar_32 : decode cX12_readBar 32 = .ok (.getfield 270, 3) := by decide +kernel
theorem dX12_readBar_35 : decode cX12_readBar 35 = .ok (.ifCond .ne 18, 3) := by decide +kernel
theorem dX12_readBar_38 : decode cX12_readBar 38 = .ok (.aload_n 0, 1) := by decide +kernel
theorem dX12_readBar_39 : decode cX12_readBar 39 = .ok (.iload_n 1, 1) := by decide +kernel
theorem dX12_readBar_40 : decode cX12_readBar 40 = .ok (.iload_n 2, 1) := by decide +kernel
theorem dX12_readBar_41 : decode cX12_readBar 41 = .ok (.if_icmp .eq 7, 3) := by decide +kernel
theorem dX12_readBar_44 : decode cX12_readBar 44 = .ok (.iconst 1, 1) := by decide +kernel
theorem dX12_readBar_45 : decode cX12_readBar 45 = .ok (.goto 4, 3) := by decide +kernel
theorem dX12_readBar_48 : decode cX12_readBar 48 = .ok (.iconst 0, 1) := by decide +kernel
theorem dX12_readBar_49 : decode cX12_readBar 49 = .ok (.iconst 3, 1) := by decide +kernel
theorem dX12_readBar_50 : decode cX12_readBar 50 = .ok (.invokevirtual 301, 3) := by decide +kernel
theorem dX12_readBar_53 : decode cX12_readBar 53 = .ok (.aload_n 0, 1) := by decide +kernel
theorem dX12_readBar_54 : decode cX12_readBar 54 = .ok (.getfield 270, 3) := by decide +kernel
theorem dX12_readBar_57 : decode cX12_readBar 57 = .ok (.ifCond .ne 27, 3) := by decide +kernel
theorem dX12_readBar_60 : decode cX12_readBar 60 = .ok (.aload_n 0, 1) := by decide +kernel
theorem dX12_readBar_61 : decode cX12_readBar 61 = .ok (.getfield 124, 3) := by decide +kernel
theorem dX12_readBar_64 : decode cX12_readBar 64 = .ok (.iload_n 1, 1) := by decide +kernel
theorem dX12_readBar_65 : decode cX12_readBar 65 = .ok (.dup2, 1) := by decide +kernel
theorem dX12_readBar_66 : decode cX12_readBar 66 = .ok (.iaload, 1) := by decide +kernel
theorem dX12_readBar_67 : decode cX12_readBar 67 = .ok (.iconst 1, 1) := by decide +kernel
theorem dX12_readBar_68 : decode cX12_readBar 68 = .ok (.iload_n 2, 1) := by decide +kernel
theorem dX12_readBar_69 : decode cX12_readBar 69 = .ok (.ishl, 1) := by decide +kernel
theorem dX12_readBar_70 : decode cX12_readBar 70 = .ok (.ior, 1) := by decide +kernel
theorem dX12_readBar_71 : decode cX12_readBar 71 = .ok (.iastore, 1) := by decide +kernel
theorem dX12_readBar_72 : decode cX12_readBar 72 = .ok (.aload_n 0, 1) := by decide +kernel
theorem dX12_readBar_73 : decode cX12_readBar 73 = .ok (.getfield 124, 3) := by decide +kernel
theorem dX12_readBar_76 : decode cX12_readBar 76 = .ok (.iload_n 2, 1) := by decide +kernel
theorem dX12_readBar_77 : decode cX12_readBar 77 = .ok (.dup2, 1) := by decide +kernel
theorem dX12_readBar_78 : decode cX12_readBar 78 = .ok (.iaload, 1) := by decide +kernel
theorem dX12_readBar_79 : decode cX12_readBar 79 = .ok (.iconst 1, 1) := by decide +kernel
theorem dX12_readBar_80 : decode cX12_readBar 80 = .ok (.iload_n 1, 1) := by decide +kernel
theorem dX12_readBar_81 : decode cX12_readBar 81 = .ok (.ishl, 1) := by decide +kernel
theorem dX12_readBar_82 : decode cX12_readBar 82 = .ok (.ior, 1) := by decide +kernel
theorem dX12_readBar_83 : decode cX12_readBar 83 = .ok (.iastore, 1) := by decide +kernel
theorem dX12_readBar_84 : decode cX12_readBar 84 = .ok (.return_, 1) := by decide +kernel
theorem dX12_readLeast_0 : decode cX12_readLeast 0 = .ok (.aload_n 0, 1) := by decide +kernel
theorem dX12_readLeast_1 : decode cX12_readLeast 1 = .ok (.invokevirtual 337, 3) := by decide +kernel
theorem dX12_readLeast_4 : decode cX12_readLeast 4 = .ok (.istore_n 1, 1) := by decide +kernel
theorem dX12_readLeast_5 : decode cX12_readLeast 5 = .ok (.aload_n 0, 1) := by decide +kernel
theorem dX12_readLeast_6 : decode cX12_readLeast 6 = .ok (.getfield 270, 3) := by decide +kernel
theorem dX12_readLeast_9 : decode cX12_readLeast 9 = .ok (.ifCond .ne 24, 3) := by decide +kernel
theorem dX12_readLeast_12 : decode cX12_readLeast 12 = .ok (.aload_n 0, 1) := by decide +kernel
theorem dX12_readLeast_13 : decode cX12_readLeast 13 = .ok (.aload_n 0, 1) := by decide +kernel
theorem dX12_readLeast_14 : decode cX12_readLeast 14 = .ok (.getfield 127, 3) := by decide +kernel
theorem dX12_readLeast_17 : decode cX12_readLeast 17 = .ok (.iload_n 1, 1) := by decide +kernel
theorem dX12_readLeast_18 : decode cX12_readLeast 18 = .ok (.iaload, 1) := by decide +kernel
theorem dX12_readLeast_19 : decode cX12_readLeast 19 = .ok (.bipush (-4), 2) := by decide +kernel
theorem dX12_readLeast_21 : decode cX12_readLeast 21 = .ok (.if_icmp .ne 7, 3) := by decide +kernel
theorem dX12_readLeast_24 : decode cX12_readLeast 24 = .ok (.iconst 1, 1) := by decide +kernel
theorem dX12_readLeast_25 : decode cX12_readLeast 25 = .ok (.goto 4, 3) := by decide +kernel
theorem dX12_readLeast_28 : decode cX12_readLeast 28 = .ok (.iconst 0, 1) := by decide +kernel
theorem dX12_readLeast_29 : decode cX12_readLeast 29 = .ok (.iconst 4, 1) := by decide +kernel
theorem dX12_readLeast_30 : decode cX12_readLeast 30 = .ok (.invokevirtual 301, 3) := by decide +kernel
theorem dX12_readLeast_33 : decode cX12_readLeast 33 = .ok (.aload_n 0, 1) := by decide +kernel
theorem dX12_readLeast_34 : decode cX12_readLeast 34 = .ok (.invokevirtual 334, 3) := by decide +kernel
theorem dX12_readLeast_37 : decode cX12_readLeast 37 = .ok (.aload_n 0, 1) := by decide +kernel
theorem dX12_readLeast_38 : decode cX12_readLeast 38 = .ok (.getfield 270, 3) := by decide +kernel
theorem dX12_readLeast_41 : decode cX12_readLeast 41 = .ok (.ifCond .ne 12, 3) := by decide +kernel
theorem dX12_readLeast_44 : decode cX12_readLeast 44 = .ok (.aload_n 0, 1) := by decide +kernel
theorem dX12_readLeast_45 : decode cX12_readLeast 45 = .ok (.iconst 0, 1) := by decide +kernel
theorem dX12_readLeast_46 : decode cX12_readLeast 46 = .ok (.iconst 5, 1) := by decide +kernel
theorem dX12_readLeast_47 : decode cX12_readLeast 47 = .ok (.invokevirtual 331, 3) := by decide +kernel
theorem dX12_readLeast_50 : decode cX12_readLeast 50 = .ok (.goto 4, 3) := by decide +kernel
theorem dX12_readLeast_53 : decode cX12_readLeast 53 = .ok (.iconst 0, 1) := by decide +kernel
theorem dX12_readLeast_54 : decode cX12_readLeast 54 = .ok (.istore_n 2, 1) := by decide +kernel
theorem dX12_readLeast_55 : decode cX12_readLeast 55 = .ok (.aload_n 0, 1) := by decide +kernel
theorem dX12_readLeast_56 : decode cX12_readLeast 56 = .ok (.getfield 270, 3) := by decide +kernel
theorem dX12_readLeast_59 : decode cX12_readLeast 59 = .ok (.ifCond .ne 10, 3) := by decide +kernel
theorem dX12_readLeast_62 : decode cX12_readLeast 62 = .ok (.aload_n 0, 1) := by decide +kernel
theorem dX12_readLeast_63 : decode cX12_readLeast 63 = .ok (.getfield 127, 3) := by decide +kernel
theorem dX12_readLeast_66 : decode cX12_readLeast 66 = .ok (.iload_n 1, 1) := by decide +kernel
theorem dX12_readLeast_67 : decode cX12_readLeast 67 = .ok (.iload_n 2, 1) := by decide +kernel
theorem dX12_readLeast_68 : decode cX12_readLeast 68 = .ok (.iastore, 1) := by decide +kernel
theorem dX12_readLeast_69 : decode cX12_readLeast 69 = .ok (.return_, 1) := by decide +kernel
theorem dX12_readSecond_0 : decode cX12_readSecond 0 = .ok (.aload_n 0, 1) := by decide +kernel
theorem dX12_readSecond_1 : decode cX12_readSecond 1 = .ok (.invokevirtual 337, 3) := by decide +kernel
theorem dX12_readSecond_4 : decode cX12_readSecond 4 = .ok (.istore_n 1, 1) := by decide +kernel
theorem dX12_readSecond_5 : decode cX12_readSecond 5 = .ok (.aload_n 0, 1) := by decide +kernel
theorem dX12_readSecond_6 : decode cX12_readSecond 6 = .ok (.getfield 270, 3) := by decide +kernel
theorem dX12_readSecond_9 : decode cX12_readSecond 9 = .ok (.ifCond .ne 24, 3) := by decide +kernel
theorem dX12_readSecond_12 : decode cX12_readSecond 12 = .ok (.aload_n 0, 1) := by decide +kernel
theorem dX12_readSecond_13 : decode cX12_readSecond 13 = .ok (.aload_n 0, 1) := by decide +kernel
theorem dX12_readSecond_14 : decode cX12_readSecond 14 = .ok (.getfield 130, 3) := by decide +kernel
theorem dX12_readSecond_17 : decode cX12_readSecond 17 = .ok (.iload_n 1, 1) := by decide +kernel
theorem dX12_readSecond_18 : decode cX12_readSecond 18 = .ok (.iaload, 1) := by decide +kernel
theorem dX12_readSecond_19 : decode cX12_readSecond 19 = .ok (.bipush (-4), 2) := by decide +kernel
theorem dX12_readSecond_21 : decode cX12_readSecond 21 = .ok (.if_icmp .ne 7, 3) := by decide +kernel
theorem dX12_readSecond_24 : decode cX12_readSecond 24 = .ok (.iconst 1, 1) := by decide +kernel
theorem dX12_readSecond_25 : decode cX12_readSecond 25 = .ok (.goto 4, 3) := by decide +kernel
theorem dX12_readSecond_28 : decode cX12_readSecond 28 = .ok (.iconst 0, 1) := by decide +kernel
theorem dX12_readSecond_29 : decode cX12_readSecond 29 = .ok (.iconst 4, 1) := by decide +kernel
theorem dX12_readSecond_30 : decode cX12_readSecond 30 = .ok (.invokevirtual 301, 3) := by decide +kernel
theorem dX12_readSecond_33 : decode cX12_readSecond 33 = .ok (.aload_n 0, 1) := by decide +kernel
theorem dX12_readSecond_34 : decode cX12_readSecond 34 = .ok (.invokevirtual 334, 3) := by decide +kernel
theorem dX12_readSecond_37 : decode cX12_readSecond 37 = .ok (.aload_n 0, 1) := by decide +kernel
theorem dX12_readSecond_38 : decode cX12_readSecond 38 = .ok (.getfield 270, 3) := by decide +kernel
theorem dX12_readSecond_41 : decode cX12_readSecond 41 = .ok (.ifCond .ne 10, 3) := by decide +kernel
theorem dX12_readSecond_44 : decode cX12_readSecond 44 = .ok (.aload_n 0, 1) := by decide +kernel
theorem dX12_readSecond_45 : decode cX12_readSecond 45 = .ok (.invokevirtual 337, 3) := by decide +kernel
theorem dX12_readSecond_48 : decode cX12_readSecond 48 = .ok (.goto 4, 3) := by decide +kernel
theorem dX12_readSecond_51 : decode cX12_readSecond 51 = .ok (.iconst 0, 1) := by decide +kernel
theorem dX12_readSecond_52 : decode cX12_readSecond 52 = .ok (.istore_n 2, 1) := by decide +kernel
theorem dX12_readSecond_53 : decode cX12_readSecond 53 = .ok (.aload_n 0, 1) := by decide +kernel
theorem dX12_readSecond_54 : decode cX12_readSecond 54 = .ok (.getfield 270, 3) := by decide +kernel
theorem dX12_readSecond_57 : decode cX12_readSecond 57 = .ok (.ifCond .le 4, 3) := by decide +kernel
theorem dX12_readSecond_60 : decode cX12_readSecond 60 = .ok (.return_, 1) := by decide +kernel
theorem dX12_readSecond_61 : decode cX12_readSecond 61 = .ok (.iload_n 2, 1) := by decide +kernel
theorem dX12_readSecond_62 : decode cX12_readSecond 62 = .ok (.istore_n 3, 1) := by decide +kernel
theorem dX12_readSecond_63 : decode cX12_readSecond 63 = .ok (.iload_n 3, 1) := by decide +kernel
theorem dX12_readSecond_64 : decode cX12_readSecond 64 = .ok (.bipush (-4), 2) := by decide +kernel
theorem dX12_readSecond_66 : decode cX12_readSecond 66 = .ok (.if_icmp .eq 18, 3) := by decide +kernel
theorem dX12_readSecond_69 : decode cX12_readSecond 69 = .ok (.iload_n 3, 1) := by decide +kernel
theorem dX12_readSecond_70 : decode cX12_readSecond 70 = .ok (.iload_n 1, 1) := by decide +kernel
theorem dX12_readSecond_71 : decode cX12_readSecond 71 = .ok (.if_icmp .eq 13, 3) := by decide +kernel
theorem dX12_readSecond_74 : decode cX12_readSecond 74 = .ok (.aload_n 0, 1) := by decide +kernel
theorem dX12_readSecond_75 : decode cX12_readSecond 75 = .ok (.getfield 130, 3) := by decide +kernel
theorem dX12_readSecond_78 : decode cX12_readSecond 78 = .ok (.iload_n 3, 1) := by decide +kernel
theorem dX12_readSecond_79 : decode cX12_readSecond 79 = .ok (.iaload, 1) := by decide +kernel
theorem dX12_readSecond_80 : decode cX12_readSecond 80 = .ok (.istore_n 3, 1) := by decide +kernel
theorem dX12_readSecond_81 : decode cX12_readSecond 81 = .ok (.goto (-18), 3) := by decide +kernel
theorem dX12_readSecond_84 : decode cX12_readSecond 84 = .ok (.aload_n 0, 1) := by decide +kernel
theorem dX12_readSecond_85 : decode cX12_readSecond 85 = .ok (.iload_n 3, 1) := by decide +kernel
theorem dX12_readSecond_86 : decode cX12_readSecond 86 = .ok (.bipush (-4), 2) := by decide +kernel
theorem dX12_readSecond_88 : decode cX12_readSecond 88 = .ok (.if_icmp .ne 7, 3) := by decide +kernel
theorem dX12_readSecond_91 : decode cX12_readSecond 91 = .ok (.iconst 1, 1) := by decide +kernel
theorem dX12_readSecond_92 : decode cX12_readSecond 92 = .ok (.goto 4, 3) := by decide +kernel
theorem dX12_readSecond_95 : decode cX12_readSecond 95 = .ok (.iconst 0, 1) := by decide +kernel
theorem dX12_readSecond_96 : decode cX12_readSecond 96 = .ok (.iconst 5, 1) := by decide +kernel
theorem dX12_readSecond_97 : decode cX12_readSecond 97 = .ok (.invokevirtual 301, 3) := by decide +kernel
theorem dX12_readSecond_100 : decode cX12_readSecond 100 = .ok (.aload_n 0, 1) := by decide +kernel
theorem dX12_readSecond_101 : decode cX12_readSecond 101 = .ok (.getfield 130, 3) := by decide +kernel
theorem dX12_readSecond_104 : decode cX12_readSecond 104 = .ok (.iload_n 1, 1) := by decide +kernel
theorem dX12_readSecond_105 : decode cX12_readSecond 105 = .ok (.iload_n 2, 1) := by decide +kernel
theorem dX12_readSecond_106 : decode cX12_readSecond 106 = .ok (.iastore, 1) := by decide +kernel
theorem dX12_readSecond_107 : decode cX12_readSecond 107 = .ok (.return_, 1) := by decide +kernel
theorem dX12_readLaw_0 : decode cX12_readLaw 0 = .ok (.aload_n 0, 1) := by decide +kernel
theorem dX12_readLaw_1 : decode cX12_readLaw 1 = .ok (.aload_n 0, 1) := by decide +kernel
theorem dX12_readLaw_2 : decode cX12_readLaw 2 = .ok (.getfield 288, 3) := by decide +kernel
theorem dX12_readLaw_5 : decode cX12_readLaw 5 = .ok (.iconst 1, 1) := by decide +kernel
theorem dX12_readLaw_6 : decode cX12_readLaw 6 = .ok (.if_icmp .ne 7, 3) := by decide +kernel
theorem dX12_readLaw_9 : decode cX12_readLaw 9 = .ok (.iconst 1, 1) := by decide +kernel
theorem dX12_readLaw_10 : decode cX12_readLaw 10 = .ok (.goto 4, 3) := by decide +kernel
theorem dX12_readLaw_13 : decode cX12_readLaw 13 = .ok (.iconst 0, 1) := by decide +kernel
theorem dX12_readLaw_14 : decode cX12_readLaw 14 = .ok (.iconst 2, 1) := by decide +kernel
theorem dX12_readLaw_15 : decode cX12_readLaw 15 = .ok (.invokevirtual 301, 3) := by decide +kernel
theorem dX12_readLaw_18 : decode cX12_readLaw 18 = .ok (.aload_n 0, 1) := by decide +kernel
theorem dX12_readLaw_19 : decode cX12_readLaw 19 = .ok (.getfield 270, 3) := by decide +kernel
theorem dX12_readLaw_22 : decode cX12_readLaw 22 = .ok (.ifCond .le 4, 3) := by decide +kernel
theorem dX12_readLaw_25 : decode cX12_readLaw 25 = .ok (.return_, 1) := by decide +kernel
theorem dX12_readLaw_26 : decode cX12_readLaw 26 = .ok (.aload_n 0, 1) := by decide +kernel
theorem dX12_readLaw_27 : decode cX12_readLaw 27 = .ok (.getfield 298, 3) := by decide +kernel
theorem dX12_readLaw_30 : decode cX12_readLaw 30 = .ok (.istore_n 1, 1) := by decide +kernel
theorem dX12_readLaw_31 : decode cX12_readLaw 31 = .ok (.iload_n 1, 1) := by decide +kernel
theorem dX12_readLaw_32 : decode cX12_readLaw 32 = .ok (.iconst 2, 1) := by decide +kernel
theorem dX12_readLaw_33 : decode cX12_readLaw 33 = .ok (.if_icmp .ne 22, 3) := by decide +kernel
theorem dX12_readLaw_36 : decode cX12_readLaw 36 = .ok (.aload_n 0, 1) := by decide +kernel
theorem dX12_readLaw_37 : decode cX12_readLaw 37 = .ok (.aload_n 0, 1) := by decide +kernel
theorem dX12_readLaw_38 : decode cX12_readLaw 38 = .ok (.getfield 316, 3) := by decide +kernel
theorem dX12_readLaw_41 : decode cX12_readLaw 41 = .ok (.bipush (-4), 2) := by decide +kernel
theorem dX12_readLaw_43 : decode cX12_readLaw 43 = .ok (.if_icmp .ne 7, 3) := by decide +kernel
theorem dX12_readLaw_46 : decode cX12_readLaw 46 = .ok (.iconst 1, 1) := by decide +kernel
theorem dX12_readLaw_47 : decode cX12_readLaw 47 = .ok (.goto 4, 3) := by decide +kernel
theorem dX12_readLaw_50 : decode cX12_readLaw 50 = .ok (.iconst 0, 1) := by decide +kernel
theorem dX12_readLaw_51 : decode cX12_readLaw 51 = .ok (.iconst 4, 1) := by decide +kernel
theorem dX12_readLaw_52 : decode cX12_readLaw 52 = .ok (.invokevirtual 301, 3) := by decide +kernel
theorem dX12_readLaw_55 : decode cX12_readLaw 55 = .ok (.aload_n 0, 1) := by decide +kernel
theorem dX12_readLaw_56 : decode cX12_readLaw 56 = .ok (.invokevirtual 334, 3) := by decide +kernel
theorem dX12_readLaw_59 : decode cX12_readLaw 59 = .ok (.aload_n 0, 1) := by decide +kernel
theorem dX12_readLaw_60 : decode cX12_readLaw 60 = .ok (.getfield 270, 3) := by decide +kernel
theorem dX12_readLaw_63 : decode cX12_readLaw 63 = .ok (.ifCond .ne 24, 3) := by decide +kernel
theorem dX12_readLaw_66 : decode cX12_readLaw 66 = .ok (.iload_n 1, 1) := by decide +kernel
theorem dX12_readLaw_67 : decode cX12_readLaw 67 = .ok (.iconst 2, 1) := by decide +kernel
theorem dX12_readLaw_68 : decode cX12_readLaw 68 = .ok (.if_icmp .ne 19, 3) := by decide +kernel
theorem dX12_readLaw_71 : decode cX12_readLaw 71 = .ok (.aload_n 0, 1) := by decide +kernel
theorem dX12_readLaw_72 : decode cX12_readLaw 72 = .ok (.iconst 0, 1) := by decide +kernel
theorem dX12_readLaw_73 : decode cX12_readLaw 73 = .ok (.bipush 50, 2) := by decide +kernel
theorem dX12_readLaw_75 : decode cX12_readLaw 75 = .ok (.invokevirtual 331, 3) := by decide +kernel
theorem dX12_readLaw_78 : decode cX12_readLaw 78 = .ok (.istore_n 2, 1) := by decide +kernel
theorem dX12_readLaw_79 : decode cX12_readLaw 79 = .ok (.aload_n 0, 1) := by decide +kernel
theorem dX12_readLaw_80 : decode cX12_readLaw 80 = .ok (.iload_n 2, 1) := by decide +kernel
theorem dX12_readLaw_81 : decode cX12_readLaw 81 = .ok (.putfield 316, 3) := by decide +kernel
theorem dX12_readLaw_84 : decode cX12_readLaw 84 = .ok (.goto 70, 3) := by decide +kernel
theorem dX12_readLaw_87 : decode cX12_readLaw 87 = .ok (.aload_n 0, 1) := by decide +kernel
theorem dX12_readLaw_88 : decode cX12_readLaw 88 = .ok (.getfield 270, 3) := by decide +kernel
theorem dX12_readLaw_91 : decode cX12_readLaw 91 = .ok (.ifCond .ne 14, 3) := by decide +kernel
theorem dX12_readLaw_94 : decode cX12_readLaw 94 = .ok (.iload_n 1, 1) := by decide +kernel
theorem dX12_readLaw_95 : decode cX12_readLaw 95 = .ok (.ifCond .ne 10, 3) := by decide +kernel
theorem dX12_readLaw_98 : decode cX12_readLaw 98 = .ok (.aload_n 0, 1) := by decide +kernel
theorem dX12_readLaw_99 : decode cX12_readLaw 99 = .ok (.invokevirtual 340, 3) := by decide +kernel
theorem dX12_readLaw_102 : decode cX12_readLaw 102 = .ok (.goto 52, 3) := by decide +kernel
theorem dX12_readLaw_105 : decode cX12_readLaw 105 = .ok (.aload_n 0, 1) := by decide +kernel
theorem dX12_readLaw_106 : decode cX12_readLaw 106 = .ok (.getfield 270, 3) := by decide +kernel
theorem dX12_readLaw_109 : decode cX12_readLaw 109 = .ok (.ifCond .ne 15, 3) := by decide +kernel
theorem dX12_readLaw_112 : decode cX12_readLaw 112 = .ok (.iload_n 1, 1) := by decide +kernel
theorem dX12_readLaw_113 : decode cX12_readLaw 113 = .ok (.iconst 1, 1) := by decide +kernel
theorem dX12_readLaw_114 : decode cX12_readLaw 114 = .ok (.if_icmp .ne 10, 3) := by decide +kernel
theorem dX12_readLaw_117 : decode cX12_readLaw 117 = .ok (.aload_n 0, 1) := by decide +kernel
theorem dX12_readLaw_118 : decode cX12_readLaw 118 = .ok (.invokevirtual 343, 3) := by decide +kernel
theorem dX12_readLaw_121 : decode cX12_readLaw 121 = .ok (.goto 33, 3) := by decide +kernel
theorem dX12_readLaw_124 : decode cX12_readLaw 124 = .ok (.aload_n 0, 1) := by decide +kernel
theorem dX12_readLaw_125 : decode cX12_readLaw 125 = .ok (.getfield 270, 3) := by decide +kernel
theorem dX12_readLaw_128 : decode cX12_readLaw 128 = .ok (.ifCond .ne 15, 3) := by decide +kernel
theorem dX12_readLaw_131 : decode cX12_readLaw 131 = .ok (.iload_n 1, 1) := by decide +kernel
theorem dX12_readLaw_132 : decode cX12_readLaw 132 = .ok (.iconst 3, 1) := by decide +kernel
theorem dX12_readLaw_133 : decode cX12_readLaw 133 = .ok (.if_icmp .ne 10, 3) := by decide +kernel
theorem dX12_readLaw_136 : decode cX12_readLaw 136 = .ok (.aload_n 0, 1) := by decide +kernel
theorem dX12_readLaw_137 : decode cX12_readLaw 137 = .ok (.invokevirtual 346, 3) := by decide +kernel
theorem dX12_readLaw_140 : decode cX12_readLaw 140 = .ok (.goto 14, 3) := by decide +kernel
theorem dX12_readLaw_143 : decode cX12_readLaw 143 = .ok (.aload_n 0, 1) := by decide +kernel
theorem dX12_readLaw_144 : decode cX12_readLaw 144 = .ok (.getfield 270, 3) := by decide +kernel
theorem dX12_readLaw_147 : decode cX12_readLaw 147 = .ok (.ifCond .ne 7, 3) := by decide +kernel
theorem dX12_readLaw_150 : decode cX12_readLaw 150 = .ok (.aload_n 0, 1) := by decide +kernel
theorem dX12_readLaw_151 : decode cX12_readLaw 151 = .ok (.invokevirtual 349, 3) := by decide +kernel
theorem dX12_readLaw_154 : decode cX12_readLaw 154 = .ok (.aload_n 0, 1) := by decide +kernel
theorem dX12_readLaw_155 : decode cX12_readLaw 155 = .ok (.invokevirtual 334, 3) := by decide +kernel
theorem dX12_readLaw_158 : decode cX12_readLaw 158 = .ok (.aload_n 0, 1) := by decide +kernel
theorem dX12_readLaw_159 : decode cX12_readLaw 159 = .ok (.getfield 270, 3) := by decide +kernel
theorem dX12_readLaw_162 : decode cX12_readLaw 162 = .ok (.ifCond .ne 21, 3) := by decide +kernel
theorem dX12_readLaw_165 : decode cX12_readLaw 165 = .ok (.aload_n 0, 1) := by decide +kernel
theorem dX12_readLaw_166 : decode cX12_readLaw 166 = .ok (.aload_n 0, 1) := by decide +kernel
theorem dX12_readLaw_167 : decode cX12_readLaw 167 = .ok (.getfield 288, 3) := by decide +kernel
theorem dX12_readLaw_170 : decode cX12_readLaw 170 = .ok (.iconst 4, 1) := by decide +kernel
theorem dX12_readLaw_171 : decode cX12_readLaw 171 = .ok (.if_icmp .ne 7, 3) := by decide +kernel
theorem dX12_readLaw_174 : decode cX12_readLaw 174 = .ok (.iconst 1, 1) := by decide +kernel
theorem dX12_readLaw_175 : decode cX12_readLaw 175 = .ok (.goto 4, 3) := by decide +kernel
theorem dX12_readLaw_178 : decode cX12_readLaw 178 = .ok (.iconst 0, 1) := by decide +kernel
theorem dX12_readLaw_179 : decode cX12_readLaw 179 = .ok (.iconst 2, 1) := by decide +kernel
theorem dX12_readLaw_180 : decode cX12_readLaw 180 = .ok (.invokevirtual 301, 3) := by decide +kernel
theorem dX12_readLaw_183 : decode cX12_readLaw 183 = .ok (.aload_n 0, 1) := by decide +kernel
theorem dX12_readLaw_184 : decode cX12_readLaw 184 = .ok (.invokevirtual 334, 3) := by decide +kernel
theorem dX12_readLaw_187 : decode cX12_readLaw 187 = .ok (.aload_n 0, 1) := by decide +kernel
theorem dX12_readLaw_188 : decode cX12_readLaw 188 = .ok (.dup, 1) := by decide +kernel
theorem dX12_readLaw_189 : decode cX12_readLaw 189 = .ok (.getfield 319, 3) := by decide +kernel
theorem dX12_readLaw_192 : decode cX12_readLaw 192 = .ok (.iconst 1, 1) := by decide +kernel
theorem dX12_readLaw_193 : decode cX12_readLaw 193 = .ok (.iadd, 1) := by decide +kernel
theorem dX12_readLaw_194 : decode cX12_readLaw 194 = .ok (.putfield 319, 3) := by decide +kernel
theorem dX12_readLaw_197 : decode cX12_readLaw 197 = .ok (.return_, 1) := by decide +kernel
theorem dX12_laws_0 : decode cX12_laws 0 = .ok (.aload_n 0, 1) := by decide +kernel
theorem dX12_laws_1 : decode cX12_laws 1 = .ok (.iconst 0, 1) := by decide +kernel
theorem dX12_laws_2 : decode cX12_laws 2 = .ok (.putfield 270, 3) := by decide +kernel
theorem dX12_laws_5 : decode cX12_laws 5 = .ok (.aload_n 0, 1) := by decide +kernel
theorem dX12_laws_6 : decode cX12_laws 6 = .ok (.iconst 0, 1) := by decide +kernel
theorem dX12_laws_7 : decode cX12_laws 7 = .ok (.putfield 279, 3) := by decide +kernel
theorem dX12_laws_10 : decode cX12_laws 10 = .ok (.aload_n 0, 1) := by decide +kernel
theorem dX12_laws_11 : decode cX12_laws 11 = .ok (.bipush (-4), 2) := by decide +kernel
theorem dX12_laws_13 : decode cX12_laws 13 = .ok (.putfield 316, 3) := by decide +kernel
theorem dX12_laws_16 : decode cX12_laws 16 = .ok (.aload_n 0, 1) := by decide +kernel
theorem dX12_laws_17 : decode cX12_laws 17 = .ok (.iconst 0, 1) := by decide +kernel
theorem dX12_laws_18 : decode cX12_laws 18 = .ok (.putfield 319, 3) := by decide +kernel
theorem dX12_laws_21 : decode cX12_laws 21 = .ok (.iconst 0, 1) := by decide +kernel
theorem dX12_laws_22 : decode cX12_laws 22 = .ok (.istore_n 1, 1) := by decide +kernel
theorem dX12_laws_23 : decode cX12_laws 23 = .ok (.iload_n 1, 1) := by decide +kernel
theorem dX12_laws_24 : decode cX12_laws 24 = .ok (.bipush 8, 2) := by decide +kernel
theorem dX12_laws_26 : decode cX12_laws 26 = .ok (.if_icmp .ge 48, 3) := by decide +kernel
theorem dX12_laws_29 : decode cX12_laws 29 = .ok (.aload_n 0, 1) := by decide +kernel
theorem dX12_laws_30 : decode cX12_laws 30 = .ok (.getfield 118, 3) := by decide +kernel
theorem dX12_laws_33 : decode cX12_laws 33 = .ok (.iload_n 1, 1) := by decide +kernel
theorem dX12_laws_34 : decode cX12_laws 34 = .ok (.bipush (-4), 2) := by decide +kernel
theorem dX12_laws_36 : decode cX12_laws 36 = .ok (.iastore, 1) := by decide +kernel
theorem dX12_laws_37 : decode cX12_laws 37 = .ok (.aload_n 0, 1) := by decide +kernel
theorem dX12_laws_38 : decode cX12_laws 38 = .ok (.getfield 121, 3) := by decide +kernel
theorem dX12_laws_41 : decode cX12_laws 41 = .ok (.iload_n 1, 1) := by decide +kernel
theorem dX12_laws_42 : decode cX12_laws 42 = .ok (.bipush (-4), 2) := by decide +kernel
theorem dX12_laws_44 : decode cX12_laws 44 = .ok (.iastore, 1) := by decide +kernel
theorem dX12_laws_45 : decode cX12_laws 45 = .ok (.aload_n 0, 1) := by decide +kernel
theorem dX12_laws_46 : decode cX12_laws 46 = .ok (.getfield 124, 3) := by decide +kernel
theorem dX12_laws_49 : decode cX12_laws 49 = .ok (.iload_n 1, 1) := by decide +kernel
theorem dX12_laws_50 : decode cX12_laws 50 = .ok (.iconst 0, 1) := by decide +kernel
theorem dX12_laws_51 : decode cX12_laws 51 = .ok (.iastore, 1) := by decide +kernel
theorem dX12_laws_52 : decode cX12_laws 52 = .ok (.aload_n 0, 1) := by decide +kernel
theorem dX12_laws_53 : decode cX12_laws 53 = .ok (.getfield 127, 3) := by decide +kernel
theorem dX12_laws_56 : decode cX12_laws 56 = .ok (.iload_n 1, 1) := by decide +kernel
theorem dX12_laws_57 : decode cX12_laws 57 = .ok (.bipush (-4), 2) := by decide +kernel
theorem dX12_laws_59 : decode cX12_laws 59 = .ok (.iastore, 1) := by decide +kernel
theorem dX12_laws_60 : decode cX12_laws 60 = .ok (.aload_n 0, 1) := by decide +kernel
theorem dX12_laws_61 : decode cX12_laws 61 = .ok (.getfield 130, 3) := by decide +kernel
theorem dX12_laws_64 : decode cX12_laws 64 = .ok (.iload_n 1, 1) := by decide +kernel
theorem dX12_laws_65 : decode cX12_laws 65 = .ok (.bipush (-4), 2) := by decide +kernel
theorem dX12_laws_67 : decode cX12_laws 67 = .ok (.iastore, 1) := by decide +kernel
theorem dX12_laws_68 : decode cX12_laws 68 = .ok (.iinc 1 1, 3) := by decide +kernel
theorem dX12_laws_71 : decode cX12_laws 71 = .ok (.goto (-48), 3) := by decide +kernel
theorem dX12_laws_74 : decode cX12_laws 74 = .ok (.aload_n 0, 1) := by decide +kernel
theorem dX12_laws_75 : decode cX12_laws 75 = .ok (.invokevirtual 313, 3) := by decide +kernel
theorem dX12_laws_78 : decode cX12_laws 78 = .ok (.aload_n 0, 1) := by decide +kernel
theorem dX12_laws_79 : decode cX12_laws 79 = .ok (.getfield 270, 3) := by decide +kernel
theorem dX12_laws_82 : decode cX12_laws 82 = .ok (.ifCond .ne 17, 3) := by decide +kernel
theorem dX12_laws_85 : decode cX12_laws 85 = .ok (.aload_n 0, 1) := by decide +kernel
theorem dX12_laws_86 : decode cX12_laws 86 = .ok (.getfield 288, 3) := by decide +kernel
theorem dX12_laws_89 : decode cX12_laws 89 = .ok (.ifCond .eq 10, 3) := by decide +kernel
theorem dX12_laws_92 : decode cX12_laws 92 = .ok (.aload_n 0, 1) := by decide +kernel
theorem dX12_laws_93 : decode cX12_laws 93 = .ok (.invokevirtual 352, 3) := by decide +kernel
theorem dX12_laws_96 : decode cX12_laws 96 = .ok (.goto (-18), 3) := by decide +kernel
theorem dX12_laws_99 : decode cX12_laws 99 = .ok (.aload_n 0, 1) := by decide +kernel
theorem dX12_laws_100 : decode cX12_laws 100 = .ok (.iconst 0, 1) := by decide +kernel
theorem dX12_laws_101 : decode cX12_laws 101 = .ok (.putfield 267, 3) := by decide +kernel
theorem dX12_laws_104 : decode cX12_laws 104 = .ok (.aload_n 0, 1) := by decide +kernel
theorem dX12_laws_105 : decode cX12_laws 105 = .ok (.getfield 270, 3) := by decide +kernel
theorem dX12_laws_108 : decode cX12_laws 108 = .ok (.ifCond .le 11, 3) := by decide +kernel
theorem dX12_laws_111 : decode cX12_laws 111 = .ok (.bipush (-10), 2) := by decide +kernel
theorem dX12_laws_113 : decode cX12_laws 113 = .ok (.aload_n 0, 1) := by decide +kernel
theorem dX12_laws_114 : decode cX12_laws 114 = .ok (.getfield 276, 3) := by decide +kernel
theorem dX12_laws_117 : decode cX12_laws 117 = .ok (.isub, 1) := by decide +kernel
theorem dX12_laws_118 : decode cX12_laws 118 = .ok (.ireturn, 1) := by decide +kernel
theorem dX12_laws_119 : decode cX12_laws 119 = .ok (.aload_n 0, 1) := by decide +kernel
theorem dX12_laws_120 : decode cX12_laws 120 = .ok (.invokevirtual 322, 3) := by decide +kernel
theorem dX12_laws_123 : decode cX12_laws 123 = .ok (.aload_n 0, 1) := by decide +kernel
theorem dX12_laws_124 : decode cX12_laws 124 = .ok (.getfield 328, 3) := by decide +kernel
theorem dX12_laws_127 : decode cX12_laws 127 = .ok (.ireturn, 1) := by decide +kernel
theorem dX12_fault_0 : decode cX12_fault 0 = .ok (.aload_n 0, 1) := by decide +kernel
theorem dX12_fault_1 : decode cX12_fault 1 = .ok (.getfield 270, 3) := by decide +kernel
theorem dX12_fault_4 : decode cX12_fault 4 = .ok (.ireturn, 1) := by decide +kernel
theorem dX12_stamp_0 : decode cX12_stamp 0 = .ok (.iload_n 1, 1) := by decide +kernel
theorem dX12_stamp_1 : decode cX12_stamp 1 = .ok (.i2l, 1) := by decide +kernel
theorem dX12_stamp_2 : decode cX12_stamp 2 = .ok (.lconst 0, 1) := by decide +kernel
theorem dX12_stamp_3 : decode cX12_stamp 3 = .ok (.ldc2_w 249, 3) := by decide +kernel
theorem dX12_stamp_6 : decode cX12_stamp 6 = .ok (.invokestatic 145, 3) := by decide +kernel
theorem dX12_stamp_9 : decode cX12_stamp 9 = .ok (.ifCond .eq 15, 3) := by decide +kernel
theorem dX12_stamp_12 : decode cX12_stamp 12 = .ok (.iload_n 2, 1) := by decide +kernel
theorem dX12_stamp_13 : decode cX12_stamp 13 = .ok (.i2l, 1) := by decide +kernel
theorem dX12_stamp_14 : decode cX12_stamp 14 = .ok (.lconst 0, 1) := by decide +kernel
theorem dX12_stamp_15 : decode cX12_stamp 15 = .ok (.ldc2_w 355, 3) := by decide +kernel
theorem dX12_stamp_18 : decode cX12_stamp 18 = .ok (.invokestatic 145, 3) := by decide +kernel
theorem dX12_stamp_21 : decode cX12_stamp 21 = .ok (.ifCond .ne 7, 3) := by decide +kernel
theorem dX12_stamp_24 : decode cX12_stamp 24 = .ok (.iconst (-1), 1) := by decide +kernel
theorem dX12_stamp_25 : decode cX12_stamp 25 = .ok (.goto 36, 3) := by decide +kernel
theorem dX12_stamp_28 : decode cX12_stamp 28 = .ok (.iload_n 2, 1) := by decide +kernel
theorem dX12_stamp_29 : decode cX12_stamp 29 = .ok (.ifCond .ne 12, 3) := by decide +kernel
theorem dX12_stamp_32 : decode cX12_stamp 32 = .ok (.aload_n 0, 1) := by decide +kernel
theorem dX12_stamp_33 : decode cX12_stamp 33 = .ok (.getfield 103, 3) := by decide +kernel
theorem dX12_stamp_36 : decode cX12_stamp 36 = .ok (.iload_n 1, 1) := by decide +kernel
theorem dX12_stamp_37 : decode cX12_stamp 37 = .ok (.iaload, 1) := by decide +kernel
theorem dX12_stamp_38 : decode cX12_stamp 38 = .ok (.goto 23, 3) := by decide +kernel
theorem dX12_stamp_41 : decode cX12_stamp 41 = .ok (.iload_n 2, 1) := by decide +kernel
theorem dX12_stamp_42 : decode cX12_stamp 42 = .ok (.iconst 1, 1) := by decide +kernel
theorem dX12_stamp_43 : decode cX12_stamp 43 = .ok (.if_icmp .ne 12, 3) := by decide +kernel
theorem dX12_stamp_46 : decode cX12_stamp 46 = .ok (.aload_n 0, 1) := by decide +kernel
theorem dX12_stamp_47 : decode cX12_stamp 47 = .ok (.getfield 106, 3) := by decide +kernel
theorem dX12_stamp_50 : decode cX12_stamp 50 = .ok (.iload_n 1, 1) := by decide +kernel
theorem dX12_stamp_51 : decode cX12_stamp 51 = .ok (.iaload, 1) := by decide +kernel
theorem dX12_stamp_52 : decode cX12_stamp 52 = .ok (.goto 9, 3) := by decide +kernel
theorem dX12_stamp_55 : decode cX12_stamp 55 = .ok (.aload_n 0, 1) := by decide +kernel
theorem dX12_stamp_56 : decode cX12_stamp 56 = .ok (.getfield 109, 3) := by decide +kernel
theorem dX12_stamp_59 : decode cX12_stamp 59 = .ok (.iload_n 1, 1) := by decide +kernel
theorem dX12_stamp_60 : decode cX12_stamp 60 = .ok (.iaload, 1) := by decide +kernel
theorem dX12_stamp_61 : decode cX12_stamp 61 = .ok (.ireturn, 1) := by decide +kernel
theorem dX12_name_0 : decode cX12_name 0 = .ok (.iload_n 1, 1) := by decide +kernel
theorem dX12_name_1 : decode cX12_name 1 = .ok (.i2l, 1) := by decide +kernel
theorem dX12_name_2 : decode cX12_name 2 = .ok (.lconst 0, 1) := by decide +kernel
theorem dX12_name_3 : decode cX12_name 3 = .ok (.ldc2_w 249, 3) := by decide +kernel
theorem dX12_name_6 : decode cX12_name 6 = .ok (.invokestatic 145, 3) := by decide +kernel
theorem dX12_name_9 : decode cX12_name 9 = .ok (.ifCond .eq 15, 3) := by decide +kernel
theorem dX12_name_12 : decode cX12_name 12 = .ok (.iload_n 2, 1) := by decide +kernel
theorem dX12_name_13 : decode cX12_name 13 = .ok (.i2l, 1) := by decide +kernel
theorem dX12_name_14 : decode cX12_name 14 = .ok (.lconst 0, 1) := by decide +kernel
theorem dX12_name_15 : decode cX12_name 15 = .ok (.ldc2_w 355, 3) := by decide +kernel
theorem dX12_name_18 : decode cX12_name 18 = .ok (.invokestatic 145, 3) := by decide +kernel
theorem dX12_name_21 : decode cX12_name 21 = .ok (.ifCond .ne 7, 3) := by decide +kernel
theorem dX12_name_24 : decode cX12_name 24 = .ok (.iconst (-1), 1) := by decide +kernel
theorem dX12_name_25 : decode cX12_name 25 = .ok (.goto 37, 3) := by decide +kernel
theorem dX12_name_28 : decode cX12_name 28 = .ok (.iload_n 2, 1) := by decide +kernel
theorem dX12_name_29 : decode cX12_name 29 = .ok (.ifCond .ne 12, 3) := by decide +kernel
theorem dX12_name_32 : decode cX12_name 32 = .ok (.aload_n 0, 1) := by decide +kernel
theorem dX12_name_33 : decode cX12_name 33 = .ok (.getfield 112, 3) := by decide +kernel
theorem dX12_name_36 : decode cX12_name 36 = .ok (.iload_n 1, 1) := by decide +kernel
theorem dX12_name_37 : decode cX12_name 37 = .ok (.iaload, 1) := by decide +kernel
theorem dX12_name_38 : decode cX12_name 38 = .ok (.goto 24, 3) := by decide +kernel
theorem dX12_name_41 : decode cX12_name 41 = .ok (.iload_n 2, 1) := by decide +kernel
theorem dX12_name_42 : decode cX12_name 42 = .ok (.iconst 1, 1) := by decide +kernel
theorem dX12_name_43 : decode cX12_name 43 = .ok (.if_icmp .ne 12, 3) := by decide +kernel
theorem dX12_name_46 : decode cX12_name 46 = .ok (.aload_n 0, 1) := by decide +kernel
theorem dX12_name_47 : decode cX12_name 47 = .ok (.getfield 115, 3) := by decide +kernel
theorem dX12_name_50 : decode cX12_name 50 = .ok (.iload_n 1, 1) := by decide +kernel
theorem dX12_name_51 : decode cX12_name 51 = .ok (.iaload, 1) := by decide +kernel
theorem dX12_name_52 : decode cX12_name 52 = .ok (.goto 10, 3) := by decide +kernel
theorem dX12_name_55 : decode cX12_name 55 = .ok (.aload_n 0, 1) := by decide +kernel
theorem dX12_name_56 : decode cX12_name 56 = .ok (.iload_n 1, 1) := by decide +kernel
theorem dX12_name_57 : decode cX12_name 57 = .ok (.bipush (-4), 2) := by decide +kernel
theorem dX12_name_59 : decode cX12_name 59 = .ok (.invokevirtual 264, 3) := by decide +kernel
theorem dX12_name_62 : decode cX12_name 62 = .ok (.ireturn, 1) := by decide +kernel
theorem dX12_findYears_0 : decode cX12_findYears 0 = .ok (.aload_n 0, 1) := by decide +kernel
theorem dX12_findYears_1 : decode cX12_findYears 1 = .ok (.sipush 1800, 3) := by decide +kernel
theorem dX12_findYears_4 : decode cX12_findYears 4 = .ok (.putfield 357, 3) := by decide +kernel
theorem dX12_findYears_7 : decode cX12_findYears 7 = .ok (.aload_n 0, 1) := by decide +kernel
theorem dX12_findYears_8 : decode cX12_findYears 8 = .ok (.sipush 2000, 3) := by decide +kernel
theorem dX12_findYears_11 : decode cX12_findYears 11 = .ok (.putfield 360, 3) := by decide +kernel
theorem dX12_findYears_14 : decode cX12_findYears 14 = .ok (.iconst 0, 1) := by decide +kernel
theorem dX12_findYears_15 : decode cX12_findYears 15 = .ok (.istore_n 2, 1) := by decide +kernel
theorem dX12_findYears_16 : decode cX12_findYears 16 = .ok (.iconst 0, 1) := by decide +kernel
theorem dX12_findYears_17 : decode cX12_findYears 17 = .ok (.istore_n 3, 1) := by decide +kernel
theorem dX12_findYears_18 : decode cX12_findYears 18 = .ok (.iload_n 3, 1) := by decide +kernel
theorem dX12_findYears_19 : decode cX12_findYears 19 = .ok (.bipush 8, 2) := by decide +kernel
theorem dX12_findYears_21 : decode cX12_findYears 21 = .ok (.if_icmp .ge 83, 3) := by decide +kernel
theorem dX12_findYears_24 : decode cX12_findYears 24 = .ok (.aload_n 0, 1) := by decide +kernel
theorem dX12_findYears_25 : decode cX12_findYears 25 = .ok (.getfield 91, 3) := by decide +kernel
theorem dX12_findYears_28 : decode cX12_findYears 28 = .ok (.iload_n 1, 1) := by decide +kernel
theorem dX12_findYears_29 : decode cX12_findYears 29 = .ok (.iaload, 1) := by decide +kernel
theorem dX12_findYears_30 : decode cX12_findYears 30 = .ok (.iload_n 3, 1) := by decide +kernel
theorem dX12_findYears_31 : decode cX12_findYears 31 = .ok (.ishr, 1) := by decide +kernel
theorem dX12_findYears_32 : decode cX12_findYears 32 = .ok (.iconst 1, 1) := by decide +kernel
theorem dX12_findYears_33 : decode cX12_findYears 33 = .ok (.iand, 1) := by decide +kernel
theorem dX12_findYears_34 : decode cX12_findYears 34 = .ok (.iconst 1, 1) := by decide +kernel
theorem dX12_findYears_35 : decode cX12_findYears 35 = .ok (.if_icmp .ne 63, 3) := by decide +kernel
theorem dX12_findYears_38 : decode cX12_findYears 38 = .ok (.aload_n 0, 1) := by decide +kernel
theorem dX12_findYears_39 : decode cX12_findYears 39 = .ok (.aload_n 0, 1) := by decide +kernel
theorem dX12_findYears_40 : decode cX12_findYears 40 = .ok (.getfield 357, 3) := by decide +kernel
theorem dX12_findYears_43 : decode cX12_findYears 43 = .ok (.aload_n 0, 1) := by decide +kernel
theorem dX12_findYears_44 : decode cX12_findYears 44 = .ok (.getfield 103, 3) := by decide +kernel
theorem dX12_findYears_47 : decode cX12_findYears 47 = .ok (.iload_n 3, 1) := by decide +kernel
theorem dX12_findYears_48 : decode cX12_findYears 48 = .ok (.iaload, 1) := by decide +kernel
theorem dX12_findYears_49 : decode cX12_findYears 49 = .ok (.invokestatic 258, 3) := by decide +kernel
theorem dX12_findYears_52 : decode cX12_findYears 52 = .ok (.putfield 357, 3) := by decide +kernel
theorem dX12_findYears_55 : decode cX12_findYears 55 = .ok (.aload_n 0, 1) := by decide +kernel
theorem dX12_findYears_56 : decode cX12_findYears 56 = .ok (.aload_n 0, 1) := by decide +kernel
theorem dX12_findYears_57 : decode cX12_findYears 57 = .ok (.getfield 360, 3) := by decide +kernel
theorem dX12_findYears_60 : decode cX12_findYears 60 = .ok (.aload_n 0, 1) := by decide +kernel
theorem dX12_findYears_61 : decode cX12_findYears 61 = .ok (.getfield 106, 3) := by decide +kernel
theorem dX12_findYears_64 : decode cX12_findYears 64 = .ok (.iload_n 3, 1) := by decide +kernel
theorem dX12_findYears_65 : decode cX12_findYears 65 = .ok (.iaload, 1) := by decide +kernel
theorem dX12_findYears_66 : decode cX12_findYears 66 = .ok (.invokestatic 254, 3) := by decide +kernel
theorem dX12_findYears_69 : decode cX12_findYears 69 = .ok (.putfield 360, 3) := by decide +kernel
theorem dX12_findYears_72 : decode cX12_findYears 72 = .ok (.iload_n 2, 1) := by decide +kernel
theorem dX12_findYears_73 : decode cX12_findYears 73 = .ok (.ifCond .ne 19, 3) := by decide +kernel
theorem dX12_findYears_76 : decode cX12_findYears 76 = .ok (.aload_n 0, 1) := by decide +kernel
theorem dX12_findYears_77 : decode cX12_findYears 77 = .ok (.getfield 109, 3) := by decide +kernel
theorem dX12_findYears_80 : decode cX12_findYears 80 = .ok (.iload_n 3, 1) := by decide +kernel
theorem dX12_findYears_81 : decode cX12_findYears 81 = .ok (.iaload, 1) := by decide +kernel
theorem dX12_findYears_82 : decode cX12_findYears 82 = .ok (.aload_n 0, 1) := by decide +kernel
theorem dX12_findYears_83 : decode cX12_findYears 83 = .ok (.getfield 91, 3) := by decide +kernel
theorem dX12_findYears_86 : decode cX12_findYears 86 = .ok (.iload_n 1, 1) := by decide +kernel
theorem dX12_findYears_87 : decode cX12_findYears 87 = .ok (.iaload, 1) := by decide +kernel
theorem dX12_findYears_88 : decode cX12_findYears 88 = .ok (.iand, 1) := by decide +kernel
theorem dX12_findYears_89 : decode cX12_findYears 89 = .ok (.ifCond .eq 7, 3) := by decide +kernel
theorem dX12_findYears_92 : decode cX12_findYears 92 = .ok (.iconst 1, 1) := by decide +kernel
theorem dX12_findYears_93 : decode cX12_findYears 93 = .ok (.goto 4, 3) := by decide +kernel
theorem dX12_findYears_96 : decode cX12_findYears 96 = .ok (.iconst 0, 1) := by decide +kernel
theorem dX12_findYears_97 : decode cX12_findYears 97 = .ok (.istore_n 2, 1) := by decide +kernel
theorem dX12_findYears_98 : decode cX12_findYears 98 = .ok (.iinc 3 1, 3) := by decide +kernel
theorem dX12_findYears_101 : decode cX12_findYears 101 = .ok (.goto (-83), 3) := by decide +kernel
theorem dX12_findYears_104 : decode cX12_findYears 104 = .ok (.aload_n 0, 1) := by decide +kernel
theorem dX12_findYears_105 : decode cX12_findYears 105 = .ok (.iload_n 2, 1) := by decide +kernel
theorem dX12_findYears_106 : decode cX12_findYears 106 = .ok (.ifCond .eq 7, 3) := by decide +kernel
theorem dX12_findYears_109 : decode cX12_findYears 109 = .ok (.iconst 0, 1) := by decide +kernel
theorem dX12_findYears_110 : decode cX12_findYears 110 = .ok (.goto 7, 3) := by decide +kernel
theorem dX12_findYears_113 : decode cX12_findYears 113 = .ok (.aload_n 0, 1) := by decide +kernel
theorem dX12_findYears_114 : decode cX12_findYears 114 = .ok (.getfield 360, 3) := by decide +kernel
theorem dX12_findYears_117 : decode cX12_findYears 117 = .ok (.putfield 360, 3) := by decide +kernel
theorem dX12_findYears_120 : decode cX12_findYears 120 = .ok (.return_, 1) := by decide +kernel
theorem dX12_years_0 : decode cX12_years 0 = .ok (.iload_n 1, 1) := by decide +kernel
theorem dX12_years_1 : decode cX12_years 1 = .ok (.i2l, 1) := by decide +kernel
theorem dX12_years_2 : decode cX12_years 2 = .ok (.lconst 0, 1) := by decide +kernel
theorem dX12_years_3 : decode cX12_years 3 = .ok (.aload_n 0, 1) := by decide +kernel
theorem dX12_years_4 : decode cX12_years 4 = .ok (.getfield 251, 3) := by decide +kernel
theorem dX12_years_7 : decode cX12_years 7 = .ok (.iconst 1, 1) := by decide +kernel
theorem dX12_years_8 : decode cX12_years 8 = .ok (.isub, 1) := by decide +kernel
theorem dX12_years_9 : decode cX12_years 9 = .ok (.i2l, 1) := by decide +kernel
theorem dX12_years_10 : decode cX12_years 10 = .ok (.invokestatic 145, 3) := by decide +kernel
theorem dX12_years_13 : decode cX12_years 13 = .ok (.ifCond .eq 15, 3) := by decide +kernel
theorem dX12_years_16 : decode cX12_years 16 = .ok (.iload_n 2, 1) := by decide +kernel
theorem dX12_years_17 : decode cX12_years 17 = .ok (.i2l, 1) := by decide +kernel
theorem dX12_years_18 : decode cX12_years 18 = .ok (.lconst 0, 1) := by decide +kernel
theorem dX12_years_19 : decode cX12_years 19 = .ok (.ldc2_w 355, 3) := by decide +kernel
theorem dX12_years_22 : decode cX12_years 22 = .ok (.invokestatic 145, 3) := by decide +kernel
theorem dX12_years_25 : decode cX12_years 25 = .ok (.ifCond .ne 5, 3) := by decide +kernel
theorem dX12_years_28 : decode cX12_years 28 = .ok (.iconst (-1), 1) := by decide +kernel
theorem dX12_years_29 : decode cX12_years 29 = .ok (.ireturn, 1) := by decide +kernel
theorem dX12_years_30 : decode cX12_years 30 = .ok (.aload_n 0, 1) := by decide +kernel
theorem dX12_years_31 : decode cX12_years 31 = .ok (.iload_n 1, 1) := by decide +kernel
theorem dX12_years_32 : decode cX12_years 32 = .ok (.invokevirtual 363, 3) := by decide +kernel
theorem dX12_years_35 : decode cX12_years 35 = .ok (.aload_n 0, 1) := by decide +kernel
theorem dX12_years_36 : decode cX12_years 36 = .ok (.getfield 360, 3) := by decide +kernel
theorem dX12_years_39 : decode cX12_years 39 = .ok (.aload_n 0, 1) := by decide +kernel
theorem dX12_years_40 : decode cX12_years 40 = .ok (.getfield 357, 3) := by decide +kernel
theorem dX12_years_43 : decode cX12_years 43 = .ok (.if_icmp .ge 7, 3) := by decide +kernel
theorem dX12_years_46 : decode cX12_years 46 = .ok (.iconst 0, 1) := by decide +kernel
theorem dX12_years_47 : decode cX12_years 47 = .ok (.goto 14, 3) := by decide +kernel
theorem dX12_years_50 : decode cX12_years 50 = .ok (.aload_n 0, 1) := by decide +kernel
theorem dX12_years_51 : decode cX12_years 51 = .ok (.getfield 360, 3) := by decide +kernel
theorem dX12_years_54 : decode cX12_years 54 = .ok (.aload_n 0, 1) := by decide +kernel
theorem dX12_years_55 : decode cX12_years 55 = .ok (.getfield 357, 3) := by decide +kernel
theorem dX12_years_58 : decode cX12_years 58 = .ok (.isub, 1) := by decide +kernel
theorem dX12_years_59 : decode cX12_years 59 = .ok (.iconst 1, 1) := by decide +kernel
theorem dX12_years_60 : decode cX12_years 60 = .ok (.iadd, 1) := by decide +kernel
theorem dX12_years_61 : decode cX12_years 61 = .ok (.istore_n 3, 1) := by decide +kernel
theorem dX12_years_62 : decode cX12_years 62 = .ok (.iload_n 2, 1) := by decide +kernel
theorem dX12_years_63 : decode cX12_years 63 = .ok (.ifCond .ne 7, 3) := by decide +kernel
theorem dX12_years_66 : decode cX12_years 66 = .ok (.iload_n 3, 1) := by decide +kernel
theorem dX12_years_67 : decode cX12_years 67 = .ok (.goto 28, 3) := by decide +kernel
theorem dX12_years_70 : decode cX12_years 70 = .ok (.iload_n 3, 1) := by decide +kernel
theorem dX12_years_71 : decode cX12_years 71 = .ok (.ifCond .ne 8, 3) := by decide +kernel
theorem dX12_years_74 : decode cX12_years 74 = .ok (.bipush (-4), 2) := by decide +kernel
theorem dX12_years_76 : decode cX12_years 76 = .ok (.goto 19, 3) := by decide +kernel
theorem dX12_years_79 : decode cX12_years 79 = .ok (.iload_n 2, 1) := by decide +kernel
theorem dX12_years_80 : decode cX12_years 80 = .ok (.iconst 1, 1) := by decide +kernel
theorem dX12_years_81 : decode cX12_years 81 = .ok (.if_icmp .ne 10, 3) := by decide +kernel
theorem dX12_years_84 : decode cX12_years 84 = .ok (.aload_n 0, 1) := by decide +kernel
theorem dX12_years_85 : decode cX12_years 85 = .ok (.getfield 357, 3) := by decide +kernel
theorem dX12_years_88 : decode cX12_years 88 = .ok (.goto 7, 3) := by decide +kernel
theorem dX12_years_91 : decode cX12_years 91 = .ok (.aload_n 0, 1) := by decide +kernel
theorem dX12_years_92 : decode cX12_years 92 = .ok (.getfield 360, 3) := by decide +kernel
theorem dX12_years_95 : decode cX12_years 95 = .ok (.ireturn, 1) := by decide +kernel
theorem dX12_dated_0 : decode cX12_dated 0 = .ok (.iload_n 1, 1) := by decide +kernel
theorem dX12_dated_1 : decode cX12_dated 1 = .ok (.i2l, 1) := by decide +kernel
theorem dX12_dated_2 : decode cX12_dated 2 = .ok (.ldc2_w 366, 3) := by decide +kernel
theorem dX12_dated_5 : decode cX12_dated 5 = .ok (.ldc2_w 368, 3) := by decide +kernel
theorem dX12_dated_8 : decode cX12_dated 8 = .ok (.invokestatic 145, 3) := by decide +kernel
theorem dX12_dated_11 : decode cX12_dated 11 = .ok (.ifCond .ne 5, 3) := by decide +kernel
theorem dX12_dated_14 : decode cX12_dated 14 = .ok (.iconst (-1), 1) := by decide +kernel
theorem dX12_dated_15 : decode cX12_dated 15 = .ok (.ireturn, 1) := by decide +kernel
theorem dX12_dated_16 : decode cX12_dated 16 = .ok (.iconst 0, 1) := by decide +kernel
theorem dX12_dated_17 : decode cX12_dated 17 = .ok (.istore_n 2, 1) := by decide +kernel
theorem dX12_dated_18 : decode cX12_dated 18 = .ok (.iconst 0, 1) := by decide +kernel
theorem dX12_dated_19 : decode cX12_dated 19 = .ok (.istore_n 3, 1) := by decide +kernel
theorem dX12_dated_20 : decode cX12_dated 20 = .ok (.iload_n 3, 1) := by decide +kernel
theorem dX12_dated_21 : decode cX12_dated 21 = .ok (.aload_n 0, 1) := by decide +kernel
theorem dX12_dated_22 : decode cX12_dated 22 = .ok (.getfield 251, 3) := by decide +kernel
theorem dX12_dated_25 : decode cX12_dated 25 = .ok (.if_icmp .ge 40, 3) := by decide +kernel
theorem dX12_dated_28 : decode cX12_dated 28 = .ok (.aload_n 0, 1) := by decide +kernel
theorem dX12_dated_29 : decode cX12_dated 29 = .ok (.iload_n 3, 1) := by decide +kernel
theorem dX12_dated_30 : decode cX12_dated 30 = .ok (.invokevirtual 363, 3) := by decide +kernel
theorem dX12_dated_33 : decode cX12_dated 33 = .ok (.iload_n 2, 1) := by decide +kernel
theorem dX12_dated_34 : decode cX12_dated 34 = .ok (.iload_n 1, 1) := by decide +kernel
theorem dX12_dated_35 : decode cX12_dated 35 = .ok (.i2l, 1) := by decide +kernel
theorem dX12_dated_36 : decode cX12_dated 36 = .ok (.aload_n 0, 1) := by decide +kernel
theorem dX12_dated_37 : decode cX12_dated 37 = .ok (.getfield 357, 3) := by decide +kernel
theorem dX12_dated_40 : decode cX12_dated 40 = .ok (.i2l, 1) := by decide +kernel
theorem dX12_dated_41 : decode cX12_dated 41 = .ok (.aload_n 0, 1) := by decide +kernel
theorem dX12_dated_42 : decode cX12_dated 42 = .ok (.getfield 360, 3) := by decide +kernel
theorem dX12_dated_45 : decode cX12_dated 45 = .ok (.i2l, 1) := by decide +kernel
theorem dX12_dated_46 : decode cX12_dated 46 = .ok (.invokestatic 145, 3) := by decide +kernel
theorem dX12_dated_49 : decode cX12_dated 49 = .ok (.ifCond .eq 7, 3) := by decide +kernel
theorem dX12_dated_52 : decode cX12_dated 52 = .ok (.iconst 1, 1) := by decide +kernel
theorem dX12_dated_53 : decode cX12_dated 53 = .ok (.goto 4, 3) := by decide +kernel
theorem dX12_dated_56 : decode cX12_dated 56 = .ok (.iconst 0, 1) := by decide +kernel
theorem dX12_dated_57 : decode cX12_dated 57 = .ok (.iadd, 1) := by decide +kernel
theorem dX12_dated_58 : decode cX12_dated 58 = .ok (.istore_n 2, 1) := by decide +kernel
theorem dX12_dated_59 : decode cX12_dated 59 = .ok (.iinc 3 1, 3) := by decide +kernel
theorem dX12_dated_62 : decode cX12_dated 62 = .ok (.goto (-42), 3) := by decide +kernel
theorem dX12_dated_65 : decode cX12_dated 65 = .ok (.iload_n 2, 1) := by decide +kernel
theorem dX12_dated_66 : decode cX12_dated 66 = .ok (.ireturn, 1) := by decide +kernel
theorem dX12_findLot_0 : decode cX12_findLot 0 = .ok (.aload_n 0, 1) := by decide +kernel
theorem dX12_findLot_1 : decode cX12_findLot 1 = .ok (.iconst 0, 1) := by decide +kernel
theorem dX12_findLot_2 : decode cX12_findLot 2 = .ok (.putfield 370, 3) := by decide +kernel
theorem dX12_findLot_5 : decode cX12_findLot 5 = .ok (.aload_n 0, 1) := by decide +kernel
theorem dX12_findLot_6 : decode cX12_findLot 6 = .ok (.iconst 0, 1) := by decide +kernel
theorem dX12_findLot_7 : decode cX12_findLot 7 = .ok (.putfield 373, 3) := by decide +kernel
theorem dX12_findLot_10 : decode cX12_findLot 10 = .ok (.aload_n 0, 1) := by decide +kernel
theorem dX12_findLot_11 : decode cX12_findLot 11 = .ok (.iconst 0, 1) := by decide +kernel
theorem dX12_findLot_12 : decode cX12_findLot 12 = .ok (.putfield 376, 3) := by decide +kernel
theorem dX12_findLot_15 : decode cX12_findLot 15 = .ok (.aload_n 0, 1) := by decide +kernel
theorem dX12_findLot_16 : decode cX12_findLot 16 = .ok (.iconst 0, 1) := by decide +kernel
theorem dX12_findLot_17 : decode cX12_findLot 17 = .ok (.putfield 379, 3) := by decide +kernel
theorem dX12_findLot_20 : decode cX12_findLot 20 = .ok (.aload_n 0, 1) := by decide +kernel
theorem dX12_findLot_21 : decode cX12_findLot 21 = .ok (.iconst 0, 1) := by decide +kernel
theorem dX12_findLot_22 : decode cX12_findLot 22 = .ok (.putfield 382, 3) := by decide +kernel
theorem dX12_findLot_25 : decode cX12_findLot 25 = .ok (.iconst 0, 1) := by decide +kernel
theorem dX12_findLot_26 : decode cX12_findLot 26 = .ok (.istore_n 2, 1) := by decide +kernel
theorem dX12_findLot_27 : decode cX12_findLot 27 = .ok (.iconst 0, 1) := by decide +kernel
theorem dX12_findLot_28 : decode cX12_findLot 28 = .ok (.istore_n 3, 1) := by decide +kernel
theorem dX12_findLot_29 : decode cX12_findLot 29 = .ok (.iconst 0, 1) := by decide +kernel
theorem dX12_findLot_30 : decode cX12_findLot 30 = .ok (.istore 4, 2) := by decide +kernel
theorem dX12_findLot_32 : decode cX12_findLot 32 = .ok (.iload 4, 2) := by decide +kernel
theorem dX12_findLot_34 : decode cX12_findLot 34 = .ok (.aload_n 0, 1) := by decide +kernel
theorem dX12_findLot_35 : decode cX12_findLot 35 = .ok (.getfield 251, 3) := by decide +kernel
theorem dX12_findLot_38 : decode cX12_findLot 38 = .ok (.if_icmp .ge 155, 3) := by decide +kernel
theorem dX12_findLot_41 : decode cX12_findLot 41 = .ok (.aload_n 0, 1) := by decide +kernel
theorem dX12_findLot_42 : decode cX12_findLot 42 = .ok (.getfield 82, 3) := by decide +kernel
theorem dX12_findLot_45 : decode cX12_findLot 45 = .ok (.iload 4, 2) := by decide +kernel
theorem dX12_findLot_47 : decode cX12_findLot 47 = .ok (.iaload, 1) := by decide +kernel
theorem dX12_findLot_48 : decode cX12_findLot 48 = .ok (.iload_n 1, 1) := by decide +kernel
theorem dX12_findLot_49 : decode cX12_findLot 49 = .ok (.if_icmp .ne 138, 3) := by decide +kernel
theorem dX12_findLot_52 : decode cX12_findLot 52 = .ok (.aload_n 0, 1) := by decide +kernel
theorem dX12_findLot_53 : decode cX12_findLot 53 = .ok (.getfield 94, 3) := by decide +kernel
theorem dX12_findLot_56 : decode cX12_findLot 56 = .ok (.iload 4, 2) := by decide +kernel
theorem dX12_findLot_58 : decode cX12_findLot 58 = .ok (.iaload, 1) := by decide +kernel
theorem dX12_findLot_59 : decode cX12_findLot 59 = .ok (.ifCond .le 7, 3) := by decide +kernel
theorem dX12_findLot_62 : decode cX12_findLot 62 = .ok (.iconst 1, 1) := by decide +kernel
theorem dX12_findLot_63 : decode cX12_findLot 63 = .ok (.goto 18, 3) := by decide +kernel
theorem dX12_findLot_66 : decode cX12_findLot 66 = .ok (.aload_n 0, 1) := by decide +kernel
theorem dX12_findLot_67 : decode cX12_findLot 67 = .ok (.getfield 94, 3) := by decide +kernel
theorem dX12_findLot_70 : decode cX12_findLot 70 = .ok (.iload 4, 2) := by decide +kernel
theorem dX12_findLot_72 : decode cX12_findLot 72 = .ok (.iaload, 1) := by decide +kernel
theorem dX12_findLot_73 : decode cX12_findLot 73 = .ok (.ifCond .ge 7, 3) := by decide +kernel
theorem dX12_findLot_76 : decode cX12_findLot 76 = .ok (.iconst (-1), 1) := by decide +kernel
theorem dX12_findLot_77 : decode cX12_findLot 77 = .ok (.goto 4, 3) := by decide +kernel
theorem dX12_findLot_80 : decode cX12_findLot 80 = .ok (.iconst 0, 1) := by decide +kernel
theorem dX12_findLot_81 : decode cX12_findLot 81 = .ok (.istore 5, 2) := by decide +kernel
theorem dX12_findLot_83 : decode cX12_findLot 83 = .ok (.aload_n 0, 1) := by decide +kernel
theorem dX12_findLot_84 : decode cX12_findLot 84 = .ok (.dup, 1) := by decide +kernel
theorem dX12_findLot_85 : decode cX12_findLot 85 = .ok (.getfield 370, 3) := by decide +kernel
theorem dX12_findLot_88 : decode cX12_findLot 88 = .ok (.iconst 1, 1) := by decide +kernel
theorem dX12_findLot_89 : decode cX12_findLot 89 = .ok (.iadd, 1) := by decide +kernel
theorem dX12_findLot_90 : decode cX12_findLot 90 = .ok (.putfield 370, 3) := by decide +kernel
theorem dX12_findLot_93 : decode cX12_findLot 93 = .ok (.aload_n 0, 1) := by decide +kernel
theorem dX12_findLot_94 : decode cX12_findLot 94 = .ok (.dup, 1) := by decide +kernel
theorem dX12_findLot_95 : decode cX12_findLot 95 = .ok (.getfield 373, 3) := by decide +kernel
theorem dX12_findLot_98 : decode cX12_findLot 98 = .ok (.aload_n 0, 1) := by decide +kernel
theorem dX12_findLot_99 : decode cX12_findLot 99 = .ok (.getfield 94, 3) := by decide +kernel
theorem dX12_findLot_102 : decode cX12_findLot 102 = .ok (.iload 4, 2) := by decide +kernel
theorem dX12_findLot_104 : decode cX12_findLot 104 = .ok (.iaload, 1) := by decide +kernel
theorem dX12_findLot_105 : decode cX12_findLot 105 = .ok (.iadd, 1) := by decide +kernel
theorem dX12_findLot_106 : decode cX12_findLot 106 = .ok (.putfield 373, 3) := by decide +kernel
theorem dX12_findLot_109 : decode cX12_findLot 109 = .ok (.aload_n 0, 1) := by decide +kernel
theorem dX12_findLot_110 : decode cX12_findLot 110 = .ok (.dup, 1) := by decide +kernel
theorem dX12_findLot_111 : decode cX12_findLot 111 = .ok (.getfield 376, 3) := by decide +kernel
theorem dX12_findLot_114 : decode cX12_findLot 114 = .ok (.aload_n 0, 1) := by decide +kernel
theorem dX12_findLot_115 : decode cX12_findLot 115 = .ok (.getfield 85, 3) := by decide +kernel
theorem dX12_findLot_118 : decode cX12_findLot 118 = .ok (.iload 4, 2) := by decide +kernel
theorem dX12_findLot_120 : decode cX12_findLot 120 = .ok (.iaload, 1) := by decide +kernel
theorem dX12_findLot_121 : decode cX12_findLot 121 = .ok (.iadd, 1) := by decide +kernel
theorem dX12_findLot_122 : decode cX12_findLot 122 = .ok (.putfield 376, 3) := by decide +kernel
theorem dX12_findLot_125 : decode cX12_findLot 125 = .ok (.aload_n 0, 1) := by decide +kernel
theorem dX12_findLot_126 : decode cX12_findLot 126 = .ok (.dup, 1) := by decide +kernel
theorem dX12_findLot_127 : decode cX12_findLot 127 = .ok (.getfield 379, 3) := by decide +kernel
theorem dX12_findLot_130 : decode cX12_findLot 130 = .ok (.aload_n 0, 1) := by decide +kernel
theorem dX12_findLot_131 : decode cX12_findLot 131 = .ok (.getfield 88, 3) := by decide +kernel
theorem dX12_findLot_134 : decode cX12_findLot 134 = .ok (.iload 4, 2) := by decide +kernel
theorem dX12_findLot_136 : decode cX12_findLot 136 = .ok (.baload, 1) := by decide +kernel
theorem dX12_findLot_137 : decode cX12_findLot 137 = .ok (.ifCond .eq 7, 3) := by decide +kernel
theorem dX12_findLot_140 : decode cX12_findLot 140 = .ok (.iconst 1, 1) := by decide +kernel
theorem dX12_findLot_141 : decode cX12_findLot 141 = .ok (.goto 4, 3) := by decide +kernel
theorem dX12_findLot_144 : decode cX12_findLot 144 = .ok (.iconst 0, 1) := by decide +kernel
theorem dX12_findLot_145 : decode cX12_findLot 145 = .ok (.iadd, 1) := by decide +kernel
theorem dX12_findLot_146 : decode cX12_findLot 146 = .ok (.putfield 379, 3) := by decide +kernel
theorem dX12_findLot_149 : decode cX12_findLot 149 = .ok (.iload 5, 2) := by decide +kernel
theorem dX12_findLot_151 : decode cX12_findLot 151 = .ok (.ifCond .ne 7, 3) := by decide +kernel
theorem dX12_findLot_154 : decode cX12_findLot 154 = .ok (.iconst 0, 1) := by decide +kernel
theorem dX12_findLot_155 : decode cX12_findLot 155 = .ok (.goto 16, 3) := by decide +kernel
theorem dX12_findLot_158 : decode cX12_findLot 158 = .ok (.iload 5, 2) := by decide +kernel
theorem dX12_findLot_160 : decode cX12_findLot 160 = .ok (.iload_n 3, 1) := by decide +kernel
theorem dX12_findLot_161 : decode cX12_findLot 161 = .ok (.if_icmp .ne 9, 3) := by decide +kernel
theorem dX12_findLot_164 : decode cX12_findLot 164 = .ok (.iload_n 2, 1) := by decide +kernel
theorem dX12_findLot_165 : decode cX12_findLot 165 = .ok (.iconst 1, 1) := by decide +kernel
theorem dX12_findLot_166 : decode cX12_findLot 166 = .ok (.iadd, 1) := by decide +kernel
theorem dX12_findLot_167 : decode cX12_findLot 167 = .ok (.goto 4, 3) := by decide +kernel
theorem dX12_findLot_170 : decode cX12_findLot 170 = .ok (.iconst 1, 1) := by decide +kernel
theorem dX12_findLot_171 : decode cX12_findLot 171 = .ok (.istore_n 2, 1) := by decide +kernel
theorem dX12_findLot_172 : decode cX12_findLot 172 = .ok (.iload 5, 2) := by decide +kernel
theorem dX12_findLot_174 : decode cX12_findLot 174 = .ok (.istore_n 3, 1) := by decide +kernel
theorem dX12_findLot_175 : decode cX12_findLot 175 = .ok (.aload_n 0, 1) := by decide +kernel
theorem dX12_findLot_176 : decode cX12_findLot 176 = .ok (.aload_n 0, 1) := by decide +kernel
theorem dX12_findLot_177 : decode cX12_findLot 177 = .ok (.getfield 382, 3) := by decide +kernel
theorem dX12_findLot_180 : decode cX12_findLot 180 = .ok (.iload_n 2, 1) := by decide +kernel
theorem dX12_findLot_181 : decode cX12_findLot 181 = .ok (.invokestatic 258, 3) := by decide +kernel
theorem dX12_findLot_184 : decode cX12_findLot 184 = .ok (.putfield 382, 3) := by decide +kernel
theorem dX12_findLot_187 : decode cX12_findLot 187 = .ok (.iinc 4 1, 3) := by decide +kernel
theorem dX12_findLot_190 : decode cX12_findLot 190 = .ok (.goto (-158), 3) := by decide +kernel
theorem dX12_findLot_193 : decode cX12_findLot 193 = .ok (.return_, 1) := by decide +kernel
theorem dX12_plain_0 : decode cX12_plain 0 = .ok (.iload_n 0, 1) := by decide +kernel
theorem dX12_plain_1 : decode cX12_plain 1 = .ok (.ifCond .ge 8, 3) := by decide +kernel
theorem dX12_plain_4 : decode cX12_plain 4 = .ok (.iload_n 0, 1) := by decide +kernel
theorem dX12_plain_5 : decode cX12_plain 5 = .ok (.ineg, 1) := by decide +kernel
theorem dX12_plain_6 : decode cX12_plain 6 = .ok (.goto 4, 3) := by decide +kernel
theorem dX12_plain_9 : decode cX12_plain 9 = .ok (.iload_n 0, 1) := by decide +kernel
theorem dX12_plain_10 : decode cX12_plain 10 = .ok (.ireturn, 1) := by decide +kernel
theorem dX12_isOff_0 : decode cX12_isOff 0 = .ok (.aload_n 0, 1) := by decide +kernel
theorem dX12_isOff_1 : decode cX12_isOff 1 = .ok (.getfield 370, 3) := by decide +kernel
theorem dX12_isOff_4 : decode cX12_isOff 4 = .ok (.iconst 2, 1) := by decide +kernel
theorem dX12_isOff_5 : decode cX12_isOff 5 = .ok (.if_icmp .lt 26, 3) := by decide +kernel
theorem dX12_isOff_8 : decode cX12_isOff 8 = .ok (.aload_n 0, 1) := by decide +kernel
theorem dX12_isOff_9 : decode cX12_isOff 9 = .ok (.getfield 373, 3) := by decide +kernel
theorem dX12_isOff_12 : decode cX12_isOff 12 = .ok (.invokestatic 385, 3) := by decide +kernel
theorem dX12_isOff_15 : decode cX12_isOff 15 = .ok (.aload_n 0, 1) := by decide +kernel
theorem dX12_isOff_16 : decode cX12_isOff 16 = .ok (.getfield 325, 3) := by decide +kernel
theorem dX12_isOff_19 : decode cX12_isOff 19 = .ok (.aload_n 0, 1) := by decide +kernel
theorem dX12_isOff_20 : decode cX12_isOff 20 = .ok (.getfield 370, 3) := by decide +kernel
theorem dX12_isOff_23 : decode cX12_isOff 23 = .ok (.imul, 1) := by decide +kernel
theorem dX12_isOff_24 : decode cX12_isOff 24 = .ok (.if_icmp .le 7, 3) := by decide +kernel
theorem dX12_isOff_27 : decode cX12_isOff 27 = .ok (.iconst 1, 1) := by decide +kernel
theorem dX12_isOff_28 : decode cX12_isOff 28 = .ok (.goto 4, 3) := by decide +kernel
theorem dX12_isOff_31 : decode cX12_isOff 31 = .ok (.iconst 0, 1) := by decide +kernel
theorem dX12_isOff_32 : decode cX12_isOff 32 = .ok (.ireturn, 1) := by decide +kernel
theorem dX12_lot_0 : decode cX12_lot 0 = .ok (.iload_n 1, 1) := by decide +kernel
theorem dX12_lot_1 : decode cX12_lot 1 = .ok (.i2l, 1) := by decide +kernel
theorem dX12_lot_2 : decode cX12_lot 2 = .ok (.lconst 0, 1) := by decide +kernel
theorem dX12_lot_3 : decode cX12_lot 3 = .ok (.ldc2_w 222, 3) := by decide +kernel
theorem dX12_lot_6 : decode cX12_lot 6 = .ok (.invokestatic 145, 3) := by decide +kernel
theorem dX12_lot_9 : decode cX12_lot 9 = .ok (.ifCond .eq 15, 3) := by decide +kernel
theorem dX12_lot_12 : decode cX12_lot 12 = .ok (.iload_n 2, 1) := by decide +kernel
theorem dX12_lot_13 : decode cX12_lot 13 = .ok (.i2l, 1) := by decide +kernel
theorem dX12_lot_14 : decode cX12_lot 14 = .ok (.lconst 0, 1) := by decide +kernel
theorem dX12_lot_15 : decode cX12_lot 15 = .ok (.ldc2_w 222, 3) := by decide +kernel
theorem dX12_lot_18 : decode cX12_lot 18 = .ok (.invokestatic 145, 3) := by decide +kernel
theorem dX12_lot_21 : decode cX12_lot 21 = .ok (.ifCond .ne 7, 3) := by decide +kernel
theorem dX12_lot_24 : decode cX12_lot 24 = .ok (.sipush (-10000), 3) := by decide +kernel
theorem dX12_lot_27 : decode cX12_lot 27 = .ok (.ireturn, 1) := by decide +kernel
theorem dX12_lot_28 : decode cX12_lot 28 = .ok (.aload_n 0, 1) := by decide +kernel
theorem dX12_lot_29 : decode cX12_lot 29 = .ok (.iload_n 1, 1) := by decide +kernel
theorem dX12_lot_30 : decode cX12_lot 30 = .ok (.invokevirtual 388, 3) := by decide +kernel
theorem dX12_lot_33 : decode cX12_lot 33 = .ok (.iload_n 2, 1) := by decide +kernel
theorem dX12_lot_34 : decode cX12_lot 34 = .ok (.tableswitch 67 0 4 #[34, 39, 44, 49, 54], 34) := by decide +kernel
theorem dX12_lot_68 : decode cX12_lot 68 = .ok (.aload_n 0, 1) := by decide +kernel
theorem dX12_lot_69 : decode cX12_lot 69 = .ok (.getfield 370, 3) := by decide +kernel
theorem dX12_lot_72 : decode cX12_lot 72 = .ok (.ireturn, 1) := by decide +kernel
theorem dX12_lot_73 : decode cX12_lot 73 = .ok (.aload_n 0, 1) := by decide +kernel
theorem dX12_lot_74 : decode cX12_lot 74 = .ok (.getfield 373, 3) := by decide +kernel
theorem dX12_lot_77 : decode cX12_lot 77 = .ok (.ireturn, 1) := by decide +kernel
theorem dX12_lot_78 : decode cX12_lot 78 = .ok (.aload_n 0, 1) := by decide +kernel
theorem dX12_lot_79 : decode cX12_lot 79 = .ok (.getfield 376, 3) := by decide +kernel
theorem dX12_lot_82 : decode cX12_lot 82 = .ok (.ireturn, 1) := by decide +kernel
theorem dX12_lot_83 : decode cX12_lot 83 = .ok (.aload_n 0, 1) := by decide +kernel
theorem dX12_lot_84 : decode cX12_lot 84 = .ok (.getfield 379, 3) := by decide +kernel
theorem dX12_lot_87 : decode cX12_lot 87 = .ok (.ireturn, 1) := by decide +kernel
theorem dX12_lot_88 : decode cX12_lot 88 = .ok (.aload_n 0, 1) := by decide +kernel
theorem dX12_lot_89 : decode cX12_lot 89 = .ok (.invokevirtual 391, 3) := by decide +kernel
theorem dX12_lot_92 : decode cX12_lot 92 = .ok (.ifCond .eq 7, 3) := by decide +kernel
theorem dX12_lot_95 : decode cX12_lot 95 = .ok (.iconst 1, 1) := by decide +kernel
theorem dX12_lot_96 : decode cX12_lot 96 = .ok (.goto 4, 3) := by decide +kernel
theorem dX12_lot_99 : decode cX12_lot 99 = .ok (.iconst 0, 1) := by decide +kernel
theorem dX12_lot_100 : decode cX12_lot 100 = .ok (.ireturn, 1) := by decide +kernel
theorem dX12_lot_101 : decode cX12_lot 101 = .ok (.aload_n 0, 1) := by decide +kernel
theorem dX12_lot_102 : decode cX12_lot 102 = .ok (.getfield 382, 3) := by decide +kernel
theorem dX12_lot_105 : decode cX12_lot 105 = .ok (.ireturn, 1) := by decide +kernel
theorem dX12_worst_0 : decode cX12_worst 0 = .ok (.bipush (-4), 2) := by decide +kernel
theorem dX12_worst_2 : decode cX12_worst 2 = .ok (.istore_n 1, 1) := by decide +kernel
theorem dX12_worst_3 : decode cX12_worst 3 = .ok (.iconst 0, 1) := by decide +kernel
theorem dX12_worst_4 : decode cX12_worst 4 = .ok (.istore_n 2, 1) := by decide +kernel
theorem dX12_worst_5 : decode cX12_worst 5 = .ok (.iconst 1, 1) := by decide +kernel
theorem dX12_worst_6 : decode cX12_worst 6 = .ok (.istore_n 3, 1) := by decide +kernel
