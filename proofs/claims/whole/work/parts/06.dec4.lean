theorem dX7_lawful_21 : decode cX7_lawful 21 = .ok (.iconst 1, 1) := by decide +kernel
theorem dX7_lawful_22 : decode cX7_lawful 22 = .ok (.goto 4, 3) := by decide +kernel
theorem dX7_lawful_25 : decode cX7_lawful 25 = .ok (.iconst 0, 1) := by decide +kernel
theorem dX7_lawful_26 : decode cX7_lawful 26 = .ok (.ireturn, 1) := by decide +kernel
theorem dX7_findSlip_0 : decode cX7_findSlip 0 = .ok (.aload_n 0, 1) := by decide +kernel
theorem dX7_findSlip_1 : decode cX7_findSlip 1 = .ok (.invokevirtual 194, 3) := by decide +kernel
theorem dX7_findSlip_4 : decode cX7_findSlip 4 = .ok (.aload_n 0, 1) := by decide +kernel
theorem dX7_findSlip_5 : decode cX7_findSlip 5 = .ok (.invokevirtual 188, 3) := by decide +kernel
theorem dX7_findSlip_8 : decode cX7_findSlip 8 = .ok (.istore_n 1, 1) := by decide +kernel
theorem dX7_findSlip_9 : decode cX7_findSlip 9 = .ok (.aload_n 0, 1) := by decide +kernel
theorem dX7_findSlip_10 : decode cX7_findSlip 10 = .ok (.getfield 19, 3) := by decide +kernel
theorem dX7_findSlip_13 : decode cX7_findSlip 13 = .ok (.iconst 1, 1) := by decide +kernel
theorem dX7_findSlip_14 : decode cX7_findSlip 14 = .ok (.iaload, 1) := by decide +kernel
theorem dX7_findSlip_15 : decode cX7_findSlip 15 = .ok (.istore_n 2, 1) := by decide +kernel
theorem dX7_findSlip_16 : decode cX7_findSlip 16 = .ok (.aload_n 0, 1) := by decide +kernel
theorem dX7_findSlip_17 : decode cX7_findSlip 17 = .ok (.getfield 19, 3) := by decide +kernel
theorem dX7_findSlip_20 : decode cX7_findSlip 20 = .ok (.iconst 2, 1) := by decide +kernel
theorem dX7_findSlip_21 : decode cX7_findSlip 21 = .ok (.iaload, 1) := by decide +kernel
theorem dX7_findSlip_22 : decode cX7_findSlip 22 = .ok (.istore_n 3, 1) := by decide +kernel
theorem dX7_findSlip_23 : decode cX7_findSlip 23 = .ok (.iconst 0, 1) := by decide +kernel
theorem dX7_findSlip_24 : decode cX7_findSlip 24 = .ok (.istore 4, 2) := by decide +kernel
theorem dX7_findSlip_26 : decode cX7_findSlip 26 = .ok (.bipush (-9), 2) := by decide +kernel
theorem dX7_findSlip_28 : decode cX7_findSlip 28 = .ok (.istore 5, 2) := by decide +kernel
theorem dX7_findSlip_30 : decode cX7_findSlip 30 = .ok (.aload_n 0, 1) := by decide +kernel
theorem dX7_findSlip_31 : decode cX7_findSlip 31 = .ok (.lconst 0, 1) := by decide +kernel
theorem dX7_findSlip_32 : decode cX7_findSlip 32 = .ok (.putfield 216, 3) := by decide +kernel
theorem dX7_findSlip_35 : decode cX7_findSlip 35 = .ok (.aload_n 0, 1) := by decide +kernel
theorem dX7_findSlip_36 : decode cX7_findSlip 36 = .ok (.iconst 0, 1) := by decide +kernel
theorem dX7_findSlip_37 : decode cX7_findSlip 37 = .ok (.putfield 220, 3) := by decide +kernel
theorem dX7_findSlip_40 : decode cX7_findSlip 40 = .ok (.iconst 0, 1) := by decide +kernel
theorem dX7_findSlip_41 : decode cX7_findSlip 41 = .ok (.istore 6, 2) := by decide +kernel
theorem dX7_findSlip_43 : decode cX7_findSlip 43 = .ok (.iload 6, 2) := by decide +kernel
theorem dX7_findSlip_45 : decode cX7_findSlip 45 = .ok (.aload_n 0, 1) := by decide +kernel
theorem dX7_findSlip_46 : decode cX7_findSlip 46 = .ok (.getfield 210, 3) := by decide +kernel
theorem dX7_findSlip_49 : decode cX7_findSlip 49 = .ok (.if_icmp .ge 144, 3) := by decide +kernel
theorem dX7_findSlip_52 : decode cX7_findSlip 52 = .ok (.iload_n 2, 1) := by decide +kernel
theorem dX7_findSlip_53 : decode cX7_findSlip 53 = .ok (.iload_n 3, 1) := by decide +kernel
theorem dX7_findSlip_54 : decode cX7_findSlip 54 = .ok (.iload 4, 2) := by decide +kernel
theorem dX7_findSlip_56 : decode cX7_findSlip 56 = .ok (.invokestatic 171, 3) := by decide +kernel
theorem dX7_findSlip_59 : decode cX7_findSlip 59 = .ok (.istore 7, 2) := by decide +kernel
theorem dX7_findSlip_61 : decode cX7_findSlip 61 = .ok (.aload_n 0, 1) := by decide +kernel
theorem dX7_findSlip_62 : decode cX7_findSlip 62 = .ok (.getfield 42, 3) := by decide +kernel
theorem dX7_findSlip_65 : decode cX7_findSlip 65 = .ok (.iload_n 2, 1) := by decide +kernel
theorem dX7_findSlip_66 : decode cX7_findSlip 66 = .ok (.iload_n 3, 1) := by decide +kernel
theorem dX7_findSlip_67 : decode cX7_findSlip 67 = .ok (.iload 4, 2) := by decide +kernel
theorem dX7_findSlip_69 : decode cX7_findSlip 69 = .ok (.iload_n 1, 1) := by decide +kernel
theorem dX7_findSlip_70 : decode cX7_findSlip 70 = .ok (.invokestatic 163, 3) := by decide +kernel
theorem dX7_findSlip_73 : decode cX7_findSlip 73 = .ok (.laload, 1) := by decide +kernel
theorem dX7_findSlip_74 : decode cX7_findSlip 74 = .ok (.lstore 8, 2) := by decide +kernel
theorem dX7_findSlip_76 : decode cX7_findSlip 76 = .ok (.iload_n 1, 1) := by decide +kernel
theorem dX7_findSlip_77 : decode cX7_findSlip 77 = .ok (.iconst 1, 1) := by decide +kernel
theorem dX7_findSlip_78 : decode cX7_findSlip 78 = .ok (.aload_n 0, 1) := by decide +kernel
theorem dX7_findSlip_79 : decode cX7_findSlip 79 = .ok (.getfield 51, 3) := by decide +kernel
theorem dX7_findSlip_82 : decode cX7_findSlip 82 = .ok (.iload 6, 2) := by decide +kernel
theorem dX7_findSlip_84 : decode cX7_findSlip 84 = .ok (.iaload, 1) := by decide +kernel
theorem dX7_findSlip_85 : decode cX7_findSlip 85 = .ok (.ishl, 1) := by decide +kernel
theorem dX7_findSlip_86 : decode cX7_findSlip 86 = .ok (.iconst (-1), 1) := by decide +kernel
theorem dX7_findSlip_87 : decode cX7_findSlip 87 = .ok (.ixor, 1) := by decide +kernel
theorem dX7_findSlip_88 : decode cX7_findSlip 88 = .ok (.iand, 1) := by decide +kernel
theorem dX7_findSlip_89 : decode cX7_findSlip 89 = .ok (.istore_n 1, 1) := by decide +kernel
theorem dX7_findSlip_90 : decode cX7_findSlip 90 = .ok (.iload 7, 2) := by decide +kernel
theorem dX7_findSlip_92 : decode cX7_findSlip 92 = .ok (.ifCond .ne 27, 3) := by decide +kernel
theorem dX7_findSlip_95 : decode cX7_findSlip 95 = .ok (.aload_n 0, 1) := by decide +kernel
theorem dX7_findSlip_96 : decode cX7_findSlip 96 = .ok (.dup, 1) := by decide +kernel
theorem dX7_findSlip_97 : decode cX7_findSlip 97 = .ok (.getfield 220, 3) := by decide +kernel
theorem dX7_findSlip_100 : decode cX7_findSlip 100 = .ok (.iconst 1, 1) := by decide +kernel
theorem dX7_findSlip_101 : decode cX7_findSlip 101 = .ok (.aload_n 0, 1) := by decide +kernel
theorem dX7_findSlip_102 : decode cX7_findSlip 102 = .ok (.getfield 51, 3) := by decide +kernel
theorem dX7_findSlip_105 : decode cX7_findSlip 105 = .ok (.iload 6, 2) := by decide +kernel
theorem dX7_findSlip_107 : decode cX7_findSlip 107 = .ok (.iaload, 1) := by decide +kernel
theorem dX7_findSlip_108 : decode cX7_findSlip 108 = .ok (.ishl, 1) := by decide +kernel
theorem dX7_findSlip_109 : decode cX7_findSlip 109 = .ok (.ior, 1) := by decide +kernel
theorem dX7_findSlip_110 : decode cX7_findSlip 110 = .ok (.putfield 220, 3) := by decide +kernel
theorem dX7_findSlip_113 : decode cX7_findSlip 113 = .ok (.iinc 2 (-1), 3) := by decide +kernel
theorem dX7_findSlip_116 : decode cX7_findSlip 116 = .ok (.goto 6, 3) := by decide +kernel
theorem dX7_findSlip_119 : decode cX7_findSlip 119 = .ok (.iinc 3 (-1), 3) := by decide +kernel
theorem dX7_findSlip_122 : decode cX7_findSlip 122 = .ok (.iconst 1, 1) := by decide +kernel
theorem dX7_findSlip_123 : decode cX7_findSlip 123 = .ok (.iload 7, 2) := by decide +kernel
theorem dX7_findSlip_125 : decode cX7_findSlip 125 = .ok (.isub, 1) := by decide +kernel
theorem dX7_findSlip_126 : decode cX7_findSlip 126 = .ok (.istore 4, 2) := by decide +kernel
theorem dX7_findSlip_128 : decode cX7_findSlip 128 = .ok (.aload_n 0, 1) := by decide +kernel
theorem dX7_findSlip_129 : decode cX7_findSlip 129 = .ok (.getfield 42, 3) := by decide +kernel
theorem dX7_findSlip_132 : decode cX7_findSlip 132 = .ok (.iload_n 2, 1) := by decide +kernel
theorem dX7_findSlip_133 : decode cX7_findSlip 133 = .ok (.iload_n 3, 1) := by decide +kernel
theorem dX7_findSlip_134 : decode cX7_findSlip 134 = .ok (.iload 4, 2) := by decide +kernel
theorem dX7_findSlip_136 : decode cX7_findSlip 136 = .ok (.iload_n 1, 1) := by decide +kernel
theorem dX7_findSlip_137 : decode cX7_findSlip 137 = .ok (.invokestatic 163, 3) := by decide +kernel
theorem dX7_findSlip_140 : decode cX7_findSlip 140 = .ok (.laload, 1) := by decide +kernel
theorem dX7_findSlip_141 : decode cX7_findSlip 141 = .ok (.lstore 10, 2) := by decide +kernel
theorem dX7_findSlip_143 : decode cX7_findSlip 143 = .ok (.iload 5, 2) := by decide +kernel
theorem dX7_findSlip_145 : decode cX7_findSlip 145 = .ok (.bipush (-9), 2) := by decide +kernel
theorem dX7_findSlip_147 : decode cX7_findSlip 147 = .ok (.if_icmp .ne 40, 3) := by decide +kernel
theorem dX7_findSlip_150 : decode cX7_findSlip 150 = .ok (.lload 10, 2) := by decide +kernel
theorem dX7_findSlip_152 : decode cX7_findSlip 152 = .ok (.lload 8, 2) := by decide +kernel
theorem dX7_findSlip_154 : decode cX7_findSlip 154 = .ok (.lcmp, 1) := by decide +kernel
theorem dX7_findSlip_155 : decode cX7_findSlip 155 = .ok (.ifCond .ne 6, 3) := by decide +kernel
theorem dX7_findSlip_158 : decode cX7_findSlip 158 = .ok (.goto 29, 3) := by decide +kernel
theorem dX7_findSlip_161 : decode cX7_findSlip 161 = .ok (.iload 6, 2) := by decide +kernel
theorem dX7_findSlip_163 : decode cX7_findSlip 163 = .ok (.istore 5, 2) := by decide +kernel
theorem dX7_findSlip_165 : decode cX7_findSlip 165 = .ok (.aload_n 0, 1) := by decide +kernel
theorem dX7_findSlip_166 : decode cX7_findSlip 166 = .ok (.iload 7, 2) := by decide +kernel
theorem dX7_findSlip_168 : decode cX7_findSlip 168 = .ok (.ifCond .ne 11, 3) := by decide +kernel
theorem dX7_findSlip_171 : decode cX7_findSlip 171 = .ok (.lload 8, 2) := by decide +kernel
theorem dX7_findSlip_173 : decode cX7_findSlip 173 = .ok (.lload 10, 2) := by decide +kernel
theorem dX7_findSlip_175 : decode cX7_findSlip 175 = .ok (.lsub, 1) := by decide +kernel
theorem dX7_findSlip_176 : decode cX7_findSlip 176 = .ok (.goto 8, 3) := by decide +kernel
theorem dX7_findSlip_179 : decode cX7_findSlip 179 = .ok (.lload 10, 2) := by decide +kernel
theorem dX7_findSlip_181 : decode cX7_findSlip 181 = .ok (.lload 8, 2) := by decide +kernel
theorem dX7_findSlip_183 : decode cX7_findSlip 183 = .ok (.lsub, 1) := by decide +kernel
theorem dX7_findSlip_184 : decode cX7_findSlip 184 = .ok (.putfield 216, 3) := by decide +kernel
theorem dX7_findSlip_187 : decode cX7_findSlip 187 = .ok (.iinc 6 1, 3) := by decide +kernel
theorem dX7_findSlip_190 : decode cX7_findSlip 190 = .ok (.goto (-147), 3) := by decide +kernel
theorem dX7_findSlip_193 : decode cX7_findSlip 193 = .ok (.iload 5, 2) := by decide +kernel
theorem dX7_findSlip_195 : decode cX7_findSlip 195 = .ok (.ireturn, 1) := by decide +kernel
theorem dX7_slip_0 : decode cX7_slip 0 = .ok (.aload_n 0, 1) := by decide +kernel
theorem dX7_slip_1 : decode cX7_slip 1 = .ok (.invokevirtual 191, 3) := by decide +kernel
theorem dX7_slip_4 : decode cX7_slip 4 = .ok (.ifCond .eq 10, 3) := by decide +kernel
theorem dX7_slip_7 : decode cX7_slip 7 = .ok (.aload_n 0, 1) := by decide +kernel
theorem dX7_slip_8 : decode cX7_slip 8 = .ok (.invokevirtual 213, 3) := by decide +kernel
theorem dX7_slip_11 : decode cX7_slip 11 = .ok (.ifCond .ne 10, 3) := by decide +kernel
theorem dX7_slip_14 : decode cX7_slip 14 = .ok (.aload_n 0, 1) := by decide +kernel
theorem dX7_slip_15 : decode cX7_slip 15 = .ok (.bipush (-3), 2) := by decide +kernel
theorem dX7_slip_17 : decode cX7_slip 17 = .ok (.invokevirtual 150, 3) := by decide +kernel
theorem dX7_slip_20 : decode cX7_slip 20 = .ok (.lreturn, 1) := by decide +kernel
theorem dX7_slip_21 : decode cX7_slip 21 = .ok (.aload_n 0, 1) := by decide +kernel
theorem dX7_slip_22 : decode cX7_slip 22 = .ok (.invokevirtual 223, 3) := by decide +kernel
theorem dX7_slip_25 : decode cX7_slip 25 = .ok (.istore_n 2, 1) := by decide +kernel
theorem dX7_slip_26 : decode cX7_slip 26 = .ok (.iload_n 1, 1) := by decide +kernel
theorem dX7_slip_27 : decode cX7_slip 27 = .ok (.ifCond .eq 10, 3) := by decide +kernel
theorem dX7_slip_30 : decode cX7_slip 30 = .ok (.aload_n 0, 1) := by decide +kernel
theorem dX7_slip_31 : decode cX7_slip 31 = .ok (.getfield 216, 3) := by decide +kernel
theorem dX7_slip_34 : decode cX7_slip 34 = .ok (.goto 5, 3) := by decide +kernel
theorem dX7_slip_37 : decode cX7_slip 37 = .ok (.iload_n 2, 1) := by decide +kernel
theorem dX7_slip_38 : decode cX7_slip 38 = .ok (.i2l, 1) := by decide +kernel
theorem dX7_slip_39 : decode cX7_slip 39 = .ok (.lreturn, 1) := by decide +kernel
theorem dX7_second_0 : decode cX7_second 0 = .ok (.aload_n 0, 1) := by decide +kernel
theorem dX7_second_1 : decode cX7_second 1 = .ok (.invokevirtual 191, 3) := by decide +kernel
theorem dX7_second_4 : decode cX7_second 4 = .ok (.ifCond .ne 10, 3) := by decide +kernel
theorem dX7_second_7 : decode cX7_second 7 = .ok (.aload_n 0, 1) := by decide +kernel
theorem dX7_second_8 : decode cX7_second 8 = .ok (.bipush (-3), 2) := by decide +kernel
theorem dX7_second_10 : decode cX7_second 10 = .ok (.invokevirtual 150, 3) := by decide +kernel
theorem dX7_second_13 : decode cX7_second 13 = .ok (.lreturn, 1) := by decide +kernel
theorem dX7_second_14 : decode cX7_second 14 = .ok (.aload_n 0, 1) := by decide +kernel
theorem dX7_second_15 : decode cX7_second 15 = .ok (.invokevirtual 194, 3) := by decide +kernel
theorem dX7_second_18 : decode cX7_second 18 = .ok (.aload_n 0, 1) := by decide +kernel
theorem dX7_second_19 : decode cX7_second 19 = .ok (.getfield 42, 3) := by decide +kernel
theorem dX7_second_22 : decode cX7_second 22 = .ok (.aload_n 0, 1) := by decide +kernel
theorem dX7_second_23 : decode cX7_second 23 = .ok (.getfield 19, 3) := by decide +kernel
theorem dX7_second_26 : decode cX7_second 26 = .ok (.iconst 1, 1) := by decide +kernel
theorem dX7_second_27 : decode cX7_second 27 = .ok (.iaload, 1) := by decide +kernel
theorem dX7_second_28 : decode cX7_second 28 = .ok (.aload_n 0, 1) := by decide +kernel
theorem dX7_second_29 : decode cX7_second 29 = .ok (.getfield 19, 3) := by decide +kernel
theorem dX7_second_32 : decode cX7_second 32 = .ok (.iconst 2, 1) := by decide +kernel
theorem dX7_second_33 : decode cX7_second 33 = .ok (.iaload, 1) := by decide +kernel
theorem dX7_second_34 : decode cX7_second 34 = .ok (.iconst 1, 1) := by decide +kernel
theorem dX7_second_35 : decode cX7_second 35 = .ok (.aload_n 0, 1) := by decide +kernel
theorem dX7_second_36 : decode cX7_second 36 = .ok (.invokevirtual 188, 3) := by decide +kernel
theorem dX7_second_39 : decode cX7_second 39 = .ok (.invokestatic 163, 3) := by decide +kernel
theorem dX7_second_42 : decode cX7_second 42 = .ok (.laload, 1) := by decide +kernel
theorem dX7_second_43 : decode cX7_second 43 = .ok (.aload_n 0, 1) := by decide +kernel
theorem dX7_second_44 : decode cX7_second 44 = .ok (.invokevirtual 197, 3) := by decide +kernel
theorem dX7_second_47 : decode cX7_second 47 = .ok (.lsub, 1) := by decide +kernel
theorem dX7_second_48 : decode cX7_second 48 = .ok (.lreturn, 1) := by decide +kernel
theorem dX7_more_0 : decode cX7_more 0 = .ok (.iload_n 1, 1) := by decide +kernel
theorem dX7_more_1 : decode cX7_more 1 = .ok (.iconst 0, 1) := by decide +kernel
theorem dX7_more_2 : decode cX7_more 2 = .ok (.iconst 1, 1) := by decide +kernel
theorem dX7_more_3 : decode cX7_more 3 = .ok (.invokestatic 87, 3) := by decide +kernel
theorem dX7_more_6 : decode cX7_more 6 = .ok (.ifCond .ne 9, 3) := by decide +kernel
theorem dX7_more_9 : decode cX7_more 9 = .ok (.aload_n 0, 1) := by decide +kernel
theorem dX7_more_10 : decode cX7_more 10 = .ok (.iconst (-1), 1) := by decide +kernel
theorem dX7_more_11 : decode cX7_more 11 = .ok (.invokevirtual 150, 3) := by decide +kernel
theorem dX7_more_14 : decode cX7_more 14 = .ok (.lreturn, 1) := by decide +kernel
theorem dX7_more_15 : decode cX7_more 15 = .ok (.aload_n 0, 1) := by decide +kernel
theorem dX7_more_16 : decode cX7_more 16 = .ok (.invokevirtual 95, 3) := by decide +kernel
theorem dX7_more_19 : decode cX7_more 19 = .ok (.iconst 1, 1) := by decide +kernel
theorem dX7_more_20 : decode cX7_more 20 = .ok (.iadd, 1) := by decide +kernel
theorem dX7_more_21 : decode cX7_more 21 = .ok (.aload_n 0, 1) := by decide +kernel
theorem dX7_more_22 : decode cX7_more 22 = .ok (.getfield 83, 3) := by decide +kernel
theorem dX7_more_25 : decode cX7_more 25 = .ok (.if_icmp .gt 15, 3) := by decide +kernel
theorem dX7_more_28 : decode cX7_more 28 = .ok (.aload_n 0, 1) := by decide +kernel
theorem dX7_more_29 : decode cX7_more 29 = .ok (.getfield 19, 3) := by decide +kernel
theorem dX7_more_32 : decode cX7_more 32 = .ok (.iconst 1, 1) := by decide +kernel
theorem dX7_more_33 : decode cX7_more 33 = .ok (.iload_n 1, 1) := by decide +kernel
theorem dX7_more_34 : decode cX7_more 34 = .ok (.iadd, 1) := by decide +kernel
theorem dX7_more_35 : decode cX7_more 35 = .ok (.iaload, 1) := by decide +kernel
theorem dX7_more_36 : decode cX7_more 36 = .ok (.iconst 3, 1) := by decide +kernel
theorem dX7_more_37 : decode cX7_more 37 = .ok (.if_icmp .ne 10, 3) := by decide +kernel
theorem dX7_more_40 : decode cX7_more 40 = .ok (.aload_n 0, 1) := by decide +kernel
theorem dX7_more_41 : decode cX7_more 41 = .ok (.bipush (-3), 2) := by decide +kernel
theorem dX7_more_43 : decode cX7_more 43 = .ok (.invokevirtual 150, 3) := by decide +kernel
theorem dX7_more_46 : decode cX7_more 46 = .ok (.lreturn, 1) := by decide +kernel
theorem dX7_more_47 : decode cX7_more 47 = .ok (.aload_n 0, 1) := by decide +kernel
theorem dX7_more_48 : decode cX7_more 48 = .ok (.invokevirtual 194, 3) := by decide +kernel
theorem dX7_more_51 : decode cX7_more 51 = .ok (.aload_n 0, 1) := by decide +kernel
theorem dX7_more_52 : decode cX7_more 52 = .ok (.invokevirtual 197, 3) := by decide +kernel
theorem dX7_more_55 : decode cX7_more 55 = .ok (.lstore_n 2, 1) := by decide +kernel
theorem dX7_more_56 : decode cX7_more 56 = .ok (.aload_n 0, 1) := by decide +kernel
theorem dX7_more_57 : decode cX7_more 57 = .ok (.getfield 19, 3) := by decide +kernel
theorem dX7_more_60 : decode cX7_more 60 = .ok (.iconst 1, 1) := by decide +kernel
theorem dX7_more_61 : decode cX7_more 61 = .ok (.iload_n 1, 1) := by decide +kernel
theorem dX7_more_62 : decode cX7_more 62 = .ok (.iadd, 1) := by decide +kernel
theorem dX7_more_63 : decode cX7_more 63 = .ok (.dup2, 1) := by decide +kernel
theorem dX7_more_64 : decode cX7_more 64 = .ok (.iaload, 1) := by decide +kernel
theorem dX7_more_65 : decode cX7_more 65 = .ok (.iconst 1, 1) := by decide +kernel
theorem dX7_more_66 : decode cX7_more 66 = .ok (.iadd, 1) := by decide +kernel
theorem dX7_more_67 : decode cX7_more 67 = .ok (.iastore, 1) := by decide +kernel
theorem dX7_more_68 : decode cX7_more 68 = .ok (.aload_n 0, 1) := by decide +kernel
theorem dX7_more_69 : decode cX7_more 69 = .ok (.invokevirtual 194, 3) := by decide +kernel
theorem dX7_more_72 : decode cX7_more 72 = .ok (.aload_n 0, 1) := by decide +kernel
theorem dX7_more_73 : decode cX7_more 73 = .ok (.invokevirtual 197, 3) := by decide +kernel
theorem dX7_more_76 : decode cX7_more 76 = .ok (.lstore 4, 2) := by decide +kernel
theorem dX7_more_78 : decode cX7_more 78 = .ok (.aload_n 0, 1) := by decide +kernel
theorem dX7_more_79 : decode cX7_more 79 = .ok (.getfield 19, 3) := by decide +kernel
theorem dX7_more_82 : decode cX7_more 82 = .ok (.iconst 1, 1) := by decide +kernel
theorem dX7_more_83 : decode cX7_more 83 = .ok (.iload_n 1, 1) := by decide +kernel
theorem dX7_more_84 : decode cX7_more 84 = .ok (.iadd, 1) := by decide +kernel
theorem dX7_more_85 : decode cX7_more 85 = .ok (.dup2, 1) := by decide +kernel
theorem dX7_more_86 : decode cX7_more 86 = .ok (.iaload, 1) := by decide +kernel
theorem dX7_more_87 : decode cX7_more 87 = .ok (.iconst 1, 1) := by decide +kernel
theorem dX7_more_88 : decode cX7_more 88 = .ok (.isub, 1) := by decide +kernel
theorem dX7_more_89 : decode cX7_more 89 = .ok (.iastore, 1) := by decide +kernel
theorem dX7_more_90 : decode cX7_more 90 = .ok (.iload_n 1, 1) := by decide +kernel
theorem dX7_more_91 : decode cX7_more 91 = .ok (.ifCond .ne 10, 3) := by decide +kernel
theorem dX7_more_94 : decode cX7_more 94 = .ok (.lload 4, 2) := by decide +kernel
theorem dX7_more_96 : decode cX7_more 96 = .ok (.lload_n 2, 1) := by decide +kernel
theorem dX7_more_97 : decode cX7_more 97 = .ok (.lsub, 1) := by decide +kernel
theorem dX7_more_98 : decode cX7_more 98 = .ok (.goto 7, 3) := by decide +kernel
theorem dX7_more_101 : decode cX7_more 101 = .ok (.lload_n 2, 1) := by decide +kernel
theorem dX7_more_102 : decode cX7_more 102 = .ok (.lload 4, 2) := by decide +kernel
theorem dX7_more_104 : decode cX7_more 104 = .ok (.lsub, 1) := by decide +kernel
theorem dX7_more_105 : decode cX7_more 105 = .ok (.lreturn, 1) := by decide +kernel
theorem dX7_juryOf_0 : decode cX7_juryOf 0 = .ok (.aload_n 0, 1) := by decide +kernel
theorem dX7_juryOf_1 : decode cX7_juryOf 1 = .ok (.invokevirtual 188, 3) := by decide +kernel
theorem dX7_juryOf_4 : decode cX7_juryOf 4 = .ok (.iload_n 1, 1) := by decide +kernel
theorem dX7_juryOf_5 : decode cX7_juryOf 5 = .ok (.iload_n 2, 1) := by decide +kernel
theorem dX7_juryOf_6 : decode cX7_juryOf 6 = .ok (.ior, 1) := by decide +kernel
theorem dX7_juryOf_7 : decode cX7_juryOf 7 = .ok (.iconst (-1), 1) := by decide +kernel
theorem dX7_juryOf_8 : decode cX7_juryOf 8 = .ok (.ixor, 1) := by decide +kernel
theorem dX7_juryOf_9 : decode cX7_juryOf 9 = .ok (.iand, 1) := by decide +kernel
theorem dX7_juryOf_10 : decode cX7_juryOf 10 = .ok (.istore_n 3, 1) := by decide +kernel
theorem dX7_juryOf_11 : decode cX7_juryOf 11 = .ok (.iconst 0, 1) := by decide +kernel
theorem dX7_juryOf_12 : decode cX7_juryOf 12 = .ok (.istore 4, 2) := by decide +kernel
theorem dX7_juryOf_14 : decode cX7_juryOf 14 = .ok (.iconst 0, 1) := by decide +kernel
theorem dX7_juryOf_15 : decode cX7_juryOf 15 = .ok (.istore 5, 2) := by decide +kernel
theorem dX7_juryOf_17 : decode cX7_juryOf 17 = .ok (.iconst 0, 1) := by decide +kernel
theorem dX7_juryOf_18 : decode cX7_juryOf 18 = .ok (.istore 6, 2) := by decide +kernel
theorem dX7_juryOf_20 : decode cX7_juryOf 20 = .ok (.iload 6, 2) := by decide +kernel
theorem dX7_juryOf_22 : decode cX7_juryOf 22 = .ok (.bipush 12, 2) := by decide +kernel
theorem dX7_juryOf_24 : decode cX7_juryOf 24 = .ok (.if_icmp .ge 42, 3) := by decide +kernel
theorem dX7_juryOf_27 : decode cX7_juryOf 27 = .ok (.iload 5, 2) := by decide +kernel
theorem dX7_juryOf_29 : decode cX7_juryOf 29 = .ok (.aload_n 0, 1) := by decide +kernel
theorem dX7_juryOf_30 : decode cX7_juryOf 30 = .ok (.invokevirtual 137, 3) := by decide +kernel
theorem dX7_juryOf_33 : decode cX7_juryOf 33 = .ok (.if_icmp .ge 33, 3) := by decide +kernel
theorem dX7_juryOf_36 : decode cX7_juryOf 36 = .ok (.iload_n 3, 1) := by decide +kernel
theorem dX7_juryOf_37 : decode cX7_juryOf 37 = .ok (.iload 6, 2) := by decide +kernel
theorem dX7_juryOf_39 : decode cX7_juryOf 39 = .ok (.ishr, 1) := by decide +kernel
theorem dX7_juryOf_40 : decode cX7_juryOf 40 = .ok (.iconst 1, 1) := by decide +kernel
theorem dX7_juryOf_41 : decode cX7_juryOf 41 = .ok (.iand, 1) := by decide +kernel
theorem dX7_juryOf_42 : decode cX7_juryOf 42 = .ok (.ifCond .ne 6, 3) := by decide +kernel
theorem dX7_juryOf_45 : decode cX7_juryOf 45 = .ok (.goto 15, 3) := by decide +kernel
theorem dX7_juryOf_48 : decode cX7_juryOf 48 = .ok (.iload 4, 2) := by decide +kernel
theorem dX7_juryOf_50 : decode cX7_juryOf 50 = .ok (.iconst 1, 1) := by decide +kernel
theorem dX7_juryOf_51 : decode cX7_juryOf 51 = .ok (.iload 6, 2) := by decide +kernel
theorem dX7_juryOf_53 : decode cX7_juryOf 53 = .ok (.ishl, 1) := by decide +kernel
theorem dX7_juryOf_54 : decode cX7_juryOf 54 = .ok (.ior, 1) := by decide +kernel
theorem dX7_juryOf_55 : decode cX7_juryOf 55 = .ok (.istore 4, 2) := by decide +kernel
theorem dX7_juryOf_57 : decode cX7_juryOf 57 = .ok (.iinc 5 1, 3) := by decide +kernel
theorem dX7_juryOf_60 : decode cX7_juryOf 60 = .ok (.iinc 6 1, 3) := by decide +kernel
theorem dX7_juryOf_63 : decode cX7_juryOf 63 = .ok (.goto (-43), 3) := by decide +kernel
theorem dX7_juryOf_66 : decode cX7_juryOf 66 = .ok (.iload 4, 2) := by decide +kernel
theorem dX7_juryOf_68 : decode cX7_juryOf 68 = .ok (.ireturn, 1) := by decide +kernel
theorem dX7_findPaper_0 : decode cX7_findPaper 0 = .ok (.aload_n 0, 1) := by decide +kernel
theorem dX7_findPaper_1 : decode cX7_findPaper 1 = .ok (.invokevirtual 154, 3) := by decide +kernel
theorem dX7_findPaper_4 : decode cX7_findPaper 4 = .ok (.aload_n 0, 1) := by decide +kernel
theorem dX7_findPaper_5 : decode cX7_findPaper 5 = .ok (.iconst 0, 1) := by decide +kernel
theorem dX7_findPaper_6 : decode cX7_findPaper 6 = .ok (.putfield 226, 3) := by decide +kernel
theorem dX7_findPaper_9 : decode cX7_findPaper 9 = .ok (.aload_n 0, 1) := by decide +kernel
theorem dX7_findPaper_10 : decode cX7_findPaper 10 = .ok (.iconst 0, 1) := by decide +kernel
theorem dX7_findPaper_11 : decode cX7_findPaper 11 = .ok (.putfield 229, 3) := by decide +kernel
theorem dX7_findPaper_14 : decode cX7_findPaper 14 = .ok (.iconst 0, 1) := by decide +kernel
theorem dX7_findPaper_15 : decode cX7_findPaper 15 = .ok (.istore_n 1, 1) := by decide +kernel
theorem dX7_findPaper_16 : decode cX7_findPaper 16 = .ok (.iload_n 1, 1) := by decide +kernel
theorem dX7_findPaper_17 : decode cX7_findPaper 17 = .ok (.aload_n 0, 1) := by decide +kernel
theorem dX7_findPaper_18 : decode cX7_findPaper 18 = .ok (.invokevirtual 188, 3) := by decide +kernel
theorem dX7_findPaper_21 : decode cX7_findPaper 21 = .ok (.if_icmp .gt 93, 3) := by decide +kernel
theorem dX7_findPaper_24 : decode cX7_findPaper 24 = .ok (.iload_n 1, 1) := by decide +kernel
theorem dX7_findPaper_25 : decode cX7_findPaper 25 = .ok (.invokestatic 144, 3) := by decide +kernel
theorem dX7_findPaper_28 : decode cX7_findPaper 28 = .ok (.istore_n 2, 1) := by decide +kernel
theorem dX7_findPaper_29 : decode cX7_findPaper 29 = .ok (.iload_n 2, 1) := by decide +kernel
theorem dX7_findPaper_30 : decode cX7_findPaper 30 = .ok (.aload_n 0, 1) := by decide +kernel
theorem dX7_findPaper_31 : decode cX7_findPaper 31 = .ok (.invokevirtual 137, 3) := by decide +kernel
theorem dX7_findPaper_34 : decode cX7_findPaper 34 = .ok (.if_icmp .ne 14, 3) := by decide +kernel
theorem dX7_findPaper_37 : decode cX7_findPaper 37 = .ok (.aload_n 0, 1) := by decide +kernel
theorem dX7_findPaper_38 : decode cX7_findPaper 38 = .ok (.getfield 38, 3) := by decide +kernel
theorem dX7_findPaper_41 : decode cX7_findPaper 41 = .ok (.iload_n 1, 1) := by decide +kernel
theorem dX7_findPaper_42 : decode cX7_findPaper 42 = .ok (.aload_n 0, 1) := by decide +kernel
theorem dX7_findPaper_43 : decode cX7_findPaper 43 = .ok (.iload_n 1, 1) := by decide +kernel
theorem dX7_findPaper_44 : decode cX7_findPaper 44 = .ok (.invokevirtual 157, 3) := by decide +kernel
theorem dX7_findPaper_47 : decode cX7_findPaper 47 = .ok (.lastore, 1) := by decide +kernel
theorem dX7_findPaper_48 : decode cX7_findPaper 48 = .ok (.iload_n 2, 1) := by decide +kernel
theorem dX7_findPaper_49 : decode cX7_findPaper 49 = .ok (.aload_n 0, 1) := by decide +kernel
theorem dX7_findPaper_50 : decode cX7_findPaper 50 = .ok (.getfield 19, 3) := by decide +kernel
theorem dX7_findPaper_53 : decode cX7_findPaper 53 = .ok (.iconst 1, 1) := by decide +kernel
theorem dX7_findPaper_54 : decode cX7_findPaper 54 = .ok (.iaload, 1) := by decide +kernel
theorem dX7_findPaper_55 : decode cX7_findPaper 55 = .ok (.if_icmp .ne 23, 3) := by decide +kernel
theorem dX7_findPaper_58 : decode cX7_findPaper 58 = .ok (.aload_n 0, 1) := by decide +kernel
theorem dX7_findPaper_59 : decode cX7_findPaper 59 = .ok (.getfield 54, 3) := by decide +kernel
theorem dX7_findPaper_62 : decode cX7_findPaper 62 = .ok (.aload_n 0, 1) := by decide +kernel
theorem dX7_findPaper_63 : decode cX7_findPaper 63 = .ok (.getfield 226, 3) := by decide +kernel
theorem dX7_findPaper_66 : decode cX7_findPaper 66 = .ok (.iload_n 1, 1) := by decide +kernel
theorem dX7_findPaper_67 : decode cX7_findPaper 67 = .ok (.iastore, 1) := by decide +kernel
theorem dX7_findPaper_68 : decode cX7_findPaper 68 = .ok (.aload_n 0, 1) := by decide +kernel
theorem dX7_findPaper_69 : decode cX7_findPaper 69 = .ok (.dup, 1) := by decide +kernel
theorem dX7_findPaper_70 : decode cX7_findPaper 70 = .ok (.getfield 226, 3) := by decide +kernel
theorem dX7_findPaper_73 : decode cX7_findPaper 73 = .ok (.iconst 1, 1) := by decide +kernel
theorem dX7_findPaper_74 : decode cX7_findPaper 74 = .ok (.iadd, 1) := by decide +kernel
theorem dX7_findPaper_75 : decode cX7_findPaper 75 = .ok (.putfield 226, 3) := by decide +kernel
theorem dX7_findPaper_78 : decode cX7_findPaper 78 = .ok (.iload_n 2, 1) := by decide +kernel
theorem dX7_findPaper_79 : decode cX7_findPaper 79 = .ok (.aload_n 0, 1) := by decide +kernel
theorem dX7_findPaper_80 : decode cX7_findPaper 80 = .ok (.getfield 19, 3) := by decide +kernel
theorem dX7_findPaper_83 : decode cX7_findPaper 83 = .ok (.iconst 2, 1) := by decide +kernel
theorem dX7_findPaper_84 : decode cX7_findPaper 84 = .ok (.iaload, 1) := by decide +kernel
theorem dX7_findPaper_85 : decode cX7_findPaper 85 = .ok (.if_icmp .ne 23, 3) := by decide +kernel
theorem dX7_findPaper_88 : decode cX7_findPaper 88 = .ok (.aload_n 0, 1) := by decide +kernel
theorem dX7_findPaper_89 : decode cX7_findPaper 89 = .ok (.getfield 57, 3) := by decide +kernel
theorem dX7_findPaper_92 : decode cX7_findPaper 92 = .ok (.aload_n 0, 1) := by decide +kernel
theorem dX7_findPaper_93 : decode cX7_findPaper 93 = .ok (.getfield 229, 3) := by decide +kernel
theorem dX7_findPaper_96 : decode cX7_findPaper 96 = .ok (.iload_n 1, 1) := by decide +kernel
theorem dX7_findPaper_97 : decode cX7_findPaper 97 = .ok (.iastore, 1) := by decide +kernel
theorem dX7_findPaper_98 : decode cX7_findPaper 98 = .ok (.aload_n 0, 1) := by decide +kernel
theorem dX7_findPaper_99 : decode cX7_findPaper 99 = .ok (.dup, 1) := by decide +kernel
theorem dX7_findPaper_100 : decode cX7_findPaper 100 = .ok (.getfield 229, 3) := by decide +kernel
theorem dX7_findPaper_103 : decode cX7_findPaper 103 = .ok (.iconst 1, 1) := by decide +kernel
theorem dX7_findPaper_104 : decode cX7_findPaper 104 = .ok (.iadd, 1) := by decide +kernel
theorem dX7_findPaper_105 : decode cX7_findPaper 105 = .ok (.putfield 229, 3) := by decide +kernel
theorem dX7_findPaper_108 : decode cX7_findPaper 108 = .ok (.iinc 1 1, 3) := by decide +kernel
theorem dX7_findPaper_111 : decode cX7_findPaper 111 = .ok (.goto (-95), 3) := by decide +kernel
theorem dX7_findPaper_114 : decode cX7_findPaper 114 = .ok (.iconst 0, 1) := by decide +kernel
theorem dX7_findPaper_115 : decode cX7_findPaper 115 = .ok (.istore_n 1, 1) := by decide +kernel
theorem dX7_findPaper_116 : decode cX7_findPaper 116 = .ok (.iload_n 1, 1) := by decide +kernel
theorem dX7_findPaper_117 : decode cX7_findPaper 117 = .ok (.aload_n 0, 1) := by decide +kernel
theorem dX7_findPaper_118 : decode cX7_findPaper 118 = .ok (.getfield 226, 3) := by decide +kernel
theorem dX7_findPaper_121 : decode cX7_findPaper 121 = .ok (.if_icmp .ge 91, 3) := by decide +kernel
theorem dX7_findPaper_124 : decode cX7_findPaper 124 = .ok (.iconst 0, 1) := by decide +kernel
theorem dX7_findPaper_125 : decode cX7_findPaper 125 = .ok (.istore_n 2, 1) := by decide +kernel
theorem dX7_findPaper_126 : decode cX7_findPaper 126 = .ok (.iload_n 2, 1) := by decide +kernel
theorem dX7_findPaper_127 : decode cX7_findPaper 127 = .ok (.aload_n 0, 1) := by decide +kernel
theorem dX7_findPaper_128 : decode cX7_findPaper 128 = .ok (.getfield 229, 3) := by decide +kernel
theorem dX7_findPaper_131 : decode cX7_findPaper 131 = .ok (.if_icmp .ge 75, 3) := by decide +kernel
theorem dX7_findPaper_134 : decode cX7_findPaper 134 = .ok (.aload_n 0, 1) := by decide +kernel
theorem dX7_findPaper_135 : decode cX7_findPaper 135 = .ok (.getfield 38, 3) := by decide +kernel
theorem dX7_findPaper_138 : decode cX7_findPaper 138 = .ok (.aload_n 0, 1) := by decide +kernel
theorem dX7_findPaper_139 : decode cX7_findPaper 139 = .ok (.aload_n 0, 1) := by decide +kernel
theorem dX7_findPaper_140 : decode cX7_findPaper 140 = .ok (.getfield 54, 3) := by decide +kernel
theorem dX7_findPaper_143 : decode cX7_findPaper 143 = .ok (.iload_n 1, 1) := by decide +kernel
theorem dX7_findPaper_144 : decode cX7_findPaper 144 = .ok (.iaload, 1) := by decide +kernel
theorem dX7_findPaper_145 : decode cX7_findPaper 145 = .ok (.aload_n 0, 1) := by decide +kernel
theorem dX7_findPaper_146 : decode cX7_findPaper 146 = .ok (.getfield 57, 3) := by decide +kernel
theorem dX7_findPaper_149 : decode cX7_findPaper 149 = .ok (.iload_n 2, 1) := by decide +kernel
theorem dX7_findPaper_150 : decode cX7_findPaper 150 = .ok (.iaload, 1) := by decide +kernel
theorem dX7_findPaper_151 : decode cX7_findPaper 151 = .ok (.invokevirtual 232, 3) := by decide +kernel
theorem dX7_findPaper_154 : decode cX7_findPaper 154 = .ok (.laload, 1) := by decide +kernel
theorem dX7_findPaper_155 : decode cX7_findPaper 155 = .ok (.lstore_n 3, 1) := by decide +kernel
theorem dX7_findPaper_156 : decode cX7_findPaper 156 = .ok (.iload_n 1, 1) := by decide +kernel
theorem dX7_findPaper_157 : decode cX7_findPaper 157 = .ok (.ifCond .eq 14, 3) := by decide +kernel
theorem dX7_findPaper_160 : decode cX7_findPaper 160 = .ok (.lload_n 3, 1) := by decide +kernel
theorem dX7_findPaper_161 : decode cX7_findPaper 161 = .ok (.aload_n 0, 1) := by decide +kernel
theorem dX7_findPaper_162 : decode cX7_findPaper 162 = .ok (.getfield 60, 3) := by decide +kernel
theorem dX7_findPaper_165 : decode cX7_findPaper 165 = .ok (.iload_n 2, 1) := by decide +kernel
theorem dX7_findPaper_166 : decode cX7_findPaper 166 = .ok (.laload, 1) := by decide +kernel
theorem dX7_findPaper_167 : decode cX7_findPaper 167 = .ok (.lcmp, 1) := by decide +kernel
theorem dX7_findPaper_168 : decode cX7_findPaper 168 = .ok (.ifCond .le 10, 3) := by decide +kernel
theorem dX7_findPaper_171 : decode cX7_findPaper 171 = .ok (.aload_n 0, 1) := by decide +kernel
theorem dX7_findPaper_172 : decode cX7_findPaper 172 = .ok (.getfield 60, 3) := by decide +kernel
theorem dX7_findPaper_175 : decode cX7_findPaper 175 = .ok (.iload_n 2, 1) := by decide +kernel
theorem dX7_findPaper_176 : decode cX7_findPaper 176 = .ok (.lload_n 3, 1) := by decide +kernel
theorem dX7_findPaper_177 : decode cX7_findPaper 177 = .ok (.lastore, 1) := by decide +kernel
theorem dX7_findPaper_178 : decode cX7_findPaper 178 = .ok (.iload_n 2, 1) := by decide +kernel
theorem dX7_findPaper_179 : decode cX7_findPaper 179 = .ok (.ifCond .eq 14, 3) := by decide +kernel
theorem dX7_findPaper_182 : decode cX7_findPaper 182 = .ok (.lload_n 3, 1) := by decide +kernel
theorem dX7_findPaper_183 : decode cX7_findPaper 183 = .ok (.aload_n 0, 1) := by decide +kernel
theorem dX7_findPaper_184 : decode cX7_findPaper 184 = .ok (.getfield 63, 3) := by decide +kernel
theorem dX7_findPaper_187 : decode cX7_findPaper 187 = .ok (.iload_n 1, 1) := by decide +kernel
theorem dX7_findPaper_188 : decode cX7_findPaper 188 = .ok (.laload, 1) := by decide +kernel
theorem dX7_findPaper_189 : decode cX7_findPaper 189 = .ok (.lcmp, 1) := by decide +kernel
theorem dX7_findPaper_190 : decode cX7_findPaper 190 = .ok (.ifCond .ge 10, 3) := by decide +kernel
theorem dX7_findPaper_193 : decode cX7_findPaper 193 = .ok (.aload_n 0, 1) := by decide +kernel
theorem dX7_findPaper_194 : decode cX7_findPaper 194 = .ok (.getfield 63, 3) := by decide +kernel
theorem dX7_findPaper_197 : decode cX7_findPaper 197 = .ok (.iload_n 1, 1) := by decide +kernel
theorem dX7_findPaper_198 : decode cX7_findPaper 198 = .ok (.lload_n 3, 1) := by decide +kernel
theorem dX7_findPaper_199 : decode cX7_findPaper 199 = .ok (.lastore, 1) := by decide +kernel
theorem dX7_findPaper_200 : decode cX7_findPaper 200 = .ok (.iinc 2 1, 3) := by decide +kernel
theorem dX7_findPaper_203 : decode cX7_findPaper 203 = .ok (.goto (-77), 3) := by decide +kernel
theorem dX7_findPaper_206 : decode cX7_findPaper 206 = .ok (.iinc 1 1, 3) := by decide +kernel
theorem dX7_findPaper_209 : decode cX7_findPaper 209 = .ok (.goto (-93), 3) := by decide +kernel
theorem dX7_findPaper_212 : decode cX7_findPaper 212 = .ok (.return_, 1) := by decide +kernel
theorem dX7_isRest_0 : decode cX7_isRest 0 = .ok (.aload_n 0, 1) := by decide +kernel
theorem dX7_isRest_1 : decode cX7_isRest 1 = .ok (.getfield 38, 3) := by decide +kernel
theorem dX7_isRest_4 : decode cX7_isRest 4 = .ok (.aload_n 0, 1) := by decide +kernel
theorem dX7_isRest_5 : decode cX7_isRest 5 = .ok (.aload_n 0, 1) := by decide +kernel
theorem dX7_isRest_6 : decode cX7_isRest 6 = .ok (.getfield 54, 3) := by decide +kernel
theorem dX7_isRest_9 : decode cX7_isRest 9 = .ok (.iload_n 1, 1) := by decide +kernel
theorem dX7_isRest_10 : decode cX7_isRest 10 = .ok (.iaload, 1) := by decide +kernel
theorem dX7_isRest_11 : decode cX7_isRest 11 = .ok (.aload_n 0, 1) := by decide +kernel
theorem dX7_isRest_12 : decode cX7_isRest 12 = .ok (.getfield 57, 3) := by decide +kernel
theorem dX7_isRest_15 : decode cX7_isRest 15 = .ok (.iload_n 2, 1) := by decide +kernel
theorem dX7_isRest_16 : decode cX7_isRest 16 = .ok (.iaload, 1) := by decide +kernel
theorem dX7_isRest_17 : decode cX7_isRest 17 = .ok (.invokevirtual 232, 3) := by decide +kernel
theorem dX7_isRest_20 : decode cX7_isRest 20 = .ok (.laload, 1) := by decide +kernel
theorem dX7_isRest_21 : decode cX7_isRest 21 = .ok (.lstore_n 3, 1) := by decide +kernel
theorem dX7_isRest_22 : decode cX7_isRest 22 = .ok (.lload_n 3, 1) := by decide +kernel
theorem dX7_isRest_23 : decode cX7_isRest 23 = .ok (.aload_n 0, 1) := by decide +kernel
theorem dX7_isRest_24 : decode cX7_isRest 24 = .ok (.getfield 60, 3) := by decide +kernel
theorem dX7_isRest_27 : decode cX7_isRest 27 = .ok (.iload_n 2, 1) := by decide +kernel
theorem dX7_isRest_28 : decode cX7_isRest 28 = .ok (.laload, 1) := by decide +kernel
theorem dX7_isRest_29 : decode cX7_isRest 29 = .ok (.lcmp, 1) := by decide +kernel
theorem dX7_isRest_30 : decode cX7_isRest 30 = .ok (.ifCond .ne 18, 3) := by decide +kernel
theorem dX7_isRest_33 : decode cX7_isRest 33 = .ok (.lload_n 3, 1) := by decide +kernel
theorem dX7_isRest_34 : decode cX7_isRest 34 = .ok (.aload_n 0, 1) := by decide +kernel
theorem dX7_isRest_35 : decode cX7_isRest 35 = .ok (.getfield 63, 3) := by decide +kernel
theorem dX7_isRest_38 : decode cX7_isRest 38 = .ok (.iload_n 1, 1) := by decide +kernel
theorem dX7_isRest_39 : decode cX7_isRest 39 = .ok (.laload, 1) := by decide +kernel
theorem dX7_isRest_40 : decode cX7_isRest 40 = .ok (.lcmp, 1) := by decide +kernel
theorem dX7_isRest_41 : decode cX7_isRest 41 = .ok (.ifCond .ne 7, 3) := by decide +kernel
theorem dX7_isRest_44 : decode cX7_isRest 44 = .ok (.iconst 1, 1) := by decide +kernel
theorem dX7_isRest_45 : decode cX7_isRest 45 = .ok (.goto 4, 3) := by decide +kernel
theorem dX7_isRest_48 : decode cX7_isRest 48 = .ok (.iconst 0, 1) := by decide +kernel
theorem dX7_isRest_49 : decode cX7_isRest 49 = .ok (.ireturn, 1) := by decide +kernel
theorem dX7_restOf_0 : decode cX7_restOf 0 = .ok (.aload_n 0, 1) := by decide +kernel
theorem dX7_restOf_1 : decode cX7_restOf 1 = .ok (.invokevirtual 235, 3) := by decide +kernel
theorem dX7_restOf_4 : decode cX7_restOf 4 = .ok (.aload_n 0, 1) := by decide +kernel
theorem dX7_restOf_5 : decode cX7_restOf 5 = .ok (.iconst 0, 1) := by decide +kernel
theorem dX7_restOf_6 : decode cX7_restOf 6 = .ok (.putfield 238, 3) := by decide +kernel
theorem dX7_restOf_9 : decode cX7_restOf 9 = .ok (.bipush (-9), 2) := by decide +kernel
theorem dX7_restOf_11 : decode cX7_restOf 11 = .ok (.istore_n 2, 1) := by decide +kernel
theorem dX7_restOf_12 : decode cX7_restOf 12 = .ok (.iconst 0, 1) := by decide +kernel
theorem dX7_restOf_13 : decode cX7_restOf 13 = .ok (.istore_n 3, 1) := by decide +kernel
theorem dX7_restOf_14 : decode cX7_restOf 14 = .ok (.iload_n 3, 1) := by decide +kernel
theorem dX7_restOf_15 : decode cX7_restOf 15 = .ok (.aload_n 0, 1) := by decide +kernel
theorem dX7_restOf_16 : decode cX7_restOf 16 = .ok (.getfield 226, 3) := by decide +kernel
theorem dX7_restOf_19 : decode cX7_restOf 19 = .ok (.if_icmp .ge 77, 3) := by decide +kernel
theorem dX7_restOf_22 : decode cX7_restOf 22 = .ok (.iconst 0, 1) := by decide +kernel
theorem dX7_restOf_23 : decode cX7_restOf 23 = .ok (.istore 4, 2) := by decide +kernel
theorem dX7_restOf_25 : decode cX7_restOf 25 = .ok (.iload 4, 2) := by decide +kernel
theorem dX7_restOf_27 : decode cX7_restOf 27 = .ok (.aload_n 0, 1) := by decide +kernel
theorem dX7_restOf_28 : decode cX7_restOf 28 = .ok (.getfield 229, 3) := by decide +kernel
theorem dX7_restOf_31 : decode cX7_restOf 31 = .ok (.if_icmp .ge 59, 3) := by decide +kernel
theorem dX7_restOf_34 : decode cX7_restOf 34 = .ok (.aload_n 0, 1) := by decide +kernel
theorem dX7_restOf_35 : decode cX7_restOf 35 = .ok (.iload_n 3, 1) := by decide +kernel
theorem dX7_restOf_36 : decode cX7_restOf 36 = .ok (.iload 4, 2) := by decide +kernel
theorem dX7_restOf_38 : decode cX7_restOf 38 = .ok (.invokevirtual 241, 3) := by decide +kernel
theorem dX7_restOf_41 : decode cX7_restOf 41 = .ok (.ifCond .ne 6, 3) := by decide +kernel
theorem dX7_restOf_44 : decode cX7_restOf 44 = .ok (.goto 40, 3) := by decide +kernel
theorem dX7_restOf_47 : decode cX7_restOf 47 = .ok (.aload_n 0, 1) := by decide +kernel
theorem dX7_restOf_48 : decode cX7_restOf 48 = .ok (.getfield 238, 3) := by decide +kernel
theorem dX7_restOf_51 : decode cX7_restOf 51 = .ok (.iload_n 1, 1) := by decide +kernel
theorem dX7_restOf_52 : decode cX7_restOf 52 = .ok (.if_icmp .ne 22, 3) := by decide +kernel
theorem dX7_restOf_55 : decode cX7_restOf 55 = .ok (.sipush 4096, 3) := by decide +kernel
theorem dX7_restOf_58 : decode cX7_restOf 58 = .ok (.aload_n 0, 1) := by decide +kernel
theorem dX7_restOf_59 : decode cX7_restOf 59 = .ok (.getfield 54, 3) := by decide +kernel
theorem dX7_restOf_62 : decode cX7_restOf 62 = .ok (.iload_n 3, 1) := by decide +kernel
theorem dX7_restOf_63 : decode cX7_restOf 63 = .ok (.iaload, 1) := by decide +kernel
theorem dX7_restOf_64 : decode cX7_restOf 64 = .ok (.imul, 1) := by decide +kernel
theorem dX7_restOf_65 : decode cX7_restOf 65 = .ok (.aload_n 0, 1) := by decide +kernel
theorem dX7_restOf_66 : decode cX7_restOf 66 = .ok (.getfield 57, 3) := by decide +kernel
theorem dX7_restOf_69 : decode cX7_restOf 69 = .ok (.iload 4, 2) := by decide +kernel
theorem dX7_restOf_71 : decode cX7_restOf 71 = .ok (.iaload, 1) := by decide +kernel
theorem dX7_restOf_72 : decode cX7_restOf 72 = .ok (.iadd, 1) := by decide +kernel
theorem dX7_restOf_73 : decode cX7_restOf 73 = .ok (.istore_n 2, 1) := by decide +kernel
theorem dX7_restOf_74 : decode cX7_restOf 74 = .ok (.aload_n 0, 1) := by decide +kernel
theorem dX7_restOf_75 : decode cX7_restOf 75 = .ok (.dup, 1) := by decide +kernel
theorem dX7_restOf_76 : decode cX7_restOf 76 = .ok (.getfield 238, 3) := by decide +kernel
theorem dX7_restOf_79 : decode cX7_restOf 79 = .ok (.iconst 1, 1) := by decide +kernel
theorem dX7_restOf_80 : decode cX7_restOf 80 = .ok (.iadd, 1) := by decide +kernel
theorem dX7_restOf_81 : decode cX7_restOf 81 = .ok (.putfield 238, 3) := by decide +kernel
theorem dX7_restOf_84 : decode cX7_restOf 84 = .ok (.iinc 4 1, 3) := by decide +kernel
theorem dX7_restOf_87 : decode cX7_restOf 87 = .ok (.goto (-62), 3) := by decide +kernel
theorem dX7_restOf_90 : decode cX7_restOf 90 = .ok (.iinc 3 1, 3) := by decide +kernel
theorem dX7_restOf_93 : decode cX7_restOf 93 = .ok (.goto (-79), 3) := by decide +kernel
theorem dX7_restOf_96 : decode cX7_restOf 96 = .ok (.iload_n 2, 1) := by decide +kernel
theorem dX7_restOf_97 : decode cX7_restOf 97 = .ok (.ireturn, 1) := by decide +kernel
theorem dX7_rests_0 : decode cX7_rests 0 = .ok (.aload_n 0, 1) := by decide +kernel
theorem dX7_rests_1 : decode cX7_rests 1 = .ok (.invokevirtual 191, 3) := by decide +kernel
theorem dX7_rests_4 : decode cX7_rests 4 = .ok (.ifCond .ne 10, 3) := by decide +kernel
theorem dX7_rests_7 : decode cX7_rests 7 = .ok (.aload_n 0, 1) := by decide +kernel
theorem dX7_rests_8 : decode cX7_rests 8 = .ok (.bipush (-3), 2) := by decide +kernel
theorem dX7_rests_10 : decode cX7_rests 10 = .ok (.invokevirtual 79, 3) := by decide +kernel
theorem dX7_rests_13 : decode cX7_rests 13 = .ok (.ireturn, 1) := by decide +kernel
theorem dX7_rests_14 : decode cX7_rests 14 = .ok (.aload_n 0, 1) := by decide +kernel
theorem dX7_rests_15 : decode cX7_rests 15 = .ok (.iconst (-1), 1) := by decide +kernel
theorem dX7_rests_16 : decode cX7_rests 16 = .ok (.invokevirtual 245, 3) := by decide +kernel
theorem dX7_rests_19 : decode cX7_rests 19 = .ok (.bipush (-9), 2) := by decide +kernel
theorem dX7_rests_21 : decode cX7_rests 21 = .ok (.if_icmp .ne 10, 3) := by decide +kernel
theorem dX7_rests_24 : decode cX7_rests 24 = .ok (.aload_n 0, 1) := by decide +kernel
theorem dX7_rests_25 : decode cX7_rests 25 = .ok (.getfield 238, 3) := by decide +kernel
theorem dX7_rests_28 : decode cX7_rests 28 = .ok (.goto 4, 3) := by decide +kernel
theorem dX7_rests_31 : decode cX7_rests 31 = .ok (.iconst 0, 1) := by decide +kernel
theorem dX7_rests_32 : decode cX7_rests 32 = .ok (.ireturn, 1) := by decide +kernel
theorem dX7_rest_0 : decode cX7_rest 0 = .ok (.aload_n 0, 1) := by decide +kernel
theorem dX7_rest_1 : decode cX7_rest 1 = .ok (.invokevirtual 191, 3) := by decide +kernel
theorem dX7_rest_4 : decode cX7_rest 4 = .ok (.ifCond .ne 10, 3) := by decide +kernel
theorem dX7_rest_7 : decode cX7_rest 7 = .ok (.aload_n 0, 1) := by decide +kernel
theorem dX7_rest_8 : decode cX7_rest 8 = .ok (.bipush (-3), 2) := by decide +kernel
theorem dX7_rest_10 : decode cX7_rest 10 = .ok (.invokevirtual 79, 3) := by decide +kernel
theorem dX7_rest_13 : decode cX7_rest 13 = .ok (.ireturn, 1) := by decide +kernel
theorem dX7_rest_14 : decode cX7_rest 14 = .ok (.aload_n 0, 1) := by decide +kernel
theorem dX7_rest_15 : decode cX7_rest 15 = .ok (.iload_n 1, 1) := by decide +kernel
theorem dX7_rest_16 : decode cX7_rest 16 = .ok (.invokevirtual 245, 3) := by decide +kernel
theorem dX7_rest_19 : decode cX7_rest 19 = .ok (.ireturn, 1) := by decide +kernel
theorem dX7_paper_0 : decode cX7_paper 0 = .ok (.aload_n 0, 1) := by decide +kernel
theorem dX7_paper_1 : decode cX7_paper 1 = .ok (.invokevirtual 191, 3) := by decide +kernel
theorem dX7_paper_4 : decode cX7_paper 4 = .ok (.ifCond .ne 10, 3) := by decide +kernel
theorem dX7_paper_7 : decode cX7_paper 7 = .ok (.aload_n 0, 1) := by decide +kernel
theorem dX7_paper_8 : decode cX7_paper 8 = .ok (.bipush (-3), 2) := by decide +kernel
theorem dX7_paper_10 : decode cX7_paper 10 = .ok (.invokevirtual 150, 3) := by decide +kernel
theorem dX7_paper_13 : decode cX7_paper 13 = .ok (.lreturn, 1) := by decide +kernel
theorem dX7_paper_14 : decode cX7_paper 14 = .ok (.iload_n 1, 1) := by decide +kernel
theorem dX7_paper_15 : decode cX7_paper 15 = .ok (.ifCond .lt 29, 3) := by decide +kernel
theorem dX7_paper_18 : decode cX7_paper 18 = .ok (.iload_n 2, 1) := by decide +kernel
theorem dX7_paper_19 : decode cX7_paper 19 = .ok (.ifCond .lt 25, 3) := by decide +kernel
theorem dX7_paper_22 : decode cX7_paper 22 = .ok (.iload_n 1, 1) := by decide +kernel
theorem dX7_paper_23 : decode cX7_paper 23 = .ok (.aload_n 0, 1) := by decide +kernel
theorem dX7_paper_24 : decode cX7_paper 24 = .ok (.invokevirtual 188, 3) := by decide +kernel
theorem dX7_paper_27 : decode cX7_paper 27 = .ok (.iconst (-1), 1) := by decide +kernel
theorem dX7_paper_28 : decode cX7_paper 28 = .ok (.ixor, 1) := by decide +kernel
theorem dX7_paper_29 : decode cX7_paper 29 = .ok (.iand, 1) := by decide +kernel
theorem dX7_paper_30 : decode cX7_paper 30 = .ok (.ifCond .ne 14, 3) := by decide +kernel
theorem dX7_paper_33 : decode cX7_paper 33 = .ok (.iload_n 2, 1) := by decide +kernel
theorem dX7_paper_34 : decode cX7_paper 34 = .ok (.aload_n 0, 1) := by decide +kernel
theorem dX7_paper_35 : decode cX7_paper 35 = .ok (.invokevirtual 188, 3) := by decide +kernel
theorem dX7_paper_38 : decode cX7_paper 38 = .ok (.iconst (-1), 1) := by decide +kernel
theorem dX7_paper_39 : decode cX7_paper 39 = .ok (.ixor, 1) := by decide +kernel
theorem dX7_paper_40 : decode cX7_paper 40 = .ok (.iand, 1) := by decide +kernel
theorem dX7_paper_41 : decode cX7_paper 41 = .ok (.ifCond .eq 9, 3) := by decide +kernel
theorem dX7_paper_44 : decode cX7_paper 44 = .ok (.aload_n 0, 1) := by decide +kernel
theorem dX7_paper_45 : decode cX7_paper 45 = .ok (.iconst (-1), 1) := by decide +kernel
theorem dX7_paper_46 : decode cX7_paper 46 = .ok (.invokevirtual 150, 3) := by decide +kernel
theorem dX7_paper_49 : decode cX7_paper 49 = .ok (.lreturn, 1) := by decide +kernel
theorem dX7_paper_50 : decode cX7_paper 50 = .ok (.iload_n 1, 1) := by decide +kernel
theorem dX7_paper_51 : decode cX7_paper 51 = .ok (.invokestatic 144, 3) := by decide +kernel
theorem dX7_paper_54 : decode cX7_paper 54 = .ok (.aload_n 0, 1) := by decide +kernel
theorem dX7_paper_55 : decode cX7_paper 55 = .ok (.getfield 19, 3) := by decide +kernel
theorem dX7_paper_58 : decode cX7_paper 58 = .ok (.iconst 1, 1) := by decide +kernel
theorem dX7_paper_59 : decode cX7_paper 59 = .ok (.iaload, 1) := by decide +kernel
theorem dX7_paper_60 : decode cX7_paper 60 = .ok (.if_icmp .ne 16, 3) := by decide +kernel
theorem dX7_paper_63 : decode cX7_paper 63 = .ok (.iload_n 2, 1) := by decide +kernel
theorem dX7_paper_64 : decode cX7_paper 64 = .ok (.invokestatic 144, 3) := by decide +kernel
theorem dX7_paper_67 : decode cX7_paper 67 = .ok (.aload_n 0, 1) := by decide +kernel
theorem dX7_paper_68 : decode cX7_paper 68 = .ok (.getfield 19, 3) := by decide +kernel
theorem dX7_paper_71 : decode cX7_paper 71 = .ok (.iconst 2, 1) := by decide +kernel
theorem dX7_paper_72 : decode cX7_paper 72 = .ok (.iaload, 1) := by decide +kernel
theorem dX7_paper_73 : decode cX7_paper 73 = .ok (.if_icmp .eq 10, 3) := by decide +kernel
theorem dX7_paper_76 : decode cX7_paper 76 = .ok (.aload_n 0, 1) := by decide +kernel
theorem dX7_paper_77 : decode cX7_paper 77 = .ok (.bipush (-3), 2) := by decide +kernel
theorem dX7_paper_79 : decode cX7_paper 79 = .ok (.invokevirtual 150, 3) := by decide +kernel
theorem dX7_paper_82 : decode cX7_paper 82 = .ok (.lreturn, 1) := by decide +kernel
theorem dX7_paper_83 : decode cX7_paper 83 = .ok (.aload_n 0, 1) := by decide +kernel
theorem dX7_paper_84 : decode cX7_paper 84 = .ok (.invokevirtual 154, 3) := by decide +kernel
theorem dX7_paper_87 : decode cX7_paper 87 = .ok (.aload_n 0, 1) := by decide +kernel
theorem dX7_paper_88 : decode cX7_paper 88 = .ok (.aload_n 0, 1) := by decide +kernel
theorem dX7_paper_89 : decode cX7_paper 89 = .ok (.iload_n 1, 1) := by decide +kernel
theorem dX7_paper_90 : decode cX7_paper 90 = .ok (.iload_n 2, 1) := by decide +kernel
theorem dX7_paper_91 : decode cX7_paper 91 = .ok (.invokevirtual 232, 3) := by decide +kernel
theorem dX7_paper_94 : decode cX7_paper 94 = .ok (.invokevirtual 157, 3) := by decide +kernel
theorem dX7_paper_97 : decode cX7_paper 97 = .ok (.lreturn, 1) := by decide +kernel
theorem dX7_place_0 : decode cX7_place 0 = .ok (.sipush 4096, 3) := by decide +kernel
theorem dX7_place_3 : decode cX7_place 3 = .ok (.iconst 4, 1) := by decide +kernel
theorem dX7_place_4 : decode cX7_place 4 = .ok (.iload_n 1, 1) := by decide +kernel
theorem dX7_place_5 : decode cX7_place 5 = .ok (.imul, 1) := by decide +kernel
theorem dX7_place_6 : decode cX7_place 6 = .ok (.iload_n 2, 1) := by decide +kernel
theorem dX7_place_7 : decode cX7_place 7 = .ok (.iadd, 1) := by decide +kernel
theorem dX7_place_8 : decode cX7_place 8 = .ok (.imul, 1) := by decide +kernel
theorem dX7_place_9 : decode cX7_place 9 = .ok (.iload_n 3, 1) := by decide +kernel
theorem dX7_place_10 : decode cX7_place 10 = .ok (.iadd, 1) := by decide +kernel
theorem dX7_place_11 : decode cX7_place 11 = .ok (.ireturn, 1) := by decide +kernel
theorem dX7_leftOfB_0 : decode cX7_leftOfB 0 = .ok (.aload_n 0, 1) := by decide +kernel
theorem dX7_leftOfB_1 : decode cX7_leftOfB 1 = .ok (.getfield 19, 3) := by decide +kernel
theorem dX7_leftOfB_4 : decode cX7_leftOfB 4 = .ok (.iconst 1, 1) := by decide +kernel
theorem dX7_leftOfB_5 : decode cX7_leftOfB 5 = .ok (.iaload, 1) := by decide +kernel
theorem dX7_leftOfB_6 : decode cX7_leftOfB 6 = .ok (.aload_n 0, 1) := by decide +kernel
theorem dX7_leftOfB_7 : decode cX7_leftOfB 7 = .ok (.getfield 19, 3) := by decide +kernel
theorem dX7_leftOfB_10 : decode cX7_leftOfB 10 = .ok (.iconst 2, 1) := by decide +kernel
theorem dX7_leftOfB_11 : decode cX7_leftOfB 11 = .ok (.iaload, 1) := by decide +kernel
theorem dX7_leftOfB_12 : decode cX7_leftOfB 12 = .ok (.iadd, 1) := by decide +kernel
theorem dX7_leftOfB_13 : decode cX7_leftOfB 13 = .ok (.iload_n 1, 1) := by decide +kernel
theorem dX7_leftOfB_14 : decode cX7_leftOfB 14 = .ok (.iload_n 3, 1) := by decide +kernel
theorem dX7_leftOfB_15 : decode cX7_leftOfB 15 = .ok (.invokestatic 144, 3) := by decide +kernel
theorem dX7_leftOfB_18 : decode cX7_leftOfB 18 = .ok (.isub, 1) := by decide +kernel
theorem dX7_leftOfB_19 : decode cX7_leftOfB 19 = .ok (.isub, 1) := by decide +kernel
theorem dX7_leftOfB_20 : decode cX7_leftOfB 20 = .ok (.iload_n 2, 1) := by decide +kernel
theorem dX7_leftOfB_21 : decode cX7_leftOfB 21 = .ok (.isub, 1) := by decide +kernel
theorem dX7_leftOfB_22 : decode cX7_leftOfB 22 = .ok (.ireturn, 1) := by decide +kernel
theorem dX7_ends_0 : decode cX7_ends 0 = .ok (.aload_n 0, 1) := by decide +kernel
theorem dX7_ends_1 : decode cX7_ends 1 = .ok (.invokevirtual 137, 3) := by decide +kernel
theorem dX7_ends_4 : decode cX7_ends 4 = .ok (.iload_n 2, 1) := by decide +kernel
theorem dX7_ends_5 : decode cX7_ends 5 = .ok (.invokestatic 144, 3) := by decide +kernel
theorem dX7_ends_8 : decode cX7_ends 8 = .ok (.isub, 1) := by decide +kernel
theorem dX7_ends_9 : decode cX7_ends 9 = .ok (.istore_n 3, 1) := by decide +kernel
theorem dX7_ends_10 : decode cX7_ends 10 = .ok (.iload_n 3, 1) := by decide +kernel
theorem dX7_ends_11 : decode cX7_ends 11 = .ok (.ifCond .eq 13, 3) := by decide +kernel
theorem dX7_ends_14 : decode cX7_ends 14 = .ok (.iload_n 3, 1) := by decide +kernel
theorem dX7_ends_15 : decode cX7_ends 15 = .ok (.aload_n 0, 1) := by decide +kernel
theorem dX7_ends_16 : decode cX7_ends 16 = .ok (.invokevirtual 95, 3) := by decide +kernel
theorem dX7_ends_19 : decode cX7_ends 19 = .ok (.iload_n 1, 1) := by decide +kernel
theorem dX7_ends_20 : decode cX7_ends 20 = .ok (.isub, 1) := by decide +kernel
theorem dX7_ends_21 : decode cX7_ends 21 = .ok (.if_icmp .ne 7, 3) := by decide +kernel
theorem dX7_ends_24 : decode cX7_ends 24 = .ok (.iconst 1, 1) := by decide +kernel
theorem dX7_ends_25 : decode cX7_ends 25 = .ok (.goto 4, 3) := by decide +kernel
theorem dX7_ends_28 : decode cX7_ends 28 = .ok (.iconst 0, 1) := by decide +kernel
theorem dX7_ends_29 : decode cX7_ends 29 = .ok (.ireturn, 1) := by decide +kernel
theorem dX7_seatedAll_0 : decode cX7_seatedAll 0 = .ok (.aload_n 0, 1) := by decide +kernel
theorem dX7_seatedAll_1 : decode cX7_seatedAll 1 = .ok (.invokevirtual 137, 3) := by decide +kernel
theorem dX7_seatedAll_4 : decode cX7_seatedAll 4 = .ok (.iload_n 2, 1) := by decide +kernel
theorem dX7_seatedAll_5 : decode cX7_seatedAll 5 = .ok (.invokestatic 144, 3) := by decide +kernel
theorem dX7_seatedAll_8 : decode cX7_seatedAll 8 = .ok (.if_icmp .ne 7, 3) := by decide +kernel
theorem dX7_seatedAll_11 : decode cX7_seatedAll 11 = .ok (.iload_n 2, 1) := by decide +kernel
theorem dX7_seatedAll_12 : decode cX7_seatedAll 12 = .ok (.goto 17, 3) := by decide +kernel
theorem dX7_seatedAll_15 : decode cX7_seatedAll 15 = .ok (.iload_n 2, 1) := by decide +kernel
theorem dX7_seatedAll_16 : decode cX7_seatedAll 16 = .ok (.aload_n 0, 1) := by decide +kernel
theorem dX7_seatedAll_17 : decode cX7_seatedAll 17 = .ok (.invokevirtual 188, 3) := by decide +kernel
theorem dX7_seatedAll_20 : decode cX7_seatedAll 20 = .ok (.iconst 1, 1) := by decide +kernel
theorem dX7_seatedAll_21 : decode cX7_seatedAll 21 = .ok (.iload_n 1, 1) := by decide +kernel
theorem dX7_seatedAll_22 : decode cX7_seatedAll 22 = .ok (.ishl, 1) := by decide +kernel
theorem dX7_seatedAll_23 : decode cX7_seatedAll 23 = .ok (.iconst 1, 1) := by decide +kernel
theorem dX7_seatedAll_24 : decode cX7_seatedAll 24 = .ok (.isub, 1) := by decide +kernel
theorem dX7_seatedAll_25 : decode cX7_seatedAll 25 = .ok (.iconst (-1), 1) := by decide +kernel
theorem dX7_seatedAll_26 : decode cX7_seatedAll 26 = .ok (.ixor, 1) := by decide +kernel
theorem dX7_seatedAll_27 : decode cX7_seatedAll 27 = .ok (.iand, 1) := by decide +kernel
theorem dX7_seatedAll_28 : decode cX7_seatedAll 28 = .ok (.ior, 1) := by decide +kernel
theorem dX7_seatedAll_29 : decode cX7_seatedAll 29 = .ok (.ireturn, 1) := by decide +kernel
theorem dX7_strikesB_0 : decode cX7_strikesB 0 = .ok (.aload_n 0, 1) := by decide +kernel
theorem dX7_strikesB_1 : decode cX7_strikesB 1 = .ok (.iload_n 1, 1) := by decide +kernel
theorem dX7_strikesB_2 : decode cX7_strikesB 2 = .ok (.iload_n 2, 1) := by decide +kernel
theorem dX7_strikesB_3 : decode cX7_strikesB 3 = .ok (.iload_n 3, 1) := by decide +kernel
theorem dX7_strikesB_4 : decode cX7_strikesB 4 = .ok (.invokevirtual 248, 3) := by decide +kernel
theorem dX7_strikesB_7 : decode cX7_strikesB 7 = .ok (.ifCond .le 43, 3) := by decide +kernel
theorem dX7_strikesB_10 : decode cX7_strikesB 10 = .ok (.aload_n 0, 1) := by decide +kernel
theorem dX7_strikesB_11 : decode cX7_strikesB 11 = .ok (.getfield 67, 3) := by decide +kernel
theorem dX7_strikesB_14 : decode cX7_strikesB 14 = .ok (.aload_n 0, 1) := by decide +kernel
theorem dX7_strikesB_15 : decode cX7_strikesB 15 = .ok (.iload_n 1, 1) := by decide +kernel
theorem dX7_strikesB_16 : decode cX7_strikesB 16 = .ok (.iconst 1, 1) := by decide +kernel
theorem dX7_strikesB_17 : decode cX7_strikesB 17 = .ok (.iadd, 1) := by decide +kernel
theorem dX7_strikesB_18 : decode cX7_strikesB 18 = .ok (.iload_n 2, 1) := by decide +kernel
theorem dX7_strikesB_19 : decode cX7_strikesB 19 = .ok (.iload_n 3, 1) := by decide +kernel
theorem dX7_strikesB_20 : decode cX7_strikesB 20 = .ok (.invokevirtual 251, 3) := by decide +kernel
theorem dX7_strikesB_23 : decode cX7_strikesB 23 = .ok (.laload, 1) := by decide +kernel
theorem dX7_strikesB_24 : decode cX7_strikesB 24 = .ok (.aload_n 0, 1) := by decide +kernel
theorem dX7_strikesB_25 : decode cX7_strikesB 25 = .ok (.getfield 67, 3) := by decide +kernel
theorem dX7_strikesB_28 : decode cX7_strikesB 28 = .ok (.aload_n 0, 1) := by decide +kernel
theorem dX7_strikesB_29 : decode cX7_strikesB 29 = .ok (.iload_n 1, 1) := by decide +kernel
theorem dX7_strikesB_30 : decode cX7_strikesB 30 = .ok (.iconst 1, 1) := by decide +kernel
theorem dX7_strikesB_31 : decode cX7_strikesB 31 = .ok (.iadd, 1) := by decide +kernel
theorem dX7_strikesB_32 : decode cX7_strikesB 32 = .ok (.iload_n 2, 1) := by decide +kernel
theorem dX7_strikesB_33 : decode cX7_strikesB 33 = .ok (.iload_n 3, 1) := by decide +kernel
theorem dX7_strikesB_34 : decode cX7_strikesB 34 = .ok (.iconst 1, 1) := by decide +kernel
theorem dX7_strikesB_35 : decode cX7_strikesB 35 = .ok (.iload_n 1, 1) := by decide +kernel
theorem dX7_strikesB_36 : decode cX7_strikesB 36 = .ok (.ishl, 1) := by decide +kernel
theorem dX7_strikesB_37 : decode cX7_strikesB 37 = .ok (.ior, 1) := by decide +kernel
theorem dX7_strikesB_38 : decode cX7_strikesB 38 = .ok (.invokevirtual 251, 3) := by decide +kernel
theorem dX7_strikesB_41 : decode cX7_strikesB 41 = .ok (.laload, 1) := by decide +kernel
theorem dX7_strikesB_42 : decode cX7_strikesB 42 = .ok (.lcmp, 1) := by decide +kernel
theorem dX7_strikesB_43 : decode cX7_strikesB 43 = .ok (.ifCond .ge 7, 3) := by decide +kernel
theorem dX7_strikesB_46 : decode cX7_strikesB 46 = .ok (.iconst 1, 1) := by decide +kernel
theorem dX7_strikesB_47 : decode cX7_strikesB 47 = .ok (.goto 4, 3) := by decide +kernel
theorem dX7_strikesB_50 : decode cX7_strikesB 50 = .ok (.iconst 0, 1) := by decide +kernel
theorem dX7_strikesB_51 : decode cX7_strikesB 51 = .ok (.ireturn, 1) := by decide +kernel
theorem dX7_notByA_0 : decode cX7_notByA 0 = .ok (.aload_n 0, 1) := by decide +kernel
theorem dX7_notByA_1 : decode cX7_notByA 1 = .ok (.getfield 67, 3) := by decide +kernel
theorem dX7_notByA_4 : decode cX7_notByA 4 = .ok (.aload_n 0, 1) := by decide +kernel
theorem dX7_notByA_5 : decode cX7_notByA 5 = .ok (.iload_n 1, 1) := by decide +kernel
theorem dX7_notByA_6 : decode cX7_notByA 6 = .ok (.iconst 1, 1) := by decide +kernel
theorem dX7_notByA_7 : decode cX7_notByA 7 = .ok (.iadd, 1) := by decide +kernel
theorem dX7_notByA_8 : decode cX7_notByA 8 = .ok (.iload_n 2, 1) := by decide +kernel
theorem dX7_notByA_9 : decode cX7_notByA 9 = .ok (.aload_n 0, 1) := by decide +kernel
theorem dX7_notByA_10 : decode cX7_notByA 10 = .ok (.iload_n 1, 1) := by decide +kernel
theorem dX7_notByA_11 : decode cX7_notByA 11 = .ok (.iload_n 2, 1) := by decide +kernel
theorem dX7_notByA_12 : decode cX7_notByA 12 = .ok (.iload_n 3, 1) := by decide +kernel
theorem dX7_notByA_13 : decode cX7_notByA 13 = .ok (.invokevirtual 254, 3) := by decide +kernel
theorem dX7_notByA_16 : decode cX7_notByA 16 = .ok (.ifCond .eq 7, 3) := by decide +kernel
theorem dX7_notByA_19 : decode cX7_notByA 19 = .ok (.iload_n 3, 1) := by decide +kernel
theorem dX7_notByA_20 : decode cX7_notByA 20 = .ok (.goto 8, 3) := by decide +kernel
theorem dX7_notByA_23 : decode cX7_notByA 23 = .ok (.iload_n 3, 1) := by decide +kernel
theorem dX7_notByA_24 : decode cX7_notByA 24 = .ok (.iconst 1, 1) := by decide +kernel
theorem dX7_notByA_25 : decode cX7_notByA 25 = .ok (.iload_n 1, 1) := by decide +kernel
theorem dX7_notByA_26 : decode cX7_notByA 26 = .ok (.ishl, 1) := by decide +kernel
theorem dX7_notByA_27 : decode cX7_notByA 27 = .ok (.ior, 1) := by decide +kernel
theorem dX7_notByA_28 : decode cX7_notByA 28 = .ok (.invokevirtual 251, 3) := by decide +kernel
theorem dX7_notByA_31 : decode cX7_notByA 31 = .ok (.laload, 1) := by decide +kernel
theorem dX7_notByA_32 : decode cX7_notByA 32 = .ok (.lreturn, 1) := by decide +kernel
theorem dX7_strikesA_0 : decode cX7_strikesA 0 = .ok (.iload_n 2, 1) := by decide +kernel
theorem dX7_strikesA_1 : decode cX7_strikesA 1 = .ok (.ifCond .le 34, 3) := by decide +kernel
theorem dX7_strikesA_4 : decode cX7_strikesA 4 = .ok (.aload_n 0, 1) := by decide +kernel
theorem dX7_strikesA_5 : decode cX7_strikesA 5 = .ok (.getfield 67, 3) := by decide +kernel
theorem dX7_strikesA_8 : decode cX7_strikesA 8 = .ok (.aload_n 0, 1) := by decide +kernel
theorem dX7_strikesA_9 : decode cX7_strikesA 9 = .ok (.iload_n 1, 1) := by decide +kernel
theorem dX7_strikesA_10 : decode cX7_strikesA 10 = .ok (.iconst 1, 1) := by decide +kernel
theorem dX7_strikesA_11 : decode cX7_strikesA 11 = .ok (.iadd, 1) := by decide +kernel
theorem dX7_strikesA_12 : decode cX7_strikesA 12 = .ok (.iload_n 2, 1) := by decide +kernel
theorem dX7_strikesA_13 : decode cX7_strikesA 13 = .ok (.iconst 1, 1) := by decide +kernel
theorem dX7_strikesA_14 : decode cX7_strikesA 14 = .ok (.isub, 1) := by decide +kernel
theorem dX7_strikesA_15 : decode cX7_strikesA 15 = .ok (.iload_n 3, 1) := by decide +kernel
theorem dX7_strikesA_16 : decode cX7_strikesA 16 = .ok (.invokevirtual 251, 3) := by decide +kernel
theorem dX7_strikesA_19 : decode cX7_strikesA 19 = .ok (.laload, 1) := by decide +kernel
theorem dX7_strikesA_20 : decode cX7_strikesA 20 = .ok (.aload_n 0, 1) := by decide +kernel
theorem dX7_strikesA_21 : decode cX7_strikesA 21 = .ok (.iload_n 1, 1) := by decide +kernel
theorem dX7_strikesA_22 : decode cX7_strikesA 22 = .ok (.iload_n 2, 1) := by decide +kernel
theorem dX7_strikesA_23 : decode cX7_strikesA 23 = .ok (.iload_n 3, 1) := by decide +kernel
theorem dX7_strikesA_24 : decode cX7_strikesA 24 = .ok (.invokevirtual 257, 3) := by decide +kernel
theorem dX7_strikesA_27 : decode cX7_strikesA 27 = .ok (.lcmp, 1) := by decide +kernel
theorem dX7_strikesA_28 : decode cX7_strikesA 28 = .ok (.ifCond .le 7, 3) := by decide +kernel
theorem dX7_strikesA_31 : decode cX7_strikesA 31 = .ok (.iconst 1, 1) := by decide +kernel
theorem dX7_strikesA_32 : decode cX7_strikesA 32 = .ok (.goto 4, 3) := by decide +kernel
theorem dX7_strikesA_35 : decode cX7_strikesA 35 = .ok (.iconst 0, 1) := by decide +kernel
theorem dX7_strikesA_36 : decode cX7_strikesA 36 = .ok (.ireturn, 1) := by decide +kernel
theorem dX7_findComing_0 : decode cX7_findComing 0 = .ok (.aload_n 0, 1) := by decide +kernel
theorem dX7_findComing_1 : decode cX7_findComing 1 = .ok (.invokevirtual 154, 3) := by decide +kernel
theorem dX7_findComing_4 : decode cX7_findComing 4 = .ok (.aload_n 0, 1) := by decide +kernel
theorem dX7_findComing_5 : decode cX7_findComing 5 = .ok (.invokevirtual 95, 3) := by decide +kernel
theorem dX7_findComing_8 : decode cX7_findComing 8 = .ok (.istore_n 1, 1) := by decide +kernel
theorem dX7_findComing_9 : decode cX7_findComing 9 = .ok (.iload_n 1, 1) := by decide +kernel
theorem dX7_findComing_10 : decode cX7_findComing 10 = .ok (.ifCond .lt 173, 3) := by decide +kernel
theorem dX7_findComing_13 : decode cX7_findComing 13 = .ok (.iconst 0, 1) := by decide +kernel
theorem dX7_findComing_14 : decode cX7_findComing 14 = .ok (.istore_n 2, 1) := by decide +kernel
theorem dX7_findComing_15 : decode cX7_findComing 15 = .ok (.iload_n 2, 1) := by decide +kernel
theorem dX7_findComing_16 : decode cX7_findComing 16 = .ok (.iconst 1, 1) := by decide +kernel
theorem dX7_findComing_17 : decode cX7_findComing 17 = .ok (.iload_n 1, 1) := by decide +kernel
theorem dX7_findComing_18 : decode cX7_findComing 18 = .ok (.ishl, 1) := by decide +kernel
theorem dX7_findComing_19 : decode cX7_findComing 19 = .ok (.if_icmp .ge 158, 3) := by decide +kernel
theorem dX7_findComing_22 : decode cX7_findComing 22 = .ok (.iload_n 2, 1) := by decide +kernel
theorem dX7_findComing_23 : decode cX7_findComing 23 = .ok (.invokestatic 144, 3) := by decide +kernel
theorem dX7_findComing_26 : decode cX7_findComing 26 = .ok (.istore_n 3, 1) := by decide +kernel
theorem dX7_findComing_27 : decode cX7_findComing 27 = .ok (.iload_n 3, 1) := by decide +kernel
theorem dX7_findComing_28 : decode cX7_findComing 28 = .ok (.aload_n 0, 1) := by decide +kernel
theorem dX7_findComing_29 : decode cX7_findComing 29 = .ok (.invokevirtual 137, 3) := by decide +kernel
theorem dX7_findComing_32 : decode cX7_findComing 32 = .ok (.if_icmp .gt 139, 3) := by decide +kernel
theorem dX7_findComing_35 : decode cX7_findComing 35 = .ok (.aload_n 0, 1) := by decide +kernel
theorem dX7_findComing_36 : decode cX7_findComing 36 = .ok (.invokevirtual 137, 3) := by decide +kernel
theorem dX7_findComing_39 : decode cX7_findComing 39 = .ok (.iload_n 3, 1) := by decide +kernel
theorem dX7_findComing_40 : decode cX7_findComing 40 = .ok (.isub, 1) := by decide +kernel
theorem dX7_findComing_41 : decode cX7_findComing 41 = .ok (.aload_n 0, 1) := by decide +kernel
theorem dX7_findComing_42 : decode cX7_findComing 42 = .ok (.invokevirtual 95, 3) := by decide +kernel
theorem dX7_findComing_45 : decode cX7_findComing 45 = .ok (.iload_n 1, 1) := by decide +kernel
theorem dX7_findComing_46 : decode cX7_findComing 46 = .ok (.isub, 1) := by decide +kernel
theorem dX7_findComing_47 : decode cX7_findComing 47 = .ok (.if_icmp .le 6, 3) := by decide +kernel
theorem dX7_findComing_50 : decode cX7_findComing 50 = .ok (.goto 121, 3) := by decide +kernel
theorem dX7_findComing_53 : decode cX7_findComing 53 = .ok (.iconst 0, 1) := by decide +kernel
theorem dX7_findComing_54 : decode cX7_findComing 54 = .ok (.istore 4, 2) := by decide +kernel
theorem dX7_findComing_56 : decode cX7_findComing 56 = .ok (.iload 4, 2) := by decide +kernel
theorem dX7_findComing_58 : decode cX7_findComing 58 = .ok (.aload_n 0, 1) := by decide +kernel
theorem dX7_findComing_59 : decode cX7_findComing 59 = .ok (.getfield 19, 3) := by decide +kernel
theorem dX7_findComing_62 : decode cX7_findComing 62 = .ok (.iconst 1, 1) := by decide +kernel
theorem dX7_findComing_63 : decode cX7_findComing 63 = .ok (.iaload, 1) := by decide +kernel
theorem dX7_findComing_64 : decode cX7_findComing 64 = .ok (.if_icmp .gt 107, 3) := by decide +kernel
theorem dX7_findComing_67 : decode cX7_findComing 67 = .ok (.aload_n 0, 1) := by decide +kernel
theorem dX7_findComing_68 : decode cX7_findComing 68 = .ok (.iload_n 1, 1) := by decide +kernel
theorem dX7_findComing_69 : decode cX7_findComing 69 = .ok (.iload 4, 2) := by decide +kernel
theorem dX7_findComing_71 : decode cX7_findComing 71 = .ok (.iload_n 2, 1) := by decide +kernel
theorem dX7_findComing_72 : decode cX7_findComing 72 = .ok (.invokevirtual 248, 3) := by decide +kernel
theorem dX7_findComing_75 : decode cX7_findComing 75 = .ok (.iconst 0, 1) := by decide +kernel
theorem dX7_findComing_76 : decode cX7_findComing 76 = .ok (.aload_n 0, 1) := by decide +kernel
theorem dX7_findComing_77 : decode cX7_findComing 77 = .ok (.getfield 19, 3) := by decide +kernel
theorem dX7_findComing_80 : decode cX7_findComing 80 = .ok (.iconst 2, 1) := by decide +kernel
theorem dX7_findComing_81 : decode cX7_findComing 81 = .ok (.iaload, 1) := by decide +kernel
theorem dX7_findComing_82 : decode cX7_findComing 82 = .ok (.invokestatic 87, 3) := by decide +kernel
theorem dX7_findComing_85 : decode cX7_findComing 85 = .ok (.ifCond .ne 6, 3) := by decide +kernel
theorem dX7_findComing_88 : decode cX7_findComing 88 = .ok (.goto 77, 3) := by decide +kernel
theorem dX7_findComing_91 : decode cX7_findComing 91 = .ok (.aload_n 0, 1) := by decide +kernel
theorem dX7_findComing_92 : decode cX7_findComing 92 = .ok (.getfield 67, 3) := by decide +kernel
theorem dX7_findComing_95 : decode cX7_findComing 95 = .ok (.aload_n 0, 1) := by decide +kernel
theorem dX7_findComing_96 : decode cX7_findComing 96 = .ok (.iload_n 1, 1) := by decide +kernel
theorem dX7_findComing_97 : decode cX7_findComing 97 = .ok (.iload 4, 2) := by decide +kernel
theorem dX7_findComing_99 : decode cX7_findComing 99 = .ok (.iload_n 2, 1) := by decide +kernel
theorem dX7_findComing_100 : decode cX7_findComing 100 = .ok (.invokevirtual 251, 3) := by decide +kernel
theorem dX7_findComing_103 : decode cX7_findComing 103 = .ok (.aload_n 0, 1) := by decide +kernel
theorem dX7_findComing_104 : decode cX7_findComing 104 = .ok (.iload_n 1, 1) := by decide +kernel
theorem dX7_findComing_105 : decode cX7_findComing 105 = .ok (.iload_n 2, 1) := by decide +kernel
theorem dX7_findComing_106 : decode cX7_findComing 106 = .ok (.invokevirtual 261, 3) := by decide +kernel
theorem dX7_findComing_109 : decode cX7_findComing 109 = .ok (.ifCond .eq 16, 3) := by decide +kernel
theorem dX7_findComing_112 : decode cX7_findComing 112 = .ok (.aload_n 0, 1) := by decide +kernel
theorem dX7_findComing_113 : decode cX7_findComing 113 = .ok (.aload_n 0, 1) := by decide +kernel
theorem dX7_findComing_114 : decode cX7_findComing 114 = .ok (.iload_n 1, 1) := by decide +kernel
theorem dX7_findComing_115 : decode cX7_findComing 115 = .ok (.iload_n 2, 1) := by decide +kernel
theorem dX7_findComing_116 : decode cX7_findComing 116 = .ok (.invokevirtual 264, 3) := by decide +kernel
theorem dX7_findComing_119 : decode cX7_findComing 119 = .ok (.invokevirtual 157, 3) := by decide +kernel
theorem dX7_findComing_122 : decode cX7_findComing 122 = .ok (.goto 42, 3) := by decide +kernel
theorem dX7_findComing_125 : decode cX7_findComing 125 = .ok (.aload_n 0, 1) := by decide +kernel
theorem dX7_findComing_126 : decode cX7_findComing 126 = .ok (.iload_n 1, 1) := by decide +kernel
theorem dX7_findComing_127 : decode cX7_findComing 127 = .ok (.iload 4, 2) := by decide +kernel
theorem dX7_findComing_129 : decode cX7_findComing 129 = .ok (.iload_n 2, 1) := by decide +kernel
theorem dX7_findComing_130 : decode cX7_findComing 130 = .ok (.invokevirtual 267, 3) := by decide +kernel
theorem dX7_findComing_133 : decode cX7_findComing 133 = .ok (.ifCond .eq 23, 3) := by decide +kernel
theorem dX7_findComing_136 : decode cX7_findComing 136 = .ok (.aload_n 0, 1) := by decide +kernel
theorem dX7_findComing_137 : decode cX7_findComing 137 = .ok (.getfield 67, 3) := by decide +kernel
theorem dX7_findComing_140 : decode cX7_findComing 140 = .ok (.aload_n 0, 1) := by decide +kernel
theorem dX7_findComing_141 : decode cX7_findComing 141 = .ok (.iload_n 1, 1) := by decide +kernel
theorem dX7_findComing_142 : decode cX7_findComing 142 = .ok (.iconst 1, 1) := by decide +kernel
theorem dX7_findComing_143 : decode cX7_findComing 143 = .ok (.iadd, 1) := by decide +kernel
theorem dX7_findComing_144 : decode cX7_findComing 144 = .ok (.iload 4, 2) := by decide +kernel
theorem dX7_findComing_146 : decode cX7_findComing 146 = .ok (.iconst 1, 1) := by decide +kernel
theorem dX7_findComing_147 : decode cX7_findComing 147 = .ok (.isub, 1) := by decide +kernel
theorem dX7_findComing_148 : decode cX7_findComing 148 = .ok (.iload_n 2, 1) := by decide +kernel
theorem dX7_findComing_149 : decode cX7_findComing 149 = .ok (.invokevirtual 251, 3) := by decide +kernel
theorem dX7_findComing_152 : decode cX7_findComing 152 = .ok (.laload, 1) := by decide +kernel
theorem dX7_findComing_153 : decode cX7_findComing 153 = .ok (.goto 11, 3) := by decide +kernel
theorem dX7_findComing_156 : decode cX7_findComing 156 = .ok (.aload_n 0, 1) := by decide +kernel
theorem dX7_findComing_157 : decode cX7_findComing 157 = .ok (.iload_n 1, 1) := by decide +kernel
theorem dX7_findComing_158 : decode cX7_findComing 158 = .ok (.iload 4, 2) := by decide +kernel
theorem dX7_findComing_160 : decode cX7_findComing 160 = .ok (.iload_n 2, 1) := by decide +kernel
theorem dX7_findComing_161 : decode cX7_findComing 161 = .ok (.invokevirtual 257, 3) := by decide +kernel
theorem dX7_findComing_164 : decode cX7_findComing 164 = .ok (.lastore, 1) := by decide +kernel
theorem dX7_findComing_165 : decode cX7_findComing 165 = .ok (.iinc 4 1, 3) := by decide +kernel
theorem dX7_findComing_168 : decode cX7_findComing 168 = .ok (.goto (-112), 3) := by decide +kernel
theorem dX7_findComing_171 : decode cX7_findComing 171 = .ok (.iinc 2 1, 3) := by decide +kernel
theorem dX7_findComing_174 : decode cX7_findComing 174 = .ok (.goto (-159), 3) := by decide +kernel
theorem dX7_findComing_177 : decode cX7_findComing 177 = .ok (.iinc 1 (-1), 3) := by decide +kernel
theorem dX7_findComing_180 : decode cX7_findComing 180 = .ok (.goto (-171), 3) := by decide +kernel
theorem dX7_findComing_183 : decode cX7_findComing 183 = .ok (.return_, 1) := by decide +kernel
theorem dX7_findCome_0 : decode cX7_findCome 0 = .ok (.aload_n 0, 1) := by decide +kernel
theorem dX7_findCome_1 : decode cX7_findCome 1 = .ok (.invokevirtual 270, 3) := by decide +kernel
theorem dX7_findCome_4 : decode cX7_findCome 4 = .ok (.iconst 0, 1) := by decide +kernel
theorem dX7_findCome_5 : decode cX7_findCome 5 = .ok (.istore_n 1, 1) := by decide +kernel
theorem dX7_findCome_6 : decode cX7_findCome 6 = .ok (.aload_n 0, 1) := by decide +kernel
theorem dX7_findCome_7 : decode cX7_findCome 7 = .ok (.getfield 19, 3) := by decide +kernel
theorem dX7_findCome_10 : decode cX7_findCome 10 = .ok (.iconst 1, 1) := by decide +kernel
theorem dX7_findCome_11 : decode cX7_findCome 11 = .ok (.iaload, 1) := by decide +kernel
theorem dX7_findCome_12 : decode cX7_findCome 12 = .ok (.istore_n 2, 1) := by decide +kernel
theorem dX7_findCome_13 : decode cX7_findCome 13 = .ok (.iconst 0, 1) := by decide +kernel
theorem dX7_findCome_14 : decode cX7_findCome 14 = .ok (.istore_n 3, 1) := by decide +kernel
theorem dX7_findCome_15 : decode cX7_findCome 15 = .ok (.aload_n 0, 1) := by decide +kernel
theorem dX7_findCome_16 : decode cX7_findCome 16 = .ok (.iload_n 1, 1) := by decide +kernel
theorem dX7_findCome_17 : decode cX7_findCome 17 = .ok (.iload_n 3, 1) := by decide +kernel
theorem dX7_findCome_18 : decode cX7_findCome 18 = .ok (.invokevirtual 261, 3) := by decide +kernel
theorem dX7_findCome_21 : decode cX7_findCome 21 = .ok (.ifCond .ne 41, 3) := by decide +kernel
theorem dX7_findCome_24 : decode cX7_findCome 24 = .ok (.aload_n 0, 1) := by decide +kernel
theorem dX7_findCome_25 : decode cX7_findCome 25 = .ok (.iload_n 1, 1) := by decide +kernel
theorem dX7_findCome_26 : decode cX7_findCome 26 = .ok (.iload_n 2, 1) := by decide +kernel
theorem dX7_findCome_27 : decode cX7_findCome 27 = .ok (.iload_n 3, 1) := by decide +kernel
theorem dX7_findCome_28 : decode cX7_findCome 28 = .ok (.invokevirtual 267, 3) := by decide +kernel
theorem dX7_findCome_31 : decode cX7_findCome 31 = .ok (.ifCond .eq 9, 3) := by decide +kernel
theorem dX7_findCome_34 : decode cX7_findCome 34 = .ok (.iinc 2 (-1), 3) := by decide +kernel
theorem dX7_findCome_37 : decode cX7_findCome 37 = .ok (.goto 19, 3) := by decide +kernel
theorem dX7_findCome_40 : decode cX7_findCome 40 = .ok (.aload_n 0, 1) := by decide +kernel
theorem dX7_findCome_41 : decode cX7_findCome 41 = .ok (.iload_n 1, 1) := by decide +kernel
theorem dX7_findCome_42 : decode cX7_findCome 42 = .ok (.iload_n 2, 1) := by decide +kernel
theorem dX7_findCome_43 : decode cX7_findCome 43 = .ok (.iload_n 3, 1) := by decide +kernel
theorem dX7_findCome_44 : decode cX7_findCome 44 = .ok (.invokevirtual 254, 3) := by decide +kernel
theorem dX7_findCome_47 : decode cX7_findCome 47 = .ok (.ifCond .ne 9, 3) := by decide +kernel
theorem dX7_findCome_50 : decode cX7_findCome 50 = .ok (.iload_n 3, 1) := by decide +kernel
theorem dX7_findCome_51 : decode cX7_findCome 51 = .ok (.iconst 1, 1) := by decide +kernel
theorem dX7_findCome_52 : decode cX7_findCome 52 = .ok (.iload_n 1, 1) := by decide +kernel
theorem dX7_findCome_53 : decode cX7_findCome 53 = .ok (.ishl, 1) := by decide +kernel
theorem dX7_findCome_54 : decode cX7_findCome 54 = .ok (.ior, 1) := by decide +kernel
theorem dX7_findCome_55 : decode cX7_findCome 55 = .ok (.istore_n 3, 1) := by decide +kernel
theorem dX7_findCome_56 : decode cX7_findCome 56 = .ok (.iinc 1 1, 3) := by decide +kernel
theorem dX7_findCome_59 : decode cX7_findCome 59 = .ok (.goto (-44), 3) := by decide +kernel
theorem dX7_findCome_62 : decode cX7_findCome 62 = .ok (.aload_n 0, 1) := by decide +kernel
theorem dX7_findCome_63 : decode cX7_findCome 63 = .ok (.aload_n 0, 1) := by decide +kernel
theorem dX7_findCome_64 : decode cX7_findCome 64 = .ok (.iload_n 1, 1) := by decide +kernel
theorem dX7_findCome_65 : decode cX7_findCome 65 = .ok (.iload_n 3, 1) := by decide +kernel
theorem dX7_findCome_66 : decode cX7_findCome 66 = .ok (.invokevirtual 264, 3) := by decide +kernel
theorem dX7_findCome_69 : decode cX7_findCome 69 = .ok (.putfield 273, 3) := by decide +kernel
theorem dX7_findCome_72 : decode cX7_findCome 72 = .ok (.aload_n 0, 1) := by decide +kernel
theorem dX7_findCome_73 : decode cX7_findCome 73 = .ok (.iload_n 2, 1) := by decide +kernel
theorem dX7_findCome_74 : decode cX7_findCome 74 = .ok (.putfield 276, 3) := by decide +kernel
theorem dX7_findCome_77 : decode cX7_findCome 77 = .ok (.aload_n 0, 1) := by decide +kernel
theorem dX7_findCome_78 : decode cX7_findCome 78 = .ok (.aload_n 0, 1) := by decide +kernel
theorem dX7_findCome_79 : decode cX7_findCome 79 = .ok (.iload_n 1, 1) := by decide +kernel
theorem dX7_findCome_80 : decode cX7_findCome 80 = .ok (.iload_n 2, 1) := by decide +kernel
theorem dX7_findCome_81 : decode cX7_findCome 81 = .ok (.iload_n 3, 1) := by decide +kernel
theorem dX7_findCome_82 : decode cX7_findCome 82 = .ok (.invokevirtual 248, 3) := by decide +kernel
theorem dX7_findCome_85 : decode cX7_findCome 85 = .ok (.putfield 279, 3) := by decide +kernel
theorem dX7_findCome_88 : decode cX7_findCome 88 = .ok (.return_, 1) := by decide +kernel
theorem dX7_coming_0 : decode cX7_coming 0 = .ok (.aload_n 0, 1) := by decide +kernel
theorem dX7_coming_1 : decode cX7_coming 1 = .ok (.invokevirtual 191, 3) := by decide +kernel
theorem dX7_coming_4 : decode cX7_coming 4 = .ok (.ifCond .ne 10, 3) := by decide +kernel
theorem dX7_coming_7 : decode cX7_coming 7 = .ok (.aload_n 0, 1) := by decide +kernel
theorem dX7_coming_8 : decode cX7_coming 8 = .ok (.bipush (-3), 2) := by decide +kernel
theorem dX7_coming_10 : decode cX7_coming 10 = .ok (.invokevirtual 150, 3) := by decide +kernel
theorem dX7_coming_13 : decode cX7_coming 13 = .ok (.lreturn, 1) := by decide +kernel
theorem dX7_coming_14 : decode cX7_coming 14 = .ok (.aload_n 0, 1) := by decide +kernel
theorem dX7_coming_15 : decode cX7_coming 15 = .ok (.invokevirtual 270, 3) := by decide +kernel
theorem dX7_coming_18 : decode cX7_coming 18 = .ok (.aload_n 0, 1) := by decide +kernel
theorem dX7_coming_19 : decode cX7_coming 19 = .ok (.getfield 67, 3) := by decide +kernel
theorem dX7_coming_22 : decode cX7_coming 22 = .ok (.aload_n 0, 1) := by decide +kernel
theorem dX7_coming_23 : decode cX7_coming 23 = .ok (.iconst 0, 1) := by decide +kernel
theorem dX7_coming_24 : decode cX7_coming 24 = .ok (.aload_n 0, 1) := by decide +kernel
theorem dX7_coming_25 : decode cX7_coming 25 = .ok (.getfield 19, 3) := by decide +kernel
theorem dX7_coming_28 : decode cX7_coming 28 = .ok (.iconst 1, 1) := by decide +kernel
theorem dX7_coming_29 : decode cX7_coming 29 = .ok (.iaload, 1) := by decide +kernel
theorem dX7_coming_30 : decode cX7_coming 30 = .ok (.iconst 0, 1) := by decide +kernel
theorem dX7_coming_31 : decode cX7_coming 31 = .ok (.invokevirtual 251, 3) := by decide +kernel
theorem dX7_coming_34 : decode cX7_coming 34 = .ok (.laload, 1) := by decide +kernel
theorem dX7_coming_35 : decode cX7_coming 35 = .ok (.lreturn, 1) := by decide +kernel
theorem dX7_come_0 : decode cX7_come 0 = .ok (.iload_n 1, 1) := by decide +kernel
theorem dX7_come_1 : decode cX7_come 1 = .ok (.iconst 0, 1) := by decide +kernel
theorem dX7_come_2 : decode cX7_come 2 = .ok (.iconst 2, 1) := by decide +kernel
theorem dX7_come_3 : decode cX7_come 3 = .ok (.invokestatic 87, 3) := by decide +kernel
theorem dX7_come_6 : decode cX7_come 6 = .ok (.ifCond .ne 10, 3) := by decide +kernel
theorem dX7_come_9 : decode cX7_come 9 = .ok (.aload_n 0, 1) := by decide +kernel
theorem dX7_come_10 : decode cX7_come 10 = .ok (.bipush (-2), 2) := by decide +kernel
theorem dX7_come_12 : decode cX7_come 12 = .ok (.invokevirtual 79, 3) := by decide +kernel
theorem dX7_come_15 : decode cX7_come 15 = .ok (.ireturn, 1) := by decide +kernel
theorem dX7_come_16 : decode cX7_come 16 = .ok (.aload_n 0, 1) := by decide +kernel
theorem dX7_come_17 : decode cX7_come 17 = .ok (.invokevirtual 191, 3) := by decide +kernel
theorem dX7_come_20 : decode cX7_come 20 = .ok (.ifCond .ne 10, 3) := by decide +kernel
theorem dX7_come_23 : decode cX7_come 23 = .ok (.aload_n 0, 1) := by decide +kernel
theorem dX7_come_24 : decode cX7_come 24 = .ok (.bipush (-3), 2) := by decide +kernel
theorem dX7_come_26 : decode cX7_come 26 = .ok (.invokevirtual 79, 3) := by decide +kernel
theorem dX7_come_29 : decode cX7_come 29 = .ok (.ireturn, 1) := by decide +kernel
theorem dX7_come_30 : decode cX7_come 30 = .ok (.aload_n 0, 1) := by decide +kernel
theorem dX7_come_31 : decode cX7_come 31 = .ok (.invokevirtual 282, 3) := by decide +kernel
theorem dX7_come_34 : decode cX7_come 34 = .ok (.iload_n 1, 1) := by decide +kernel
theorem dX7_come_35 : decode cX7_come 35 = .ok (.ifCond .ne 10, 3) := by decide +kernel
theorem dX7_come_38 : decode cX7_come 38 = .ok (.aload_n 0, 1) := by decide +kernel
theorem dX7_come_39 : decode cX7_come 39 = .ok (.getfield 273, 3) := by decide +kernel
theorem dX7_come_42 : decode cX7_come 42 = .ok (.goto 19, 3) := by decide +kernel
theorem dX7_come_45 : decode cX7_come 45 = .ok (.iload_n 1, 1) := by decide +kernel
theorem dX7_come_46 : decode cX7_come 46 = .ok (.iconst 1, 1) := by decide +kernel
theorem dX7_come_47 : decode cX7_come 47 = .ok (.if_icmp .ne 10, 3) := by decide +kernel
theorem dX7_come_50 : decode cX7_come 50 = .ok (.aload_n 0, 1) := by decide +kernel
theorem dX7_come_51 : decode cX7_come 51 = .ok (.getfield 276, 3) := by decide +kernel
theorem dX7_come_54 : decode cX7_come 54 = .ok (.goto 7, 3) := by decide +kernel
theorem dX7_come_57 : decode cX7_come 57 = .ok (.aload_n 0, 1) := by decide +kernel
theorem dX7_come_58 : decode cX7_come 58 = .ok (.getfield 279, 3) := by decide +kernel
theorem dX7_come_61 : decode cX7_come 61 = .ok (.ireturn, 1) := by decide +kernel
theorem dX7_ways_0 : decode cX7_ways 0 = .ok (.iload_n 1, 1) := by decide +kernel
theorem dX7_ways_1 : decode cX7_ways 1 = .ok (.ifCond .lt 8, 3) := by decide +kernel
theorem dX7_ways_4 : decode cX7_ways 4 = .ok (.iload_n 1, 1) := by decide +kernel
theorem dX7_ways_5 : decode cX7_ways 5 = .ok (.iload_n 0, 1) := by decide +kernel
theorem dX7_ways_6 : decode cX7_ways 6 = .ok (.if_icmp .le 7, 3) := by decide +kernel
theorem dX7_ways_9 : decode cX7_ways 9 = .ok (.lconst 0, 1) := by decide +kernel
theorem dX7_ways_10 : decode cX7_ways 10 = .ok (.goto 4, 3) := by decide +kernel
theorem dX7_ways_13 : decode cX7_ways 13 = .ok (.lconst 1, 1) := by decide +kernel
theorem dX7_ways_14 : decode cX7_ways 14 = .ok (.lstore_n 2, 1) := by decide +kernel
theorem dX7_ways_15 : decode cX7_ways 15 = .ok (.iconst 0, 1) := by decide +kernel
theorem dX7_ways_16 : decode cX7_ways 16 = .ok (.istore 4, 2) := by decide +kernel
theorem dX7_ways_18 : decode cX7_ways 18 = .ok (.iload 4, 2) := by decide +kernel
theorem dX7_ways_20 : decode cX7_ways 20 = .ok (.iload_n 1, 1) := by decide +kernel
theorem dX7_ways_21 : decode cX7_ways 21 = .ok (.if_icmp .ge 29, 3) := by decide +kernel
theorem dX7_ways_24 : decode cX7_ways 24 = .ok (.lload_n 2, 1) := by decide +kernel
theorem dX7_ways_25 : decode cX7_ways 25 = .ok (.lconst 0, 1) := by decide +kernel
theorem dX7_ways_26 : decode cX7_ways 26 = .ok (.lcmp, 1) := by decide +kernel
theorem dX7_ways_27 : decode cX7_ways 27 = .ok (.ifCond .le 23, 3) := by decide +kernel
theorem dX7_ways_30 : decode cX7_ways 30 = .ok (.lload_n 2, 1) := by decide +kernel
theorem dX7_ways_31 : decode cX7_ways 31 = .ok (.iload_n 0, 1) := by decide +kernel
theorem dX7_ways_32 : decode cX7_ways 32 = .ok (.iload 4, 2) := by decide +kernel
theorem dX7_ways_34 : decode cX7_ways 34 = .ok (.isub, 1) := by decide +kernel
theorem dX7_ways_35 : decode cX7_ways 35 = .ok (.i2l, 1) := by decide +kernel
theorem dX7_ways_36 : decode cX7_ways 36 = .ok (.lmul, 1) := by decide +kernel
theorem dX7_ways_37 : decode cX7_ways 37 = .ok (.iload 4, 2) := by decide +kernel
theorem dX7_ways_39 : decode cX7_ways 39 = .ok (.iconst 1, 1) := by decide +kernel
theorem dX7_ways_40 : decode cX7_ways 40 = .ok (.iadd, 1) := by decide +kernel
theorem dX7_ways_41 : decode cX7_ways 41 = .ok (.i2l, 1) := by decide +kernel
theorem dX7_ways_42 : decode cX7_ways 42 = .ok (.ldiv, 1) := by decide +kernel
theorem dX7_ways_43 : decode cX7_ways 43 = .ok (.lstore_n 2, 1) := by decide +kernel
theorem dX7_ways_44 : decode cX7_ways 44 = .ok (.iinc 4 1, 3) := by decide +kernel
theorem dX7_ways_47 : decode cX7_ways 47 = .ok (.goto (-29), 3) := by decide +kernel
theorem dX7_ways_50 : decode cX7_ways 50 = .ok (.lload_n 2, 1) := by decide +kernel
theorem dX7_ways_51 : decode cX7_ways 51 = .ok (.lreturn, 1) := by decide +kernel
theorem dX7_seldom_0 : decode cX7_seldom 0 = .ok (.iload_n 1, 1) := by decide +kernel
theorem dX7_seldom_1 : decode cX7_seldom 1 = .ok (.invokestatic 75, 3) := by decide +kernel
theorem dX7_seldom_4 : decode cX7_seldom 4 = .ok (.ifCond .ne 9, 3) := by decide +kernel
theorem dX7_seldom_7 : decode cX7_seldom 7 = .ok (.aload_n 0, 1) := by decide +kernel
theorem dX7_seldom_8 : decode cX7_seldom 8 = .ok (.iconst (-1), 1) := by decide +kernel
theorem dX7_seldom_9 : decode cX7_seldom 9 = .ok (.invokevirtual 150, 3) := by decide +kernel
theorem dX7_seldom_12 : decode cX7_seldom 12 = .ok (.lreturn, 1) := by decide +kernel
theorem dX7_seldom_13 : decode cX7_seldom 13 = .ok (.iload_n 2, 1) := by decide +kernel
theorem dX7_seldom_14 : decode cX7_seldom 14 = .ok (.iconst 0, 1) := by decide +kernel
theorem dX7_seldom_15 : decode cX7_seldom 15 = .ok (.iconst 1, 1) := by decide +kernel
theorem dX7_seldom_16 : decode cX7_seldom 16 = .ok (.invokestatic 87, 3) := by decide +kernel
theorem dX7_seldom_19 : decode cX7_seldom 19 = .ok (.ifCond .ne 10, 3) := by decide +kernel
theorem dX7_seldom_22 : decode cX7_seldom 22 = .ok (.aload_n 0, 1) := by decide +kernel
theorem dX7_seldom_23 : decode cX7_seldom 23 = .ok (.bipush (-2), 2) := by decide +kernel
theorem dX7_seldom_25 : decode cX7_seldom 25 = .ok (.invokevirtual 150, 3) := by decide +kernel
theorem dX7_seldom_28 : decode cX7_seldom 28 = .ok (.lreturn, 1) := by decide +kernel
theorem dX7_seldom_29 : decode cX7_seldom 29 = .ok (.aload_n 0, 1) := by decide +kernel
theorem dX7_seldom_30 : decode cX7_seldom 30 = .ok (.invokevirtual 191, 3) := by decide +kernel
theorem dX7_seldom_33 : decode cX7_seldom 33 = .ok (.ifCond .eq 10, 3) := by decide +kernel
theorem dX7_seldom_36 : decode cX7_seldom 36 = .ok (.aload_n 0, 1) := by decide +kernel
theorem dX7_seldom_37 : decode cX7_seldom 37 = .ok (.invokevirtual 213, 3) := by decide +kernel
theorem dX7_seldom_40 : decode cX7_seldom 40 = .ok (.ifCond .ne 10, 3) := by decide +kernel
theorem dX7_seldom_43 : decode cX7_seldom 43 = .ok (.aload_n 0, 1) := by decide +kernel
theorem dX7_seldom_44 : decode cX7_seldom 44 = .ok (.bipush (-3), 2) := by decide +kernel
theorem dX7_seldom_46 : decode cX7_seldom 46 = .ok (.invokevirtual 150, 3) := by decide +kernel
theorem dX7_seldom_49 : decode cX7_seldom 49 = .ok (.lreturn, 1) := by decide +kernel
theorem dX7_seldom_50 : decode cX7_seldom 50 = .ok (.iload_n 2, 1) := by decide +kernel
theorem dX7_seldom_51 : decode cX7_seldom 51 = .ok (.iconst 1, 1) := by decide +kernel
theorem dX7_seldom_52 : decode cX7_seldom 52 = .ok (.if_icmp .ne 17, 3) := by decide +kernel
theorem dX7_seldom_55 : decode cX7_seldom 55 = .ok (.aload_n 0, 1) := by decide +kernel
theorem dX7_seldom_56 : decode cX7_seldom 56 = .ok (.invokevirtual 95, 3) := by decide +kernel
theorem dX7_seldom_59 : decode cX7_seldom 59 = .ok (.aload_n 0, 1) := by decide +kernel
theorem dX7_seldom_60 : decode cX7_seldom 60 = .ok (.getfield 19, 3) := by decide +kernel
theorem dX7_seldom_63 : decode cX7_seldom 63 = .ok (.iconst 1, 1) := by decide +kernel
theorem dX7_seldom_64 : decode cX7_seldom 64 = .ok (.iaload, 1) := by decide +kernel
theorem dX7_seldom_65 : decode cX7_seldom 65 = .ok (.invokestatic 285, 3) := by decide +kernel
theorem dX7_seldom_68 : decode cX7_seldom 68 = .ok (.lreturn, 1) := by decide +kernel
theorem dX7_seldom_69 : decode cX7_seldom 69 = .ok (.aload_n 0, 1) := by decide +kernel
theorem dX7_seldom_70 : decode cX7_seldom 70 = .ok (.invokevirtual 223, 3) := by decide +kernel
theorem dX7_seldom_73 : decode cX7_seldom 73 = .ok (.pop, 1) := by decide +kernel
theorem dX7_seldom_74 : decode cX7_seldom 74 = .ok (.iconst 0, 1) := by decide +kernel
theorem dX7_seldom_75 : decode cX7_seldom 75 = .ok (.istore_n 3, 1) := by decide +kernel
theorem dX7_seldom_76 : decode cX7_seldom 76 = .ok (.iconst 0, 1) := by decide +kernel
theorem dX7_seldom_77 : decode cX7_seldom 77 = .ok (.istore 4, 2) := by decide +kernel
theorem dX7_seldom_79 : decode cX7_seldom 79 = .ok (.iconst 0, 1) := by decide +kernel
theorem dX7_seldom_80 : decode cX7_seldom 80 = .ok (.istore 5, 2) := by decide +kernel
theorem dX7_seldom_82 : decode cX7_seldom 82 = .ok (.iload 5, 2) := by decide +kernel
theorem dX7_seldom_84 : decode cX7_seldom 84 = .ok (.aload_n 0, 1) := by decide +kernel
theorem dX7_seldom_85 : decode cX7_seldom 85 = .ok (.invokevirtual 95, 3) := by decide +kernel
theorem dX7_seldom_88 : decode cX7_seldom 88 = .ok (.if_icmp .ge 57, 3) := by decide +kernel
theorem dX7_seldom_91 : decode cX7_seldom 91 = .ok (.iload_n 3, 1) := by decide +kernel
theorem dX7_seldom_92 : decode cX7_seldom 92 = .ok (.aload_n 0, 1) := by decide +kernel
theorem dX7_seldom_93 : decode cX7_seldom 93 = .ok (.getfield 16, 3) := by decide +kernel
theorem dX7_seldom_96 : decode cX7_seldom 96 = .ok (.iload 5, 2) := by decide +kernel
theorem dX7_seldom_98 : decode cX7_seldom 98 = .ok (.iaload, 1) := by decide +kernel
theorem dX7_seldom_99 : decode cX7_seldom 99 = .ok (.iload_n 1, 1) := by decide +kernel
theorem dX7_seldom_100 : decode cX7_seldom 100 = .ok (.if_icmp .ne 15, 3) := by decide +kernel
theorem dX7_seldom_103 : decode cX7_seldom 103 = .ok (.aload_n 0, 1) := by decide +kernel
theorem dX7_seldom_104 : decode cX7_seldom 104 = .ok (.getfield 220, 3) := by decide +kernel
theorem dX7_seldom_107 : decode cX7_seldom 107 = .ok (.iload 5, 2) := by decide +kernel
theorem dX7_seldom_109 : decode cX7_seldom 109 = .ok (.ishr, 1) := by decide +kernel
theorem dX7_seldom_110 : decode cX7_seldom 110 = .ok (.iconst 1, 1) := by decide +kernel
theorem dX7_seldom_111 : decode cX7_seldom 111 = .ok (.iand, 1) := by decide +kernel
theorem dX7_seldom_112 : decode cX7_seldom 112 = .ok (.goto 4, 3) := by decide +kernel
theorem dX7_seldom_115 : decode cX7_seldom 115 = .ok (.iconst 0, 1) := by decide +kernel
theorem dX7_seldom_116 : decode cX7_seldom 116 = .ok (.iadd, 1) := by decide +kernel
theorem dX7_seldom_117 : decode cX7_seldom 117 = .ok (.istore_n 3, 1) := by decide +kernel
theorem dX7_seldom_118 : decode cX7_seldom 118 = .ok (.iload 4, 2) := by decide +kernel
theorem dX7_seldom_120 : decode cX7_seldom 120 = .ok (.aload_n 0, 1) := by decide +kernel
theorem dX7_seldom_121 : decode cX7_seldom 121 = .ok (.getfield 16, 3) := by decide +kernel
theorem dX7_seldom_124 : decode cX7_seldom 124 = .ok (.iload 5, 2) := by decide +kernel
theorem dX7_seldom_126 : decode cX7_seldom 126 = .ok (.iaload, 1) := by decide +kernel
theorem dX7_seldom_127 : decode cX7_seldom 127 = .ok (.iload_n 1, 1) := by decide +kernel
theorem dX7_seldom_128 : decode cX7_seldom 128 = .ok (.if_icmp .ne 7, 3) := by decide +kernel
theorem dX7_seldom_131 : decode cX7_seldom 131 = .ok (.iconst 1, 1) := by decide +kernel
theorem dX7_seldom_132 : decode cX7_seldom 132 = .ok (.goto 4, 3) := by decide +kernel
theorem dX7_seldom_135 : decode cX7_seldom 135 = .ok (.iconst 0, 1) := by decide +kernel
theorem dX7_seldom_136 : decode cX7_seldom 136 = .ok (.iadd, 1) := by decide +kernel
theorem dX7_seldom_137 : decode cX7_seldom 137 = .ok (.istore 4, 2) := by decide +kernel
theorem dX7_seldom_139 : decode cX7_seldom 139 = .ok (.iinc 5 1, 3) := by decide +kernel
theorem dX7_seldom_142 : decode cX7_seldom 142 = .ok (.goto (-60), 3) := by decide +kernel
theorem dX7_seldom_145 : decode cX7_seldom 145 = .ok (.lconst 0, 1) := by decide +kernel
theorem dX7_seldom_146 : decode cX7_seldom 146 = .ok (.lstore 5, 2) := by decide +kernel
theorem dX7_seldom_148 : decode cX7_seldom 148 = .ok (.iload_n 3, 1) := by decide +kernel
theorem dX7_seldom_149 : decode cX7_seldom 149 = .ok (.istore 7, 2) := by decide +kernel
theorem dX7_seldom_151 : decode cX7_seldom 151 = .ok (.iload 7, 2) := by decide +kernel
theorem dX7_seldom_153 : decode cX7_seldom 153 = .ok (.aload_n 0, 1) := by decide +kernel
theorem dX7_seldom_154 : decode cX7_seldom 154 = .ok (.getfield 19, 3) := by decide +kernel
theorem dX7_seldom_157 : decode cX7_seldom 157 = .ok (.iconst 1, 1) := by decide +kernel
theorem dX7_seldom_158 : decode cX7_seldom 158 = .ok (.iaload, 1) := by decide +kernel
theorem dX7_seldom_159 : decode cX7_seldom 159 = .ok (.if_icmp .gt 41, 3) := by decide +kernel
theorem dX7_seldom_162 : decode cX7_seldom 162 = .ok (.lload 5, 2) := by decide +kernel
theorem dX7_seldom_164 : decode cX7_seldom 164 = .ok (.iload 4, 2) := by decide +kernel
theorem dX7_seldom_166 : decode cX7_seldom 166 = .ok (.iload 7, 2) := by decide +kernel
theorem dX7_seldom_168 : decode cX7_seldom 168 = .ok (.invokestatic 285, 3) := by decide +kernel
theorem dX7_seldom_171 : decode cX7_seldom 171 = .ok (.aload_n 0, 1) := by decide +kernel
theorem dX7_seldom_172 : decode cX7_seldom 172 = .ok (.invokevirtual 95, 3) := by decide +kernel
theorem dX7_seldom_175 : decode cX7_seldom 175 = .ok (.iload 4, 2) := by decide +kernel
theorem dX7_seldom_177 : decode cX7_seldom 177 = .ok (.isub, 1) := by decide +kernel
theorem dX7_seldom_178 : decode cX7_seldom 178 = .ok (.aload_n 0, 1) := by decide +kernel
theorem dX7_seldom_179 : decode cX7_seldom 179 = .ok (.getfield 19, 3) := by decide +kernel
theorem dX7_seldom_182 : decode cX7_seldom 182 = .ok (.iconst 1, 1) := by decide +kernel
theorem dX7_seldom_183 : decode cX7_seldom 183 = .ok (.iaload, 1) := by decide +kernel
theorem dX7_seldom_184 : decode cX7_seldom 184 = .ok (.iload 7, 2) := by decide +kernel
theorem dX7_seldom_186 : decode cX7_seldom 186 = .ok (.isub, 1) := by decide +kernel
theorem dX7_seldom_187 : decode cX7_seldom 187 = .ok (.invokestatic 285, 3) := by decide +kernel
theorem dX7_seldom_190 : decode cX7_seldom 190 = .ok (.lmul, 1) := by decide +kernel
theorem dX7_seldom_191 : decode cX7_seldom 191 = .ok (.ladd, 1) := by decide +kernel
theorem dX7_seldom_192 : decode cX7_seldom 192 = .ok (.lstore 5, 2) := by decide +kernel
theorem dX7_seldom_194 : decode cX7_seldom 194 = .ok (.iinc 7 1, 3) := by decide +kernel
theorem dX7_seldom_197 : decode cX7_seldom 197 = .ok (.goto (-46), 3) := by decide +kernel
theorem dX7_seldom_200 : decode cX7_seldom 200 = .ok (.lload 5, 2) := by decide +kernel
theorem dX7_seldom_202 : decode cX7_seldom 202 = .ok (.lreturn, 1) := by decide +kernel
theorem dX7_finest_0 : decode cX7_finest 0 = .ok (.aload_n 0, 1) := by decide +kernel
theorem dX7_finest_1 : decode cX7_finest 1 = .ok (.invokevirtual 191, 3) := by decide +kernel
theorem dX7_finest_4 : decode cX7_finest 4 = .ok (.ifCond .ne 10, 3) := by decide +kernel
theorem dX7_finest_7 : decode cX7_finest 7 = .ok (.aload_n 0, 1) := by decide +kernel
theorem dX7_finest_8 : decode cX7_finest 8 = .ok (.bipush (-3), 2) := by decide +kernel
theorem dX7_finest_10 : decode cX7_finest 10 = .ok (.invokevirtual 79, 3) := by decide +kernel
theorem dX7_finest_13 : decode cX7_finest 13 = .ok (.ireturn, 1) := by decide +kernel
theorem dX7_finest_14 : decode cX7_finest 14 = .ok (.aload_n 0, 1) := by decide +kernel
theorem dX7_finest_15 : decode cX7_finest 15 = .ok (.invokevirtual 207, 3) := by decide +kernel
theorem dX7_finest_18 : decode cX7_finest 18 = .ok (.iconst 0, 1) := by decide +kernel
theorem dX7_finest_19 : decode cX7_finest 19 = .ok (.istore_n 1, 1) := by decide +kernel
theorem dX7_finest_20 : decode cX7_finest 20 = .ok (.aload_n 0, 1) := by decide +kernel
theorem dX7_finest_21 : decode cX7_finest 21 = .ok (.aload_n 0, 1) := by decide +kernel
theorem dX7_finest_22 : decode cX7_finest 22 = .ok (.getfield 204, 3) := by decide +kernel
theorem dX7_finest_25 : decode cX7_finest 25 = .ok (.invokevirtual 160, 3) := by decide +kernel
theorem dX7_finest_28 : decode cX7_finest 28 = .ok (.lstore_n 2, 1) := by decide +kernel
theorem dX7_finest_29 : decode cX7_finest 29 = .ok (.aload_n 0, 1) := by decide +kernel
theorem dX7_finest_30 : decode cX7_finest 30 = .ok (.iconst 0, 1) := by decide +kernel
theorem dX7_finest_31 : decode cX7_finest 31 = .ok (.invokevirtual 245, 3) := by decide +kernel
theorem dX7_finest_34 : decode cX7_finest 34 = .ok (.istore 4, 2) := by decide +kernel
theorem dX7_finest_36 : decode cX7_finest 36 = .ok (.iload 4, 2) := by decide +kernel
theorem dX7_finest_38 : decode cX7_finest 38 = .ok (.bipush (-9), 2) := by decide +kernel
theorem dX7_finest_40 : decode cX7_finest 40 = .ok (.if_icmp .eq 52, 3) := by decide +kernel
theorem dX7_finest_43 : decode cX7_finest 43 = .ok (.aload_n 0, 1) := by decide +kernel
theorem dX7_finest_44 : decode cX7_finest 44 = .ok (.aload_n 0, 1) := by decide +kernel
theorem dX7_finest_45 : decode cX7_finest 45 = .ok (.iload 4, 2) := by decide +kernel
theorem dX7_finest_47 : decode cX7_finest 47 = .ok (.sipush 4096, 3) := by decide +kernel
theorem dX7_finest_50 : decode cX7_finest 50 = .ok (.idiv, 1) := by decide +kernel
theorem dX7_finest_51 : decode cX7_finest 51 = .ok (.iload 4, 2) := by decide +kernel
theorem dX7_finest_53 : decode cX7_finest 53 = .ok (.sipush 4096, 3) := by decide +kernel
theorem dX7_finest_56 : decode cX7_finest 56 = .ok (.irem, 1) := by decide +kernel
theorem dX7_finest_57 : decode cX7_finest 57 = .ok (.invokevirtual 232, 3) := by decide +kernel
theorem dX7_finest_60 : decode cX7_finest 60 = .ok (.invokevirtual 160, 3) := by decide +kernel
theorem dX7_finest_63 : decode cX7_finest 63 = .ok (.lstore 5, 2) := by decide +kernel
theorem dX7_finest_65 : decode cX7_finest 65 = .ok (.lload 5, 2) := by decide +kernel
theorem dX7_finest_67 : decode cX7_finest 67 = .ok (.lload_n 2, 1) := by decide +kernel
theorem dX7_finest_68 : decode cX7_finest 68 = .ok (.lcmp, 1) := by decide +kernel
theorem dX7_finest_69 : decode cX7_finest 69 = .ok (.ifCond .le 7, 3) := by decide +kernel
theorem dX7_finest_72 : decode cX7_finest 72 = .ok (.iconst 1, 1) := by decide +kernel
theorem dX7_finest_73 : decode cX7_finest 73 = .ok (.goto 4, 3) := by decide +kernel
theorem dX7_finest_76 : decode cX7_finest 76 = .ok (.iload_n 1, 1) := by decide +kernel
theorem dX7_finest_77 : decode cX7_finest 77 = .ok (.istore_n 1, 1) := by decide +kernel
theorem dX7_finest_78 : decode cX7_finest 78 = .ok (.lload 5, 2) := by decide +kernel
theorem dX7_finest_80 : decode cX7_finest 80 = .ok (.lload_n 2, 1) := by decide +kernel
theorem dX7_finest_81 : decode cX7_finest 81 = .ok (.lcmp, 1) := by decide +kernel
theorem dX7_finest_82 : decode cX7_finest 82 = .ok (.ifCond .le 8, 3) := by decide +kernel
theorem dX7_finest_85 : decode cX7_finest 85 = .ok (.lload 5, 2) := by decide +kernel
theorem dX7_finest_87 : decode cX7_finest 87 = .ok (.goto 4, 3) := by decide +kernel
theorem dX7_finest_90 : decode cX7_finest 90 = .ok (.lload_n 2, 1) := by decide +kernel
theorem dX7_finest_91 : decode cX7_finest 91 = .ok (.lstore_n 2, 1) := by decide +kernel
theorem dX7_finest_92 : decode cX7_finest 92 = .ok (.aload_n 0, 1) := by decide +kernel
theorem dX7_finest_93 : decode cX7_finest 93 = .ok (.invokevirtual 282, 3) := by decide +kernel
theorem dX7_finest_96 : decode cX7_finest 96 = .ok (.aload_n 0, 1) := by decide +kernel
theorem dX7_finest_97 : decode cX7_finest 97 = .ok (.aload_n 0, 1) := by decide +kernel
theorem dX7_finest_98 : decode cX7_finest 98 = .ok (.getfield 273, 3) := by decide +kernel
theorem dX7_finest_101 : decode cX7_finest 101 = .ok (.invokevirtual 160, 3) := by decide +kernel
theorem dX7_finest_104 : decode cX7_finest 104 = .ok (.lload_n 2, 1) := by decide +kernel
theorem dX7_finest_105 : decode cX7_finest 105 = .ok (.lcmp, 1) := by decide +kernel
theorem dX7_finest_106 : decode cX7_finest 106 = .ok (.ifCond .le 7, 3) := by decide +kernel
theorem dX7_finest_109 : decode cX7_finest 109 = .ok (.iconst 2, 1) := by decide +kernel
theorem dX7_finest_110 : decode cX7_finest 110 = .ok (.goto 4, 3) := by decide +kernel
theorem dX7_finest_113 : decode cX7_finest 113 = .ok (.iload_n 1, 1) := by decide +kernel
theorem dX7_finest_114 : decode cX7_finest 114 = .ok (.ireturn, 1) := by decide +kernel
theorem dX7_lot_0 : decode cX7_lot 0 = .ok (.iload_n 1, 1) := by decide +kernel
theorem dX7_lot_1 : decode cX7_lot 1 = .ok (.iconst 0, 1) := by decide +kernel
theorem dX7_lot_2 : decode cX7_lot 2 = .ok (.iconst 1, 1) := by decide +kernel
theorem dX7_lot_3 : decode cX7_lot 3 = .ok (.invokestatic 87, 3) := by decide +kernel
theorem dX7_lot_6 : decode cX7_lot 6 = .ok (.ifCond .ne 10, 3) := by decide +kernel
theorem dX7_lot_9 : decode cX7_lot 9 = .ok (.aload_n 0, 1) := by decide +kernel
theorem dX7_lot_10 : decode cX7_lot 10 = .ok (.bipush (-2), 2) := by decide +kernel
theorem dX7_lot_12 : decode cX7_lot 12 = .ok (.invokevirtual 150, 3) := by decide +kernel
theorem dX7_lot_15 : decode cX7_lot 15 = .ok (.lreturn, 1) := by decide +kernel
theorem dX7_lot_16 : decode cX7_lot 16 = .ok (.aload_n 0, 1) := by decide +kernel
theorem dX7_lot_17 : decode cX7_lot 17 = .ok (.getfield 83, 3) := by decide +kernel
theorem dX7_lot_20 : decode cX7_lot 20 = .ok (.aload_n 0, 1) := by decide +kernel
theorem dX7_lot_21 : decode cX7_lot 21 = .ok (.invokevirtual 137, 3) := by decide +kernel
theorem dX7_lot_24 : decode cX7_lot 24 = .ok (.if_icmp .ge 10, 3) := by decide +kernel
theorem dX7_lot_27 : decode cX7_lot 27 = .ok (.aload_n 0, 1) := by decide +kernel
theorem dX7_lot_28 : decode cX7_lot 28 = .ok (.bipush (-3), 2) := by decide +kernel
theorem dX7_lot_30 : decode cX7_lot 30 = .ok (.invokevirtual 150, 3) := by decide +kernel
theorem dX7_lot_33 : decode cX7_lot 33 = .ok (.lreturn, 1) := by decide +kernel
theorem dX7_lot_34 : decode cX7_lot 34 = .ok (.aload_n 0, 1) := by decide +kernel
theorem dX7_lot_35 : decode cX7_lot 35 = .ok (.invokevirtual 154, 3) := by decide +kernel
theorem dX7_lot_38 : decode cX7_lot 38 = .ok (.lconst 0, 1) := by decide +kernel
theorem dX7_lot_39 : decode cX7_lot 39 = .ok (.lstore_n 2, 1) := by decide +kernel
theorem dX7_lot_40 : decode cX7_lot 40 = .ok (.iconst 0, 1) := by decide +kernel
theorem dX7_lot_41 : decode cX7_lot 41 = .ok (.istore 4, 2) := by decide +kernel
theorem dX7_lot_43 : decode cX7_lot 43 = .ok (.iload 4, 2) := by decide +kernel
theorem dX7_lot_45 : decode cX7_lot 45 = .ok (.iconst 1, 1) := by decide +kernel
theorem dX7_lot_46 : decode cX7_lot 46 = .ok (.aload_n 0, 1) := by decide +kernel
theorem dX7_lot_47 : decode cX7_lot 47 = .ok (.getfield 83, 3) := by decide +kernel
theorem dX7_lot_50 : decode cX7_lot 50 = .ok (.ishl, 1) := by decide +kernel
theorem dX7_lot_51 : decode cX7_lot 51 = .ok (.if_icmp .ge 38, 3) := by decide +kernel
theorem dX7_lot_54 : decode cX7_lot 54 = .ok (.iload 4, 2) := by decide +kernel
theorem dX7_lot_56 : decode cX7_lot 56 = .ok (.invokestatic 144, 3) := by decide +kernel
theorem dX7_lot_59 : decode cX7_lot 59 = .ok (.aload_n 0, 1) := by decide +kernel
theorem dX7_lot_60 : decode cX7_lot 60 = .ok (.invokevirtual 137, 3) := by decide +kernel
theorem dX7_lot_63 : decode cX7_lot 63 = .ok (.if_icmp .ne 20, 3) := by decide +kernel
theorem dX7_lot_66 : decode cX7_lot 66 = .ok (.lload_n 2, 1) := by decide +kernel
theorem dX7_lot_67 : decode cX7_lot 67 = .ok (.iload_n 1, 1) := by decide +kernel
theorem dX7_lot_68 : decode cX7_lot 68 = .ok (.ifCond .ne 12, 3) := by decide +kernel
theorem dX7_lot_71 : decode cX7_lot 71 = .ok (.aload_n 0, 1) := by decide +kernel
theorem dX7_lot_72 : decode cX7_lot 72 = .ok (.iload 4, 2) := by decide +kernel
theorem dX7_lot_74 : decode cX7_lot 74 = .ok (.invokevirtual 160, 3) := by decide +kernel
theorem dX7_lot_77 : decode cX7_lot 77 = .ok (.goto 4, 3) := by decide +kernel
theorem dX7_lot_80 : decode cX7_lot 80 = .ok (.lconst 1, 1) := by decide +kernel
theorem dX7_lot_81 : decode cX7_lot 81 = .ok (.ladd, 1) := by decide +kernel
theorem dX7_lot_82 : decode cX7_lot 82 = .ok (.lstore_n 2, 1) := by decide +kernel
theorem dX7_lot_83 : decode cX7_lot 83 = .ok (.iinc 4 1, 3) := by decide +kernel
theorem dX7_lot_86 : decode cX7_lot 86 = .ok (.goto (-43), 3) := by decide +kernel
theorem dX7_lot_89 : decode cX7_lot 89 = .ok (.lload_n 2, 1) := by decide +kernel
theorem dX7_lot_90 : decode cX7_lot 90 = .ok (.lreturn, 1) := by decide +kernel
theorem dX7_trade_0 : decode cX7_trade 0 = .ok (.aload_n 0, 1) := by decide +kernel
theorem dX7_trade_1 : decode cX7_trade 1 = .ok (.getfield 83, 3) := by decide +kernel
theorem dX7_trade_4 : decode cX7_trade 4 = .ok (.aload_n 0, 1) := by decide +kernel
theorem dX7_trade_5 : decode cX7_trade 5 = .ok (.invokevirtual 137, 3) := by decide +kernel
theorem dX7_trade_8 : decode cX7_trade 8 = .ok (.if_icmp .ge 10, 3) := by decide +kernel
theorem dX7_trade_11 : decode cX7_trade 11 = .ok (.aload_n 0, 1) := by decide +kernel
theorem dX7_trade_12 : decode cX7_trade 12 = .ok (.bipush (-3), 2) := by decide +kernel
theorem dX7_trade_14 : decode cX7_trade 14 = .ok (.invokevirtual 79, 3) := by decide +kernel
theorem dX7_trade_17 : decode cX7_trade 17 = .ok (.ireturn, 1) := by decide +kernel
theorem dX7_trade_18 : decode cX7_trade 18 = .ok (.iconst 0, 1) := by decide +kernel
theorem dX7_trade_19 : decode cX7_trade 19 = .ok (.istore_n 1, 1) := by decide +kernel
theorem dX7_trade_20 : decode cX7_trade 20 = .ok (.iconst 0, 1) := by decide +kernel
theorem dX7_trade_21 : decode cX7_trade 21 = .ok (.istore_n 2, 1) := by decide +kernel
theorem dX7_trade_22 : decode cX7_trade 22 = .ok (.iload_n 1, 1) := by decide +kernel
theorem dX7_trade_23 : decode cX7_trade 23 = .ok (.invokestatic 144, 3) := by decide +kernel
theorem dX7_trade_26 : decode cX7_trade 26 = .ok (.aload_n 0, 1) := by decide +kernel
theorem dX7_trade_27 : decode cX7_trade 27 = .ok (.invokevirtual 137, 3) := by decide +kernel
theorem dX7_trade_30 : decode cX7_trade 30 = .ok (.if_icmp .ge 75, 3) := by decide +kernel
theorem dX7_trade_33 : decode cX7_trade 33 = .ok (.iconst (-1), 1) := by decide +kernel
theorem dX7_trade_34 : decode cX7_trade 34 = .ok (.istore_n 3, 1) := by decide +kernel
theorem dX7_trade_35 : decode cX7_trade 35 = .ok (.aload_n 0, 1) := by decide +kernel
theorem dX7_trade_36 : decode cX7_trade 36 = .ok (.getfield 83, 3) := by decide +kernel
theorem dX7_trade_39 : decode cX7_trade 39 = .ok (.iconst 1, 1) := by decide +kernel
theorem dX7_trade_40 : decode cX7_trade 40 = .ok (.isub, 1) := by decide +kernel
theorem dX7_trade_41 : decode cX7_trade 41 = .ok (.istore 4, 2) := by decide +kernel
theorem dX7_trade_43 : decode cX7_trade 43 = .ok (.iload 4, 2) := by decide +kernel
theorem dX7_trade_45 : decode cX7_trade 45 = .ok (.ifCond .lt 36, 3) := by decide +kernel
theorem dX7_trade_48 : decode cX7_trade 48 = .ok (.aload_n 0, 1) := by decide +kernel
theorem dX7_trade_49 : decode cX7_trade 49 = .ok (.getfield 16, 3) := by decide +kernel
theorem dX7_trade_52 : decode cX7_trade 52 = .ok (.iload 4, 2) := by decide +kernel
theorem dX7_trade_54 : decode cX7_trade 54 = .ok (.iaload, 1) := by decide +kernel
theorem dX7_trade_55 : decode cX7_trade 55 = .ok (.iload_n 2, 1) := by decide +kernel
theorem dX7_trade_56 : decode cX7_trade 56 = .ok (.if_icmp .ne 17, 3) := by decide +kernel
theorem dX7_trade_59 : decode cX7_trade 59 = .ok (.iload_n 1, 1) := by decide +kernel
theorem dX7_trade_60 : decode cX7_trade 60 = .ok (.iload 4, 2) := by decide +kernel
theorem dX7_trade_62 : decode cX7_trade 62 = .ok (.ishr, 1) := by decide +kernel
theorem dX7_trade_63 : decode cX7_trade 63 = .ok (.iconst 1, 1) := by decide +kernel
theorem dX7_trade_64 : decode cX7_trade 64 = .ok (.iand, 1) := by decide +kernel
theorem dX7_trade_65 : decode cX7_trade 65 = .ok (.ifCond .ne 8, 3) := by decide +kernel
theorem dX7_trade_68 : decode cX7_trade 68 = .ok (.iload 4, 2) := by decide +kernel
theorem dX7_trade_70 : decode cX7_trade 70 = .ok (.goto 4, 3) := by decide +kernel
theorem dX7_trade_73 : decode cX7_trade 73 = .ok (.iload_n 3, 1) := by decide +kernel
theorem dX7_trade_74 : decode cX7_trade 74 = .ok (.istore_n 3, 1) := by decide +kernel
theorem dX7_trade_75 : decode cX7_trade 75 = .ok (.iinc 4 (-1), 3) := by decide +kernel
theorem dX7_trade_78 : decode cX7_trade 78 = .ok (.goto (-35), 3) := by decide +kernel
theorem dX7_trade_81 : decode cX7_trade 81 = .ok (.iload_n 1, 1) := by decide +kernel
theorem dX7_trade_82 : decode cX7_trade 82 = .ok (.iload_n 3, 1) := by decide +kernel
theorem dX7_trade_83 : decode cX7_trade 83 = .ok (.ifCond .ge 7, 3) := by decide +kernel
theorem dX7_trade_86 : decode cX7_trade 86 = .ok (.iconst 0, 1) := by decide +kernel
theorem dX7_trade_87 : decode cX7_trade 87 = .ok (.goto 6, 3) := by decide +kernel
theorem dX7_trade_90 : decode cX7_trade 90 = .ok (.iconst 1, 1) := by decide +kernel
theorem dX7_trade_91 : decode cX7_trade 91 = .ok (.iload_n 3, 1) := by decide +kernel
theorem dX7_trade_92 : decode cX7_trade 92 = .ok (.ishl, 1) := by decide +kernel
theorem dX7_trade_93 : decode cX7_trade 93 = .ok (.ior, 1) := by decide +kernel
theorem dX7_trade_94 : decode cX7_trade 94 = .ok (.istore_n 1, 1) := by decide +kernel
theorem dX7_trade_95 : decode cX7_trade 95 = .ok (.iload_n 2, 1) := by decide +kernel
theorem dX7_trade_96 : decode cX7_trade 96 = .ok (.iconst 1, 1) := by decide +kernel
theorem dX7_trade_97 : decode cX7_trade 97 = .ok (.iadd, 1) := by decide +kernel
theorem dX7_trade_98 : decode cX7_trade 98 = .ok (.bipush 6, 2) := by decide +kernel
theorem dX7_trade_100 : decode cX7_trade 100 = .ok (.irem, 1) := by decide +kernel
theorem dX7_trade_101 : decode cX7_trade 101 = .ok (.istore_n 2, 1) := by decide +kernel
theorem dX7_trade_102 : decode cX7_trade 102 = .ok (.goto (-80), 3) := by decide +kernel
theorem dX7_trade_105 : decode cX7_trade 105 = .ok (.iload_n 1, 1) := by decide +kernel
theorem dX7_trade_106 : decode cX7_trade 106 = .ok (.ireturn, 1) := by decide +kernel
theorem dX7_holdsWrong_0 : decode cX7_holdsWrong 0 = .ok (.aload_n 0, 1) := by decide +kernel
theorem dX7_holdsWrong_1 : decode cX7_holdsWrong 1 = .ok (.invokevirtual 154, 3) := by decide +kernel
theorem dX7_holdsWrong_4 : decode cX7_holdsWrong 4 = .ok (.iconst 0, 1) := by decide +kernel
theorem dX7_holdsWrong_5 : decode cX7_holdsWrong 5 = .ok (.istore 4, 2) := by decide +kernel
theorem dX7_holdsWrong_7 : decode cX7_holdsWrong 7 = .ok (.iload 4, 2) := by decide +kernel
theorem dX7_holdsWrong_9 : decode cX7_holdsWrong 9 = .ok (.aload_n 0, 1) := by decide +kernel
theorem dX7_holdsWrong_10 : decode cX7_holdsWrong 10 = .ok (.getfield 83, 3) := by decide +kernel
theorem dX7_holdsWrong_13 : decode cX7_holdsWrong 13 = .ok (.if_icmp .ge 45, 3) := by decide +kernel
theorem dX7_holdsWrong_16 : decode cX7_holdsWrong 16 = .ok (.aload_n 0, 1) := by decide +kernel
theorem dX7_holdsWrong_17 : decode cX7_holdsWrong 17 = .ok (.getfield 16, 3) := by decide +kernel
theorem dX7_holdsWrong_20 : decode cX7_holdsWrong 20 = .ok (.iload 4, 2) := by decide +kernel
theorem dX7_holdsWrong_22 : decode cX7_holdsWrong 22 = .ok (.iaload, 1) := by decide +kernel
theorem dX7_holdsWrong_23 : decode cX7_holdsWrong 23 = .ok (.iload_n 1, 1) := by decide +kernel
theorem dX7_holdsWrong_24 : decode cX7_holdsWrong 24 = .ok (.if_icmp .eq 6, 3) := by decide +kernel
theorem dX7_holdsWrong_27 : decode cX7_holdsWrong 27 = .ok (.goto 25, 3) := by decide +kernel
theorem dX7_holdsWrong_30 : decode cX7_holdsWrong 30 = .ok (.aload_n 0, 1) := by decide +kernel
theorem dX7_holdsWrong_31 : decode cX7_holdsWrong 31 = .ok (.getfield 31, 3) := by decide +kernel
theorem dX7_holdsWrong_34 : decode cX7_holdsWrong 34 = .ok (.iconst 2, 1) := by decide +kernel
theorem dX7_holdsWrong_35 : decode cX7_holdsWrong 35 = .ok (.iload 4, 2) := by decide +kernel
theorem dX7_holdsWrong_37 : decode cX7_holdsWrong 37 = .ok (.imul, 1) := by decide +kernel
theorem dX7_holdsWrong_38 : decode cX7_holdsWrong 38 = .ok (.iload_n 2, 1) := by decide +kernel
theorem dX7_holdsWrong_39 : decode cX7_holdsWrong 39 = .ok (.iastore, 1) := by decide +kernel
theorem dX7_holdsWrong_40 : decode cX7_holdsWrong 40 = .ok (.aload_n 0, 1) := by decide +kernel
theorem dX7_holdsWrong_41 : decode cX7_holdsWrong 41 = .ok (.getfield 31, 3) := by decide +kernel
theorem dX7_holdsWrong_44 : decode cX7_holdsWrong 44 = .ok (.iconst 2, 1) := by decide +kernel
theorem dX7_holdsWrong_45 : decode cX7_holdsWrong 45 = .ok (.iload 4, 2) := by decide +kernel
theorem dX7_holdsWrong_47 : decode cX7_holdsWrong 47 = .ok (.imul, 1) := by decide +kernel
theorem dX7_holdsWrong_48 : decode cX7_holdsWrong 48 = .ok (.iconst 1, 1) := by decide +kernel
theorem dX7_holdsWrong_49 : decode cX7_holdsWrong 49 = .ok (.iadd, 1) := by decide +kernel
theorem dX7_holdsWrong_50 : decode cX7_holdsWrong 50 = .ok (.iload_n 3, 1) := by decide +kernel
theorem dX7_holdsWrong_51 : decode cX7_holdsWrong 51 = .ok (.iastore, 1) := by decide +kernel
theorem dX7_holdsWrong_52 : decode cX7_holdsWrong 52 = .ok (.iinc 4 1, 3) := by decide +kernel
theorem dX7_holdsWrong_55 : decode cX7_holdsWrong 55 = .ok (.goto (-48), 3) := by decide +kernel
theorem dX7_holdsWrong_58 : decode cX7_holdsWrong 58 = .ok (.return_, 1) := by decide +kernel
theorem dX7_wrongly_0 : decode cX7_wrongly 0 = .ok (.iload_n 1, 1) := by decide +kernel
theorem dX7_wrongly_1 : decode cX7_wrongly 1 = .ok (.invokestatic 75, 3) := by decide +kernel
theorem dX7_wrongly_4 : decode cX7_wrongly 4 = .ok (.ifCond .ne 9, 3) := by decide +kernel
theorem dX7_wrongly_7 : decode cX7_wrongly 7 = .ok (.aload_n 0, 1) := by decide +kernel
theorem dX7_wrongly_8 : decode cX7_wrongly 8 = .ok (.iconst (-1), 1) := by decide +kernel
theorem dX7_wrongly_9 : decode cX7_wrongly 9 = .ok (.invokevirtual 150, 3) := by decide +kernel
theorem dX7_wrongly_12 : decode cX7_wrongly 12 = .ok (.lreturn, 1) := by decide +kernel
theorem dX7_wrongly_13 : decode cX7_wrongly 13 = .ok (.iload_n 2, 1) := by decide +kernel
theorem dX7_wrongly_14 : decode cX7_wrongly 14 = .ok (.ifCond .lt 7, 3) := by decide +kernel
theorem dX7_wrongly_17 : decode cX7_wrongly 17 = .ok (.iload_n 3, 1) := by decide +kernel
theorem dX7_wrongly_18 : decode cX7_wrongly 18 = .ok (.ifCond .ge 8, 3) := by decide +kernel
theorem dX7_wrongly_21 : decode cX7_wrongly 21 = .ok (.bipush (-4), 2) := by decide +kernel
theorem dX7_wrongly_23 : decode cX7_wrongly 23 = .ok (.goto 33, 3) := by decide +kernel
theorem dX7_wrongly_26 : decode cX7_wrongly 26 = .ok (.iload_n 2, 1) := by decide +kernel
theorem dX7_wrongly_27 : decode cX7_wrongly 27 = .ok (.bipush 100, 2) := by decide +kernel
theorem dX7_wrongly_29 : decode cX7_wrongly 29 = .ok (.if_icmp .gt 9, 3) := by decide +kernel
theorem dX7_wrongly_32 : decode cX7_wrongly 32 = .ok (.iload_n 3, 1) := by decide +kernel
theorem dX7_wrongly_33 : decode cX7_wrongly 33 = .ok (.bipush 100, 2) := by decide +kernel
theorem dX7_wrongly_35 : decode cX7_wrongly 35 = .ok (.if_icmp .le 8, 3) := by decide +kernel
theorem dX7_wrongly_38 : decode cX7_wrongly 38 = .ok (.bipush (-6), 2) := by decide +kernel
theorem dX7_wrongly_40 : decode cX7_wrongly 40 = .ok (.goto 16, 3) := by decide +kernel
theorem dX7_wrongly_43 : decode cX7_wrongly 43 = .ok (.aload_n 0, 1) := by decide +kernel
theorem dX7_wrongly_44 : decode cX7_wrongly 44 = .ok (.invokevirtual 191, 3) := by decide +kernel
theorem dX7_wrongly_47 : decode cX7_wrongly 47 = .ok (.ifCond .ne 8, 3) := by decide +kernel
theorem dX7_wrongly_50 : decode cX7_wrongly 50 = .ok (.bipush (-3), 2) := by decide +kernel
theorem dX7_wrongly_52 : decode cX7_wrongly 52 = .ok (.goto 4, 3) := by decide +kernel
theorem dX7_wrongly_55 : decode cX7_wrongly 55 = .ok (.iconst 0, 1) := by decide +kernel
theorem dX7_wrongly_56 : decode cX7_wrongly 56 = .ok (.istore 4, 2) := by decide +kernel
theorem dX7_wrongly_58 : decode cX7_wrongly 58 = .ok (.iload 4, 2) := by decide +kernel
theorem dX7_wrongly_60 : decode cX7_wrongly 60 = .ok (.ifCond .eq 10, 3) := by decide +kernel
theorem dX7_wrongly_63 : decode cX7_wrongly 63 = .ok (.aload_n 0, 1) := by decide +kernel
theorem dX7_wrongly_64 : decode cX7_wrongly 64 = .ok (.iload 4, 2) := by decide +kernel
theorem dX7_wrongly_66 : decode cX7_wrongly 66 = .ok (.invokevirtual 150, 3) := by decide +kernel
theorem dX7_wrongly_69 : decode cX7_wrongly 69 = .ok (.lreturn, 1) := by decide +kernel
theorem dX7_wrongly_70 : decode cX7_wrongly 70 = .ok (.aload_n 0, 1) := by decide +kernel
theorem dX7_wrongly_71 : decode cX7_wrongly 71 = .ok (.invokevirtual 194, 3) := by decide +kernel
theorem dX7_wrongly_74 : decode cX7_wrongly 74 = .ok (.aload_n 0, 1) := by decide +kernel
theorem dX7_wrongly_75 : decode cX7_wrongly 75 = .ok (.invokevirtual 197, 3) := by decide +kernel
theorem dX7_wrongly_78 : decode cX7_wrongly 78 = .ok (.lstore 5, 2) := by decide +kernel
theorem dX7_wrongly_80 : decode cX7_wrongly 80 = .ok (.aload_n 0, 1) := by decide +kernel
theorem dX7_wrongly_81 : decode cX7_wrongly 81 = .ok (.invokevirtual 188, 3) := by decide +kernel
theorem dX7_wrongly_84 : decode cX7_wrongly 84 = .ok (.istore 7, 2) := by decide +kernel
theorem dX7_wrongly_86 : decode cX7_wrongly 86 = .ok (.aload_n 0, 1) := by decide +kernel
theorem dX7_wrongly_87 : decode cX7_wrongly 87 = .ok (.getfield 19, 3) := by decide +kernel
theorem dX7_wrongly_90 : decode cX7_wrongly 90 = .ok (.iconst 1, 1) := by decide +kernel
theorem dX7_wrongly_91 : decode cX7_wrongly 91 = .ok (.iaload, 1) := by decide +kernel
theorem dX7_wrongly_92 : decode cX7_wrongly 92 = .ok (.istore 8, 2) := by decide +kernel
theorem dX7_wrongly_94 : decode cX7_wrongly 94 = .ok (.aload_n 0, 1) := by decide +kernel
theorem dX7_wrongly_95 : decode cX7_wrongly 95 = .ok (.getfield 19, 3) := by decide +kernel
theorem dX7_wrongly_98 : decode cX7_wrongly 98 = .ok (.iconst 2, 1) := by decide +kernel
theorem dX7_wrongly_99 : decode cX7_wrongly 99 = .ok (.iaload, 1) := by decide +kernel
theorem dX7_wrongly_100 : decode cX7_wrongly 100 = .ok (.istore 9, 2) := by decide +kernel
theorem dX7_wrongly_102 : decode cX7_wrongly 102 = .ok (.iconst 0, 1) := by decide +kernel
theorem dX7_wrongly_103 : decode cX7_wrongly 103 = .ok (.istore 10, 2) := by decide +kernel
theorem dX7_wrongly_105 : decode cX7_wrongly 105 = .ok (.iload 8, 2) := by decide +kernel
theorem dX7_wrongly_107 : decode cX7_wrongly 107 = .ok (.iload 9, 2) := by decide +kernel
theorem dX7_wrongly_109 : decode cX7_wrongly 109 = .ok (.iadd, 1) := by decide +kernel
theorem dX7_wrongly_110 : decode cX7_wrongly 110 = .ok (.ifCond .le 87, 3) := by decide +kernel
theorem dX7_wrongly_113 : decode cX7_wrongly 113 = .ok (.iload 8, 2) := by decide +kernel
theorem dX7_wrongly_115 : decode cX7_wrongly 115 = .ok (.iload 9, 2) := by decide +kernel
theorem dX7_wrongly_117 : decode cX7_wrongly 117 = .ok (.iload 10, 2) := by decide +kernel
theorem dX7_wrongly_119 : decode cX7_wrongly 119 = .ok (.invokestatic 171, 3) := by decide +kernel
theorem dX7_wrongly_122 : decode cX7_wrongly 122 = .ok (.istore 11, 2) := by decide +kernel
theorem dX7_wrongly_124 : decode cX7_wrongly 124 = .ok (.iload 11, 2) := by decide +kernel
theorem dX7_wrongly_126 : decode cX7_wrongly 126 = .ok (.ifCond .ne 13, 3) := by decide +kernel
theorem dX7_wrongly_129 : decode cX7_wrongly 129 = .ok (.aload_n 0, 1) := by decide +kernel
theorem dX7_wrongly_130 : decode cX7_wrongly 130 = .ok (.iload_n 1, 1) := by decide +kernel
theorem dX7_wrongly_131 : decode cX7_wrongly 131 = .ok (.iload_n 2, 1) := by decide +kernel
theorem dX7_wrongly_132 : decode cX7_wrongly 132 = .ok (.iload_n 3, 1) := by decide +kernel
theorem dX7_wrongly_133 : decode cX7_wrongly 133 = .ok (.invokevirtual 289, 3) := by decide +kernel
theorem dX7_wrongly_136 : decode cX7_wrongly 136 = .ok (.goto 7, 3) := by decide +kernel
theorem dX7_wrongly_139 : decode cX7_wrongly 139 = .ok (.aload_n 0, 1) := by decide +kernel
theorem dX7_wrongly_140 : decode cX7_wrongly 140 = .ok (.invokevirtual 154, 3) := by decide +kernel
theorem dX7_wrongly_143 : decode cX7_wrongly 143 = .ok (.aload_n 0, 1) := by decide +kernel
theorem dX7_wrongly_144 : decode cX7_wrongly 144 = .ok (.iload 7, 2) := by decide +kernel
theorem dX7_wrongly_146 : decode cX7_wrongly 146 = .ok (.iload 8, 2) := by decide +kernel
theorem dX7_wrongly_148 : decode cX7_wrongly 148 = .ok (.iload 9, 2) := by decide +kernel
theorem dX7_wrongly_150 : decode cX7_wrongly 150 = .ok (.invokevirtual 181, 3) := by decide +kernel
theorem dX7_wrongly_153 : decode cX7_wrongly 153 = .ok (.iload 7, 2) := by decide +kernel
theorem dX7_wrongly_155 : decode cX7_wrongly 155 = .ok (.iconst 1, 1) := by decide +kernel
theorem dX7_wrongly_156 : decode cX7_wrongly 156 = .ok (.aload_n 0, 1) := by decide +kernel
theorem dX7_wrongly_157 : decode cX7_wrongly 157 = .ok (.iload 8, 2) := by decide +kernel
theorem dX7_wrongly_159 : decode cX7_wrongly 159 = .ok (.iload 9, 2) := by decide +kernel
theorem dX7_wrongly_161 : decode cX7_wrongly 161 = .ok (.iload 10, 2) := by decide +kernel
theorem dX7_wrongly_163 : decode cX7_wrongly 163 = .ok (.iload 7, 2) := by decide +kernel
theorem dX7_wrongly_165 : decode cX7_wrongly 165 = .ok (.invokevirtual 185, 3) := by decide +kernel
theorem dX7_wrongly_168 : decode cX7_wrongly 168 = .ok (.ishl, 1) := by decide +kernel
theorem dX7_wrongly_169 : decode cX7_wrongly 169 = .ok (.iconst (-1), 1) := by decide +kernel
theorem dX7_wrongly_170 : decode cX7_wrongly 170 = .ok (.ixor, 1) := by decide +kernel
theorem dX7_wrongly_171 : decode cX7_wrongly 171 = .ok (.iand, 1) := by decide +kernel
theorem dX7_wrongly_172 : decode cX7_wrongly 172 = .ok (.istore 7, 2) := by decide +kernel
theorem dX7_wrongly_174 : decode cX7_wrongly 174 = .ok (.iload 11, 2) := by decide +kernel
theorem dX7_wrongly_176 : decode cX7_wrongly 176 = .ok (.ifCond .ne 9, 3) := by decide +kernel
theorem dX7_wrongly_179 : decode cX7_wrongly 179 = .ok (.iinc 8 (-1), 3) := by decide +kernel
theorem dX7_wrongly_182 : decode cX7_wrongly 182 = .ok (.goto 6, 3) := by decide +kernel
theorem dX7_wrongly_185 : decode cX7_wrongly 185 = .ok (.iinc 9 (-1), 3) := by decide +kernel
theorem dX7_wrongly_188 : decode cX7_wrongly 188 = .ok (.iconst 1, 1) := by decide +kernel
theorem dX7_wrongly_189 : decode cX7_wrongly 189 = .ok (.iload 11, 2) := by decide +kernel
theorem dX7_wrongly_191 : decode cX7_wrongly 191 = .ok (.isub, 1) := by decide +kernel
theorem dX7_wrongly_192 : decode cX7_wrongly 192 = .ok (.istore 10, 2) := by decide +kernel
theorem dX7_wrongly_194 : decode cX7_wrongly 194 = .ok (.goto (-89), 3) := by decide +kernel
theorem dX7_wrongly_197 : decode cX7_wrongly 197 = .ok (.aload_n 0, 1) := by decide +kernel
theorem dX7_wrongly_198 : decode cX7_wrongly 198 = .ok (.invokevirtual 154, 3) := by decide +kernel
theorem dX7_wrongly_201 : decode cX7_wrongly 201 = .ok (.aload_n 0, 1) := by decide +kernel
theorem dX7_wrongly_202 : decode cX7_wrongly 202 = .ok (.iload 7, 2) := by decide +kernel
theorem dX7_wrongly_204 : decode cX7_wrongly 204 = .ok (.invokevirtual 157, 3) := by decide +kernel
theorem dX7_wrongly_207 : decode cX7_wrongly 207 = .ok (.lload 5, 2) := by decide +kernel
theorem dX7_wrongly_209 : decode cX7_wrongly 209 = .ok (.lsub, 1) := by decide +kernel
theorem dX7_wrongly_210 : decode cX7_wrongly 210 = .ok (.lreturn, 1) := by decide +kernel
theorem dX7_turnsWith_0 : decode cX7_turnsWith 0 = .ok (.aload_n 0, 1) := by decide +kernel
theorem dX7_turnsWith_1 : decode cX7_turnsWith 1 = .ok (.invokevirtual 154, 3) := by decide +kernel
theorem dX7_turnsWith_4 : decode cX7_turnsWith 4 = .ok (.iconst 2, 1) := by decide +kernel
theorem dX7_turnsWith_5 : decode cX7_turnsWith 5 = .ok (.iload_n 1, 1) := by decide +kernel
theorem dX7_turnsWith_6 : decode cX7_turnsWith 6 = .ok (.imul, 1) := by decide +kernel
theorem dX7_turnsWith_7 : decode cX7_turnsWith 7 = .ok (.istore_n 3, 1) := by decide +kernel
theorem dX7_turnsWith_8 : decode cX7_turnsWith 8 = .ok (.iload_n 3, 1) := by decide +kernel
theorem dX7_turnsWith_9 : decode cX7_turnsWith 9 = .ok (.iconst 2, 1) := by decide +kernel
theorem dX7_turnsWith_10 : decode cX7_turnsWith 10 = .ok (.iload_n 1, 1) := by decide +kernel
theorem dX7_turnsWith_11 : decode cX7_turnsWith 11 = .ok (.imul, 1) := by decide +kernel
theorem dX7_turnsWith_12 : decode cX7_turnsWith 12 = .ok (.iconst 2, 1) := by decide +kernel
theorem dX7_turnsWith_13 : decode cX7_turnsWith 13 = .ok (.iadd, 1) := by decide +kernel
theorem dX7_turnsWith_14 : decode cX7_turnsWith 14 = .ok (.if_icmp .ge 48, 3) := by decide +kernel
theorem dX7_turnsWith_17 : decode cX7_turnsWith 17 = .ok (.aload_n 0, 1) := by decide +kernel
theorem dX7_turnsWith_18 : decode cX7_turnsWith 18 = .ok (.getfield 31, 3) := by decide +kernel
theorem dX7_turnsWith_21 : decode cX7_turnsWith 21 = .ok (.iload_n 3, 1) := by decide +kernel
theorem dX7_turnsWith_22 : decode cX7_turnsWith 22 = .ok (.iaload, 1) := by decide +kernel
theorem dX7_turnsWith_23 : decode cX7_turnsWith 23 = .ok (.iload_n 2, 1) := by decide +kernel
theorem dX7_turnsWith_24 : decode cX7_turnsWith 24 = .ok (.iadd, 1) := by decide +kernel
theorem dX7_turnsWith_25 : decode cX7_turnsWith 25 = .ok (.istore 4, 2) := by decide +kernel
theorem dX7_turnsWith_27 : decode cX7_turnsWith 27 = .ok (.aload_n 0, 1) := by decide +kernel
theorem dX7_turnsWith_28 : decode cX7_turnsWith 28 = .ok (.getfield 31, 3) := by decide +kernel
theorem dX7_turnsWith_31 : decode cX7_turnsWith 31 = .ok (.iload_n 3, 1) := by decide +kernel
theorem dX7_turnsWith_32 : decode cX7_turnsWith 32 = .ok (.iload 4, 2) := by decide +kernel
theorem dX7_turnsWith_34 : decode cX7_turnsWith 34 = .ok (.ifCond .ge 7, 3) := by decide +kernel
theorem dX7_turnsWith_37 : decode cX7_turnsWith 37 = .ok (.iconst 0, 1) := by decide +kernel
theorem dX7_turnsWith_38 : decode cX7_turnsWith 38 = .ok (.goto 17, 3) := by decide +kernel
theorem dX7_turnsWith_41 : decode cX7_turnsWith 41 = .ok (.iload 4, 2) := by decide +kernel
theorem dX7_turnsWith_43 : decode cX7_turnsWith 43 = .ok (.bipush 100, 2) := by decide +kernel
theorem dX7_turnsWith_45 : decode cX7_turnsWith 45 = .ok (.if_icmp .le 8, 3) := by decide +kernel
theorem dX7_turnsWith_48 : decode cX7_turnsWith 48 = .ok (.bipush 100, 2) := by decide +kernel
theorem dX7_turnsWith_50 : decode cX7_turnsWith 50 = .ok (.goto 5, 3) := by decide +kernel
theorem dX7_turnsWith_53 : decode cX7_turnsWith 53 = .ok (.iload 4, 2) := by decide +kernel
theorem dX7_turnsWith_55 : decode cX7_turnsWith 55 = .ok (.iastore, 1) := by decide +kernel
theorem dX7_turnsWith_56 : decode cX7_turnsWith 56 = .ok (.iinc 3 1, 3) := by decide +kernel
theorem dX7_turnsWith_59 : decode cX7_turnsWith 59 = .ok (.goto (-51), 3) := by decide +kernel
theorem dX7_turnsWith_62 : decode cX7_turnsWith 62 = .ok (.aload_n 0, 1) := by decide +kernel
theorem dX7_turnsWith_63 : decode cX7_turnsWith 63 = .ok (.aload_n 0, 1) := by decide +kernel
theorem dX7_turnsWith_64 : decode cX7_turnsWith 64 = .ok (.invokevirtual 188, 3) := by decide +kernel
theorem dX7_turnsWith_67 : decode cX7_turnsWith 67 = .ok (.aload_n 0, 1) := by decide +kernel
theorem dX7_turnsWith_68 : decode cX7_turnsWith 68 = .ok (.getfield 19, 3) := by decide +kernel
theorem dX7_turnsWith_71 : decode cX7_turnsWith 71 = .ok (.iconst 1, 1) := by decide +kernel
theorem dX7_turnsWith_72 : decode cX7_turnsWith 72 = .ok (.iaload, 1) := by decide +kernel
theorem dX7_turnsWith_73 : decode cX7_turnsWith 73 = .ok (.aload_n 0, 1) := by decide +kernel
theorem dX7_turnsWith_74 : decode cX7_turnsWith 74 = .ok (.getfield 19, 3) := by decide +kernel
theorem dX7_turnsWith_77 : decode cX7_turnsWith 77 = .ok (.iconst 2, 1) := by decide +kernel
theorem dX7_turnsWith_78 : decode cX7_turnsWith 78 = .ok (.iaload, 1) := by decide +kernel
theorem dX7_turnsWith_79 : decode cX7_turnsWith 79 = .ok (.invokevirtual 181, 3) := by decide +kernel
theorem dX7_turnsWith_82 : decode cX7_turnsWith 82 = .ok (.aload_n 0, 1) := by decide +kernel
theorem dX7_turnsWith_83 : decode cX7_turnsWith 83 = .ok (.invokevirtual 197, 3) := by decide +kernel
theorem dX7_turnsWith_86 : decode cX7_turnsWith 86 = .ok (.lreturn, 1) := by decide +kernel
theorem dX7_asked_0 : decode cX7_asked 0 = .ok (.iload_n 1, 1) := by decide +kernel
theorem dX7_asked_1 : decode cX7_asked 1 = .ok (.iconst 0, 1) := by decide +kernel
theorem dX7_asked_2 : decode cX7_asked 2 = .ok (.aload_n 0, 1) := by decide +kernel
theorem dX7_asked_3 : decode cX7_asked 3 = .ok (.getfield 83, 3) := by decide +kernel
theorem dX7_asked_6 : decode cX7_asked 6 = .ok (.iconst 1, 1) := by decide +kernel
theorem dX7_asked_7 : decode cX7_asked 7 = .ok (.isub, 1) := by decide +kernel
theorem dX7_asked_8 : decode cX7_asked 8 = .ok (.invokestatic 87, 3) := by decide +kernel
theorem dX7_asked_11 : decode cX7_asked 11 = .ok (.ifCond .ne 9, 3) := by decide +kernel
theorem dX7_asked_14 : decode cX7_asked 14 = .ok (.aload_n 0, 1) := by decide +kernel
theorem dX7_asked_15 : decode cX7_asked 15 = .ok (.iconst (-1), 1) := by decide +kernel
theorem dX7_asked_16 : decode cX7_asked 16 = .ok (.invokevirtual 150, 3) := by decide +kernel
theorem dX7_asked_19 : decode cX7_asked 19 = .ok (.lreturn, 1) := by decide +kernel
theorem dX7_asked_20 : decode cX7_asked 20 = .ok (.iload_n 2, 1) := by decide +kernel
theorem dX7_asked_21 : decode cX7_asked 21 = .ok (.iconst 0, 1) := by decide +kernel
theorem dX7_asked_22 : decode cX7_asked 22 = .ok (.bipush 50, 2) := by decide +kernel
theorem dX7_asked_24 : decode cX7_asked 24 = .ok (.invokestatic 91, 3) := by decide +kernel
theorem dX7_asked_27 : decode cX7_asked 27 = .ok (.istore_n 3, 1) := by decide +kernel
theorem dX7_asked_28 : decode cX7_asked 28 = .ok (.iload_n 3, 1) := by decide +kernel
theorem dX7_asked_29 : decode cX7_asked 29 = .ok (.ifCond .ne 21, 3) := by decide +kernel
theorem dX7_asked_32 : decode cX7_asked 32 = .ok (.aload_n 0, 1) := by decide +kernel
theorem dX7_asked_33 : decode cX7_asked 33 = .ok (.invokevirtual 191, 3) := by decide +kernel
theorem dX7_asked_36 : decode cX7_asked 36 = .ok (.ifCond .eq 11, 3) := by decide +kernel
theorem dX7_asked_39 : decode cX7_asked 39 = .ok (.iload_n 1, 1) := by decide +kernel
theorem dX7_asked_40 : decode cX7_asked 40 = .ok (.aload_n 0, 1) := by decide +kernel
theorem dX7_asked_41 : decode cX7_asked 41 = .ok (.invokevirtual 95, 3) := by decide +kernel
theorem dX7_asked_44 : decode cX7_asked 44 = .ok (.if_icmp .lt 6, 3) := by decide +kernel
theorem dX7_asked_47 : decode cX7_asked 47 = .ok (.bipush (-3), 2) := by decide +kernel
theorem dX7_asked_49 : decode cX7_asked 49 = .ok (.istore_n 3, 1) := by decide +kernel
theorem dX7_asked_50 : decode cX7_asked 50 = .ok (.iload_n 3, 1) := by decide +kernel
theorem dX7_asked_51 : decode cX7_asked 51 = .ok (.ifCond .eq 9, 3) := by decide +kernel
theorem dX7_asked_54 : decode cX7_asked 54 = .ok (.aload_n 0, 1) := by decide +kernel
theorem dX7_asked_55 : decode cX7_asked 55 = .ok (.iload_n 3, 1) := by decide +kernel
theorem dX7_asked_56 : decode cX7_asked 56 = .ok (.invokevirtual 150, 3) := by decide +kernel
theorem dX7_asked_59 : decode cX7_asked 59 = .ok (.lreturn, 1) := by decide +kernel
theorem dX7_asked_60 : decode cX7_asked 60 = .ok (.aload_n 0, 1) := by decide +kernel
theorem dX7_asked_61 : decode cX7_asked 61 = .ok (.iload_n 1, 1) := by decide +kernel
theorem dX7_asked_62 : decode cX7_asked 62 = .ok (.iload_n 2, 1) := by decide +kernel
theorem dX7_asked_63 : decode cX7_asked 63 = .ok (.invokevirtual 292, 3) := by decide +kernel
theorem dX7_asked_66 : decode cX7_asked 66 = .ok (.lstore 4, 2) := by decide +kernel
theorem dX7_asked_68 : decode cX7_asked 68 = .ok (.aload_n 0, 1) := by decide +kernel
theorem dX7_asked_69 : decode cX7_asked 69 = .ok (.iload_n 1, 1) := by decide +kernel
theorem dX7_asked_70 : decode cX7_asked 70 = .ok (.iload_n 2, 1) := by decide +kernel
theorem dX7_asked_71 : decode cX7_asked 71 = .ok (.ineg, 1) := by decide +kernel
theorem dX7_asked_72 : decode cX7_asked 72 = .ok (.invokevirtual 292, 3) := by decide +kernel
theorem dX7_asked_75 : decode cX7_asked 75 = .ok (.lstore 6, 2) := by decide +kernel
theorem dX7_asked_77 : decode cX7_asked 77 = .ok (.lload 4, 2) := by decide +kernel
theorem dX7_asked_79 : decode cX7_asked 79 = .ok (.lload 6, 2) := by decide +kernel
theorem dX7_asked_81 : decode cX7_asked 81 = .ok (.ladd, 1) := by decide +kernel
theorem dX7_asked_82 : decode cX7_asked 82 = .ok (.ldc2_w 295, 3) := by decide +kernel
theorem dX7_asked_85 : decode cX7_asked 85 = .ok (.aload_n 0, 1) := by decide +kernel
theorem dX7_asked_86 : decode cX7_asked 86 = .ok (.iload_n 1, 1) := by decide +kernel
theorem dX7_asked_87 : decode cX7_asked 87 = .ok (.iconst 0, 1) := by decide +kernel
theorem dX7_asked_88 : decode cX7_asked 88 = .ok (.invokevirtual 292, 3) := by decide +kernel
theorem dX7_asked_91 : decode cX7_asked 91 = .ok (.lmul, 1) := by decide +kernel
theorem dX7_asked_92 : decode cX7_asked 92 = .ok (.lsub, 1) := by decide +kernel
theorem dX7_asked_93 : decode cX7_asked 93 = .ok (.lreturn, 1) := by decide +kernel
theorem dX7_image_0 : decode cX7_image 0 = .ok (.iconst 0, 1) := by decide +kernel
theorem dX7_image_1 : decode cX7_image 1 = .ok (.istore_n 1, 1) := by decide +kernel
theorem dX7_image_2 : decode cX7_image 2 = .ok (.iload_n 1, 1) := by decide +kernel
theorem dX7_image_3 : decode cX7_image 3 = .ok (.bipush 12, 2) := by decide +kernel
theorem dX7_image_5 : decode cX7_image 5 = .ok (.if_icmp .ge 36, 3) := by decide +kernel
theorem dX7_image_8 : decode cX7_image 8 = .ok (.aload_n 0, 1) := by decide +kernel
theorem dX7_image_9 : decode cX7_image 9 = .ok (.getfield 70, 3) := by decide +kernel
theorem dX7_image_12 : decode cX7_image 12 = .ok (.iload_n 1, 1) := by decide +kernel
theorem dX7_image_13 : decode cX7_image 13 = .ok (.aload_n 0, 1) := by decide +kernel
theorem dX7_image_14 : decode cX7_image 14 = .ok (.getfield 13, 3) := by decide +kernel
theorem dX7_image_17 : decode cX7_image 17 = .ok (.iload_n 1, 1) := by decide +kernel
theorem dX7_image_18 : decode cX7_image 18 = .ok (.iaload, 1) := by decide +kernel
theorem dX7_image_19 : decode cX7_image 19 = .ok (.iastore, 1) := by decide +kernel
theorem dX7_image_20 : decode cX7_image 20 = .ok (.aload_n 0, 1) := by decide +kernel
theorem dX7_image_21 : decode cX7_image 21 = .ok (.getfield 70, 3) := by decide +kernel
theorem dX7_image_24 : decode cX7_image 24 = .ok (.bipush 12, 2) := by decide +kernel
theorem dX7_image_26 : decode cX7_image 26 = .ok (.iload_n 1, 1) := by decide +kernel
theorem dX7_image_27 : decode cX7_image 27 = .ok (.iadd, 1) := by decide +kernel
theorem dX7_image_28 : decode cX7_image 28 = .ok (.aload_n 0, 1) := by decide +kernel
theorem dX7_image_29 : decode cX7_image 29 = .ok (.getfield 16, 3) := by decide +kernel
theorem dX7_image_32 : decode cX7_image 32 = .ok (.iload_n 1, 1) := by decide +kernel
theorem dX7_image_33 : decode cX7_image 33 = .ok (.iaload, 1) := by decide +kernel
theorem dX7_image_34 : decode cX7_image 34 = .ok (.iastore, 1) := by decide +kernel
theorem dX7_image_35 : decode cX7_image 35 = .ok (.iinc 1 1, 3) := by decide +kernel
theorem dX7_image_38 : decode cX7_image 38 = .ok (.goto (-36), 3) := by decide +kernel
theorem dX7_image_41 : decode cX7_image 41 = .ok (.iconst 0, 1) := by decide +kernel
theorem dX7_image_42 : decode cX7_image 42 = .ok (.istore_n 1, 1) := by decide +kernel
theorem dX7_image_43 : decode cX7_image 43 = .ok (.iload_n 1, 1) := by decide +kernel
theorem dX7_image_44 : decode cX7_image 44 = .ok (.iconst 5, 1) := by decide +kernel
theorem dX7_image_45 : decode cX7_image 45 = .ok (.if_icmp .ge 24, 3) := by decide +kernel
theorem dX7_image_48 : decode cX7_image 48 = .ok (.aload_n 0, 1) := by decide +kernel
theorem dX7_image_49 : decode cX7_image 49 = .ok (.getfield 70, 3) := by decide +kernel
theorem dX7_image_52 : decode cX7_image 52 = .ok (.bipush 24, 2) := by decide +kernel
theorem dX7_image_54 : decode cX7_image 54 = .ok (.iload_n 1, 1) := by decide +kernel
theorem dX7_image_55 : decode cX7_image 55 = .ok (.iadd, 1) := by decide +kernel
theorem dX7_image_56 : decode cX7_image 56 = .ok (.aload_n 0, 1) := by decide +kernel
theorem dX7_image_57 : decode cX7_image 57 = .ok (.getfield 19, 3) := by decide +kernel
theorem dX7_image_60 : decode cX7_image 60 = .ok (.iload_n 1, 1) := by decide +kernel
theorem dX7_image_61 : decode cX7_image 61 = .ok (.iaload, 1) := by decide +kernel
theorem dX7_image_62 : decode cX7_image 62 = .ok (.iastore, 1) := by decide +kernel
theorem dX7_image_63 : decode cX7_image 63 = .ok (.iinc 1 1, 3) := by decide +kernel
theorem dX7_image_66 : decode cX7_image 66 = .ok (.goto (-23), 3) := by decide +kernel
theorem dX7_image_69 : decode cX7_image 69 = .ok (.aload_n 0, 1) := by decide +kernel
theorem dX7_image_70 : decode cX7_image 70 = .ok (.aload_n 0, 1) := by decide +kernel
theorem dX7_image_71 : decode cX7_image 71 = .ok (.getfield 83, 3) := by decide +kernel
theorem dX7_image_74 : decode cX7_image 74 = .ok (.putfield 297, 3) := by decide +kernel
theorem dX7_image_77 : decode cX7_image 77 = .ok (.aload_n 0, 1) := by decide +kernel
theorem dX7_image_78 : decode cX7_image 78 = .ok (.iconst 1, 1) := by decide +kernel
theorem dX7_image_79 : decode cX7_image 79 = .ok (.putfield 300, 3) := by decide +kernel
theorem dX7_image_82 : decode cX7_image 82 = .ok (.aload_n 0, 1) := by decide +kernel
theorem dX7_image_83 : decode cX7_image 83 = .ok (.getfield 83, 3) := by decide +kernel
theorem dX7_image_86 : decode cX7_image 86 = .ok (.ireturn, 1) := by decide +kernel
theorem dX7_restore_0 : decode cX7_restore 0 = .ok (.aload_n 0, 1) := by decide +kernel
theorem dX7_restore_1 : decode cX7_restore 1 = .ok (.getfield 300, 3) := by decide +kernel
theorem dX7_restore_4 : decode cX7_restore 4 = .ok (.ifCond .ne 10, 3) := by decide +kernel
theorem dX7_restore_7 : decode cX7_restore 7 = .ok (.aload_n 0, 1) := by decide +kernel
theorem dX7_restore_8 : decode cX7_restore 8 = .ok (.bipush (-3), 2) := by decide +kernel
theorem dX7_restore_10 : decode cX7_restore 10 = .ok (.invokevirtual 79, 3) := by decide +kernel
theorem dX7_restore_13 : decode cX7_restore 13 = .ok (.ireturn, 1) := by decide +kernel
theorem dX7_restore_14 : decode cX7_restore 14 = .ok (.iconst 0, 1) := by decide +kernel
theorem dX7_restore_15 : decode cX7_restore 15 = .ok (.istore_n 1, 1) := by decide +kernel
theorem dX7_restore_16 : decode cX7_restore 16 = .ok (.iload_n 1, 1) := by decide +kernel
theorem dX7_restore_17 : decode cX7_restore 17 = .ok (.bipush 12, 2) := by decide +kernel
theorem dX7_restore_19 : decode cX7_restore 19 = .ok (.if_icmp .ge 36, 3) := by decide +kernel
theorem dX7_restore_22 : decode cX7_restore 22 = .ok (.aload_n 0, 1) := by decide +kernel
theorem dX7_restore_23 : decode cX7_restore 23 = .ok (.getfield 13, 3) := by decide +kernel
theorem dX7_restore_26 : decode cX7_restore 26 = .ok (.iload_n 1, 1) := by decide +kernel
theorem dX7_restore_27 : decode cX7_restore 27 = .ok (.aload_n 0, 1) := by decide +kernel
theorem dX7_restore_28 : decode cX7_restore 28 = .ok (.getfield 70, 3) := by decide +kernel
theorem dX7_restore_31 : decode cX7_restore 31 = .ok (.iload_n 1, 1) := by decide +kernel
theorem dX7_restore_32 : decode cX7_restore 32 = .ok (.iaload, 1) := by decide +kernel
theorem dX7_restore_33 : decode cX7_restore 33 = .ok (.iastore, 1) := by decide +kernel
theorem dX7_restore_34 : decode cX7_restore 34 = .ok (.aload_n 0, 1) := by decide +kernel
theorem dX7_restore_35 : decode cX7_restore 35 = .ok (.getfield 16, 3) := by decide +kernel
theorem dX7_restore_38 : decode cX7_restore 38 = .ok (.iload_n 1, 1) := by decide +kernel
theorem dX7_restore_39 : decode cX7_restore 39 = .ok (.aload_n 0, 1) := by decide +kernel
theorem dX7_restore_40 : decode cX7_restore 40 = .ok (.getfield 70, 3) := by decide +kernel
theorem dX7_restore_43 : decode cX7_restore 43 = .ok (.bipush 12, 2) := by decide +kernel
theorem dX7_restore_45 : decode cX7_restore 45 = .ok (.iload_n 1, 1) := by decide +kernel
theorem dX7_restore_46 : decode cX7_restore 46 = .ok (.iadd, 1) := by decide +kernel
theorem dX7_restore_47 : decode cX7_restore 47 = .ok (.iaload, 1) := by decide +kernel
theorem dX7_restore_48 : decode cX7_restore 48 = .ok (.iastore, 1) := by decide +kernel
theorem dX7_restore_49 : decode cX7_restore 49 = .ok (.iinc 1 1, 3) := by decide +kernel
theorem dX7_restore_52 : decode cX7_restore 52 = .ok (.goto (-36), 3) := by decide +kernel
theorem dX7_restore_55 : decode cX7_restore 55 = .ok (.iconst 0, 1) := by decide +kernel
theorem dX7_restore_56 : decode cX7_restore 56 = .ok (.istore_n 1, 1) := by decide +kernel
theorem dX7_restore_57 : decode cX7_restore 57 = .ok (.iload_n 1, 1) := by decide +kernel
theorem dX7_restore_58 : decode cX7_restore 58 = .ok (.iconst 5, 1) := by decide +kernel
theorem dX7_restore_59 : decode cX7_restore 59 = .ok (.if_icmp .ge 24, 3) := by decide +kernel
theorem dX7_restore_62 : decode cX7_restore 62 = .ok (.aload_n 0, 1) := by decide +kernel
theorem dX7_restore_63 : decode cX7_restore 63 = .ok (.getfield 19, 3) := by decide +kernel
theorem dX7_restore_66 : decode cX7_restore 66 = .ok (.iload_n 1, 1) := by decide +kernel
theorem dX7_restore_67 : decode cX7_restore 67 = .ok (.aload_n 0, 1) := by decide +kernel
theorem dX7_restore_68 : decode cX7_restore 68 = .ok (.getfield 70, 3) := by decide +kernel
theorem dX7_restore_71 : decode cX7_restore 71 = .ok (.bipush 24, 2) := by decide +kernel
theorem dX7_restore_73 : decode cX7_restore 73 = .ok (.iload_n 1, 1) := by decide +kernel
theorem dX7_restore_74 : decode cX7_restore 74 = .ok (.iadd, 1) := by decide +kernel
theorem dX7_restore_75 : decode cX7_restore 75 = .ok (.iaload, 1) := by decide +kernel
theorem dX7_restore_76 : decode cX7_restore 76 = .ok (.iastore, 1) := by decide +kernel
theorem dX7_restore_77 : decode cX7_restore 77 = .ok (.iinc 1 1, 3) := by decide +kernel
theorem dX7_restore_80 : decode cX7_restore 80 = .ok (.goto (-23), 3) := by decide +kernel
theorem dX7_restore_83 : decode cX7_restore 83 = .ok (.aload_n 0, 1) := by decide +kernel
theorem dX7_restore_84 : decode cX7_restore 84 = .ok (.aload_n 0, 1) := by decide +kernel
theorem dX7_restore_85 : decode cX7_restore 85 = .ok (.getfield 297, 3) := by decide +kernel
theorem dX7_restore_88 : decode cX7_restore 88 = .ok (.putfield 83, 3) := by decide +kernel
theorem dX7_restore_91 : decode cX7_restore 91 = .ok (.aload_n 0, 1) := by decide +kernel
theorem dX7_restore_92 : decode cX7_restore 92 = .ok (.getfield 83, 3) := by decide +kernel
theorem dX7_restore_95 : decode cX7_restore 95 = .ok (.ireturn, 1) := by decide +kernel
theorem dX7_count_0 : decode cX7_count 0 = .ok (.iload_n 1, 1) := by decide +kernel
theorem dX7_count_1 : decode cX7_count 1 = .ok (.bipush 11, 2) := by decide +kernel
theorem dX7_count_3 : decode cX7_count 3 = .ok (.bipush 16, 2) := by decide +kernel
theorem dX7_count_5 : decode cX7_count 5 = .ok (.invokestatic 87, 3) := by decide +kernel
theorem dX7_count_8 : decode cX7_count 8 = .ok (.ifCond .eq 13, 3) := by decide +kernel
theorem dX7_count_11 : decode cX7_count 11 = .ok (.aload_n 0, 1) := by decide +kernel
theorem dX7_count_12 : decode cX7_count 12 = .ok (.getfield 7, 3) := by decide +kernel
theorem dX7_count_15 : decode cX7_count 15 = .ok (.iload_n 1, 1) := by decide +kernel
theorem dX7_count_16 : decode cX7_count 16 = .ok (.bipush 10, 2) := by decide +kernel
theorem dX7_count_18 : decode cX7_count 18 = .ok (.isub, 1) := by decide +kernel
theorem dX7_count_19 : decode cX7_count 19 = .ok (.iaload, 1) := by decide +kernel
theorem dX7_count_20 : decode cX7_count 20 = .ok (.ireturn, 1) := by decide +kernel
theorem dX7_count_21 : decode cX7_count 21 = .ok (.iconst 0, 1) := by decide +kernel
theorem dX7_count_22 : decode cX7_count 22 = .ok (.istore_n 2, 1) := by decide +kernel
theorem dX7_count_23 : decode cX7_count 23 = .ok (.iload_n 1, 1) := by decide +kernel
theorem dX7_count_24 : decode cX7_count 24 = .ok (.tableswitch 63 0 3 #[32, 37, 53, 58], 32) := by decide +kernel
theorem dX7_count_56 : decode cX7_count 56 = .ok (.aload_n 0, 1) := by decide +kernel
theorem dX7_count_57 : decode cX7_count 57 = .ok (.getfield 83, 3) := by decide +kernel
theorem dX7_count_60 : decode cX7_count 60 = .ok (.ireturn, 1) := by decide +kernel
theorem dX7_count_61 : decode cX7_count 61 = .ok (.aload_n 0, 1) := by decide +kernel
theorem dX7_count_62 : decode cX7_count 62 = .ok (.invokevirtual 191, 3) := by decide +kernel
theorem dX7_count_65 : decode cX7_count 65 = .ok (.ifCond .eq 10, 3) := by decide +kernel
theorem dX7_count_68 : decode cX7_count 68 = .ok (.aload_n 0, 1) := by decide +kernel
theorem dX7_count_69 : decode cX7_count 69 = .ok (.invokevirtual 95, 3) := by decide +kernel
theorem dX7_count_72 : decode cX7_count 72 = .ok (.goto 4, 3) := by decide +kernel
theorem dX7_count_75 : decode cX7_count 75 = .ok (.iconst 0, 1) := by decide +kernel
theorem dX7_count_76 : decode cX7_count 76 = .ok (.ireturn, 1) := by decide +kernel
theorem dX7_count_77 : decode cX7_count 77 = .ok (.aload_n 0, 1) := by decide +kernel
theorem dX7_count_78 : decode cX7_count 78 = .ok (.getfield 99, 3) := by decide +kernel
theorem dX7_count_81 : decode cX7_count 81 = .ok (.ireturn, 1) := by decide +kernel
theorem dX7_count_82 : decode cX7_count 82 = .ok (.aload_n 0, 1) := by decide +kernel
theorem dX7_count_83 : decode cX7_count 83 = .ok (.getfield 210, 3) := by decide +kernel
theorem dX7_count_86 : decode cX7_count 86 = .ok (.ireturn, 1) := by decide +kernel
theorem dX7_count_87 : decode cX7_count 87 = .ok (.iload_n 1, 1) := by decide +kernel
theorem dX7_count_88 : decode cX7_count 88 = .ok (.iconst 4, 1) := by decide +kernel
theorem dX7_count_89 : decode cX7_count 89 = .ok (.bipush 9, 2) := by decide +kernel
theorem dX7_count_91 : decode cX7_count 91 = .ok (.invokestatic 87, 3) := by decide +kernel
theorem dX7_count_94 : decode cX7_count 94 = .ok (.ifCond .ne 6, 3) := by decide +kernel
theorem dX7_count_97 : decode cX7_count 97 = .ok (.bipush (-9), 2) := by decide +kernel
theorem dX7_count_99 : decode cX7_count 99 = .ok (.ireturn, 1) := by decide +kernel
theorem dX7_count_100 : decode cX7_count 100 = .ok (.iconst 0, 1) := by decide +kernel
theorem dX7_count_101 : decode cX7_count 101 = .ok (.istore_n 3, 1) := by decide +kernel
theorem dX7_count_102 : decode cX7_count 102 = .ok (.iload_n 3, 1) := by decide +kernel
theorem dX7_count_103 : decode cX7_count 103 = .ok (.aload_n 0, 1) := by decide +kernel
theorem dX7_count_104 : decode cX7_count 104 = .ok (.getfield 83, 3) := by decide +kernel
theorem dX7_count_107 : decode cX7_count 107 = .ok (.if_icmp .ge 29, 3) := by decide +kernel
theorem dX7_count_110 : decode cX7_count 110 = .ok (.iload_n 2, 1) := by decide +kernel
theorem dX7_count_111 : decode cX7_count 111 = .ok (.aload_n 0, 1) := by decide +kernel
theorem dX7_count_112 : decode cX7_count 112 = .ok (.getfield 16, 3) := by decide +kernel
theorem dX7_count_115 : decode cX7_count 115 = .ok (.iload_n 3, 1) := by decide +kernel
theorem dX7_count_116 : decode cX7_count 116 = .ok (.iaload, 1) := by decide +kernel
theorem dX7_count_117 : decode cX7_count 117 = .ok (.iload_n 1, 1) := by decide +kernel
theorem dX7_count_118 : decode cX7_count 118 = .ok (.iconst 4, 1) := by decide +kernel
theorem dX7_count_119 : decode cX7_count 119 = .ok (.isub, 1) := by decide +kernel
theorem dX7_count_120 : decode cX7_count 120 = .ok (.if_icmp .ne 7, 3) := by decide +kernel
theorem dX7_count_123 : decode cX7_count 123 = .ok (.iconst 1, 1) := by decide +kernel
theorem dX7_count_124 : decode cX7_count 124 = .ok (.goto 4, 3) := by decide +kernel
theorem dX7_count_127 : decode cX7_count 127 = .ok (.iconst 0, 1) := by decide +kernel
theorem dX7_count_128 : decode cX7_count 128 = .ok (.iadd, 1) := by decide +kernel
theorem dX7_count_129 : decode cX7_count 129 = .ok (.istore_n 2, 1) := by decide +kernel
theorem dX7_count_130 : decode cX7_count 130 = .ok (.iinc 3 1, 3) := by decide +kernel
theorem dX7_count_133 : decode cX7_count 133 = .ok (.goto (-31), 3) := by decide +kernel
theorem dX7_count_136 : decode cX7_count 136 = .ok (.iload_n 2, 1) := by decide +kernel
theorem dX7_count_137 : decode cX7_count 137 = .ok (.ireturn, 1) := by decide +kernel
