theorem dX6_init_0 : decode cX6_init 0 = .ok (.aload_n 0, 1) := by decide +kernel
theorem dX6_init_1 : decode cX6_init 1 = .ok (.invokespecial 3, 3) := by decide +kernel
theorem dX6_init_4 : decode cX6_init 4 = .ok (.sipush 4096, 3) := by decide +kernel
theorem dX6_init_7 : decode cX6_init 7 = .ok (.newarray .long, 2) := by decide +kernel
theorem dX6_init_9 : decode cX6_init 9 = .ok (.astore_n 1, 1) := by decide +kernel
theorem dX6_init_10 : decode cX6_init 10 = .ok (.aload_n 0, 1) := by decide +kernel
theorem dX6_init_11 : decode cX6_init 11 = .ok (.new 9, 3) := by decide +kernel
theorem dX6_init_14 : decode cX6_init 14 = .ok (.dup, 1) := by decide +kernel
theorem dX6_init_15 : decode cX6_init 15 = .ok (.invokespecial 11, 3) := by decide +kernel
theorem dX6_init_18 : decode cX6_init 18 = .ok (.putfield 12, 3) := by decide +kernel
theorem dX6_init_21 : decode cX6_init 21 = .ok (.aload_n 0, 1) := by decide +kernel
theorem dX6_init_22 : decode cX6_init 22 = .ok (.new 9, 3) := by decide +kernel
theorem dX6_init_25 : decode cX6_init 25 = .ok (.dup, 1) := by decide +kernel
theorem dX6_init_26 : decode cX6_init 26 = .ok (.invokespecial 11, 3) := by decide +kernel
theorem dX6_init_29 : decode cX6_init 29 = .ok (.putfield 16, 3) := by decide +kernel
theorem dX6_init_32 : decode cX6_init 32 = .ok (.aload_n 0, 1) := by decide +kernel
theorem dX6_init_33 : decode cX6_init 33 = .ok (.new 19, 3) := by decide +kernel
theorem dX6_init_36 : decode cX6_init 36 = .ok (.dup, 1) := by decide +kernel
theorem dX6_init_37 : decode cX6_init 37 = .ok (.invokespecial 21, 3) := by decide +kernel
theorem dX6_init_40 : decode cX6_init 40 = .ok (.putfield 22, 3) := by decide +kernel
theorem dX6_init_43 : decode cX6_init 43 = .ok (.aload_n 0, 1) := by decide +kernel
theorem dX6_init_44 : decode cX6_init 44 = .ok (.bipush 6, 2) := by decide +kernel
theorem dX6_init_46 : decode cX6_init 46 = .ok (.newarray .int, 2) := by decide +kernel
theorem dX6_init_48 : decode cX6_init 48 = .ok (.putfield 26, 3) := by decide +kernel
theorem dX6_init_51 : decode cX6_init 51 = .ok (.aload_n 0, 1) := by decide +kernel
theorem dX6_init_52 : decode cX6_init 52 = .ok (.bipush 7, 2) := by decide +kernel
theorem dX6_init_54 : decode cX6_init 54 = .ok (.newarray .int, 2) := by decide +kernel
theorem dX6_init_56 : decode cX6_init 56 = .ok (.putfield 30, 3) := by decide +kernel
theorem dX6_init_59 : decode cX6_init 59 = .ok (.aload_n 0, 1) := by decide +kernel
theorem dX6_init_60 : decode cX6_init 60 = .ok (.new 33, 3) := by decide +kernel
theorem dX6_init_63 : decode cX6_init 63 = .ok (.dup, 1) := by decide +kernel
theorem dX6_init_64 : decode cX6_init 64 = .ok (.invokespecial 35, 3) := by decide +kernel
theorem dX6_init_67 : decode cX6_init 67 = .ok (.putfield 36, 3) := by decide +kernel
theorem dX6_init_70 : decode cX6_init 70 = .ok (.aload_n 0, 1) := by decide +kernel
theorem dX6_init_71 : decode cX6_init 71 = .ok (.new 33, 3) := by decide +kernel
theorem dX6_init_74 : decode cX6_init 74 = .ok (.dup, 1) := by decide +kernel
theorem dX6_init_75 : decode cX6_init 75 = .ok (.invokespecial 35, 3) := by decide +kernel
theorem dX6_init_78 : decode cX6_init 78 = .ok (.putfield 40, 3) := by decide +kernel
theorem dX6_init_81 : decode cX6_init 81 = .ok (.aload_n 0, 1) := by decide +kernel
theorem dX6_init_82 : decode cX6_init 82 = .ok (.new 43, 3) := by decide +kernel
theorem dX6_init_85 : decode cX6_init 85 = .ok (.dup, 1) := by decide +kernel
theorem dX6_init_86 : decode cX6_init 86 = .ok (.sipush 4096, 3) := by decide +kernel
theorem dX6_init_89 : decode cX6_init 89 = .ok (.newarray .long, 2) := by decide +kernel
theorem dX6_init_91 : decode cX6_init 91 = .ok (.invokespecial 45, 3) := by decide +kernel
theorem dX6_init_94 : decode cX6_init 94 = .ok (.putfield 48, 3) := by decide +kernel
theorem dX6_init_97 : decode cX6_init 97 = .ok (.aload_n 0, 1) := by decide +kernel
theorem dX6_init_98 : decode cX6_init 98 = .ok (.new 43, 3) := by decide +kernel
theorem dX6_init_101 : decode cX6_init 101 = .ok (.dup, 1) := by decide +kernel
theorem dX6_init_102 : decode cX6_init 102 = .ok (.aload_n 1, 1) := by decide +kernel
theorem dX6_init_103 : decode cX6_init 103 = .ok (.invokespecial 45, 3) := by decide +kernel
theorem dX6_init_106 : decode cX6_init 106 = .ok (.putfield 52, 3) := by decide +kernel
theorem dX6_init_109 : decode cX6_init 109 = .ok (.aload_n 0, 1) := by decide +kernel
theorem dX6_init_110 : decode cX6_init 110 = .ok (.new 55, 3) := by decide +kernel
theorem dX6_init_113 : decode cX6_init 113 = .ok (.dup, 1) := by decide +kernel
theorem dX6_init_114 : decode cX6_init 114 = .ok (.aload_n 0, 1) := by decide +kernel
theorem dX6_init_115 : decode cX6_init 115 = .ok (.getfield 48, 3) := by decide +kernel
theorem dX6_init_118 : decode cX6_init 118 = .ok (.aload_n 1, 1) := by decide +kernel
theorem dX6_init_119 : decode cX6_init 119 = .ok (.invokespecial 57, 3) := by decide +kernel
theorem dX6_init_122 : decode cX6_init 122 = .ok (.putfield 60, 3) := by decide +kernel
theorem dX6_init_125 : decode cX6_init 125 = .ok (.aload_n 0, 1) := by decide +kernel
theorem dX6_init_126 : decode cX6_init 126 = .ok (.new 64, 3) := by decide +kernel
theorem dX6_init_129 : decode cX6_init 129 = .ok (.dup, 1) := by decide +kernel
theorem dX6_init_130 : decode cX6_init 130 = .ok (.aload_n 0, 1) := by decide +kernel
theorem dX6_init_131 : decode cX6_init 131 = .ok (.getfield 48, 3) := by decide +kernel
theorem dX6_init_134 : decode cX6_init 134 = .ok (.aload_n 1, 1) := by decide +kernel
theorem dX6_init_135 : decode cX6_init 135 = .ok (.invokespecial 66, 3) := by decide +kernel
theorem dX6_init_138 : decode cX6_init 138 = .ok (.putfield 67, 3) := by decide +kernel
theorem dX6_init_141 : decode cX6_init 141 = .ok (.aload_n 0, 1) := by decide +kernel
theorem dX6_init_142 : decode cX6_init 142 = .ok (.getfield 36, 3) := by decide +kernel
theorem dX6_init_145 : decode cX6_init 145 = .ok (.aload_n 0, 1) := by decide +kernel
theorem dX6_init_146 : decode cX6_init 146 = .ok (.getfield 12, 3) := by decide +kernel
theorem dX6_init_149 : decode cX6_init 149 = .ok (.invokevirtual 71, 3) := by decide +kernel
theorem dX6_init_152 : decode cX6_init 152 = .ok (.return_, 1) := by decide +kernel
theorem dX6_sort_0 : decode cX6_sort 0 = .ok (.iload_n 1, 1) := by decide +kernel
theorem dX6_sort_1 : decode cX6_sort 1 = .ok (.iload_n 2, 1) := by decide +kernel
theorem dX6_sort_2 : decode cX6_sort 2 = .ok (.iload_n 3, 1) := by decide +kernel
theorem dX6_sort_3 : decode cX6_sort 3 = .ok (.invokestatic 75, 3) := by decide +kernel
theorem dX6_sort_6 : decode cX6_sort 6 = .ok (.istore 4, 2) := by decide +kernel
theorem dX6_sort_8 : decode cX6_sort 8 = .ok (.iload 4, 2) := by decide +kernel
theorem dX6_sort_10 : decode cX6_sort 10 = .ok (.ifCond .eq 10, 3) := by decide +kernel
theorem dX6_sort_13 : decode cX6_sort 13 = .ok (.aload_n 0, 1) := by decide +kernel
theorem dX6_sort_14 : decode cX6_sort 14 = .ok (.iload 4, 2) := by decide +kernel
theorem dX6_sort_16 : decode cX6_sort 16 = .ok (.invokevirtual 79, 3) := by decide +kernel
theorem dX6_sort_19 : decode cX6_sort 19 = .ok (.ireturn, 1) := by decide +kernel
theorem dX6_sort_20 : decode cX6_sort 20 = .ok (.aload_n 0, 1) := by decide +kernel
theorem dX6_sort_21 : decode cX6_sort 21 = .ok (.getfield 12, 3) := by decide +kernel
theorem dX6_sort_24 : decode cX6_sort 24 = .ok (.getfield 83, 3) := by decide +kernel
theorem dX6_sort_27 : decode cX6_sort 27 = .ok (.iload_n 1, 1) := by decide +kernel
theorem dX6_sort_28 : decode cX6_sort 28 = .ok (.iload_n 2, 1) := by decide +kernel
theorem dX6_sort_29 : decode cX6_sort 29 = .ok (.iastore, 1) := by decide +kernel
theorem dX6_sort_30 : decode cX6_sort 30 = .ok (.aload_n 0, 1) := by decide +kernel
theorem dX6_sort_31 : decode cX6_sort 31 = .ok (.getfield 12, 3) := by decide +kernel
theorem dX6_sort_34 : decode cX6_sort 34 = .ok (.getfield 86, 3) := by decide +kernel
theorem dX6_sort_37 : decode cX6_sort 37 = .ok (.iload_n 1, 1) := by decide +kernel
theorem dX6_sort_38 : decode cX6_sort 38 = .ok (.iload_n 3, 1) := by decide +kernel
theorem dX6_sort_39 : decode cX6_sort 39 = .ok (.iastore, 1) := by decide +kernel
theorem dX6_sort_40 : decode cX6_sort 40 = .ok (.aload_n 0, 1) := by decide +kernel
theorem dX6_sort_41 : decode cX6_sort 41 = .ok (.invokevirtual 89, 3) := by decide +kernel
theorem dX6_sort_44 : decode cX6_sort 44 = .ok (.iconst 1, 1) := by decide +kernel
theorem dX6_sort_45 : decode cX6_sort 45 = .ok (.ireturn, 1) := by decide +kernel
theorem dX6_person_0 : decode cX6_person 0 = .ok (.iload_n 1, 1) := by decide +kernel
theorem dX6_person_1 : decode cX6_person 1 = .ok (.invokestatic 92, 3) := by decide +kernel
theorem dX6_person_4 : decode cX6_person 4 = .ok (.ifCond .ne 9, 3) := by decide +kernel
theorem dX6_person_7 : decode cX6_person 7 = .ok (.aload_n 0, 1) := by decide +kernel
theorem dX6_person_8 : decode cX6_person 8 = .ok (.iconst (-1), 1) := by decide +kernel
theorem dX6_person_9 : decode cX6_person 9 = .ok (.invokevirtual 79, 3) := by decide +kernel
theorem dX6_person_12 : decode cX6_person 12 = .ok (.ireturn, 1) := by decide +kernel
theorem dX6_person_13 : decode cX6_person 13 = .ok (.aload_n 0, 1) := by decide +kernel
theorem dX6_person_14 : decode cX6_person 14 = .ok (.getfield 12, 3) := by decide +kernel
theorem dX6_person_17 : decode cX6_person 17 = .ok (.getfield 96, 3) := by decide +kernel
theorem dX6_person_20 : decode cX6_person 20 = .ok (.bipush 12, 2) := by decide +kernel
theorem dX6_person_22 : decode cX6_person 22 = .ok (.if_icmp .lt 10, 3) := by decide +kernel
theorem dX6_person_25 : decode cX6_person 25 = .ok (.aload_n 0, 1) := by decide +kernel
theorem dX6_person_26 : decode cX6_person 26 = .ok (.bipush (-6), 2) := by decide +kernel
theorem dX6_person_28 : decode cX6_person 28 = .ok (.invokevirtual 79, 3) := by decide +kernel
theorem dX6_person_31 : decode cX6_person 31 = .ok (.ireturn, 1) := by decide +kernel
theorem dX6_person_32 : decode cX6_person 32 = .ok (.aload_n 0, 1) := by decide +kernel
theorem dX6_person_33 : decode cX6_person 33 = .ok (.getfield 12, 3) := by decide +kernel
theorem dX6_person_36 : decode cX6_person 36 = .ok (.iload_n 1, 1) := by decide +kernel
theorem dX6_person_37 : decode cX6_person 37 = .ok (.invokevirtual 100, 3) := by decide +kernel
theorem dX6_person_40 : decode cX6_person 40 = .ok (.aload_n 0, 1) := by decide +kernel
theorem dX6_person_41 : decode cX6_person 41 = .ok (.invokevirtual 89, 3) := by decide +kernel
theorem dX6_person_44 : decode cX6_person 44 = .ok (.aload_n 0, 1) := by decide +kernel
theorem dX6_person_45 : decode cX6_person 45 = .ok (.getfield 12, 3) := by decide +kernel
theorem dX6_person_48 : decode cX6_person 48 = .ok (.getfield 96, 3) := by decide +kernel
theorem dX6_person_51 : decode cX6_person 51 = .ok (.iconst 1, 1) := by decide +kernel
theorem dX6_person_52 : decode cX6_person 52 = .ok (.isub, 1) := by decide +kernel
theorem dX6_person_53 : decode cX6_person 53 = .ok (.ireturn, 1) := by decide +kernel
theorem dX6_takeBack_0 : decode cX6_takeBack 0 = .ok (.aload_n 0, 1) := by decide +kernel
theorem dX6_takeBack_1 : decode cX6_takeBack 1 = .ok (.getfield 12, 3) := by decide +kernel
theorem dX6_takeBack_4 : decode cX6_takeBack 4 = .ok (.getfield 96, 3) := by decide +kernel
theorem dX6_takeBack_7 : decode cX6_takeBack 7 = .ok (.ifCond .ne 10, 3) := by decide +kernel
theorem dX6_takeBack_10 : decode cX6_takeBack 10 = .ok (.aload_n 0, 1) := by decide +kernel
theorem dX6_takeBack_11 : decode cX6_takeBack 11 = .ok (.bipush (-3), 2) := by decide +kernel
theorem dX6_takeBack_13 : decode cX6_takeBack 13 = .ok (.invokevirtual 79, 3) := by decide +kernel
theorem dX6_takeBack_16 : decode cX6_takeBack 16 = .ok (.ireturn, 1) := by decide +kernel
theorem dX6_takeBack_17 : decode cX6_takeBack 17 = .ok (.aload_n 0, 1) := by decide +kernel
theorem dX6_takeBack_18 : decode cX6_takeBack 18 = .ok (.getfield 12, 3) := by decide +kernel
theorem dX6_takeBack_21 : decode cX6_takeBack 21 = .ok (.dup, 1) := by decide +kernel
theorem dX6_takeBack_22 : decode cX6_takeBack 22 = .ok (.getfield 96, 3) := by decide +kernel
theorem dX6_takeBack_25 : decode cX6_takeBack 25 = .ok (.iconst 1, 1) := by decide +kernel
theorem dX6_takeBack_26 : decode cX6_takeBack 26 = .ok (.isub, 1) := by decide +kernel
theorem dX6_takeBack_27 : decode cX6_takeBack 27 = .ok (.putfield 96, 3) := by decide +kernel
theorem dX6_takeBack_30 : decode cX6_takeBack 30 = .ok (.aload_n 0, 1) := by decide +kernel
theorem dX6_takeBack_31 : decode cX6_takeBack 31 = .ok (.invokevirtual 89, 3) := by decide +kernel
theorem dX6_takeBack_34 : decode cX6_takeBack 34 = .ok (.aload_n 0, 1) := by decide +kernel
theorem dX6_takeBack_35 : decode cX6_takeBack 35 = .ok (.getfield 12, 3) := by decide +kernel
theorem dX6_takeBack_38 : decode cX6_takeBack 38 = .ok (.getfield 96, 3) := by decide +kernel
theorem dX6_takeBack_41 : decode cX6_takeBack 41 = .ok (.ireturn, 1) := by decide +kernel
theorem dX6_set_0 : decode cX6_set 0 = .ok (.iload_n 1, 1) := by decide +kernel
theorem dX6_set_1 : decode cX6_set 1 = .ok (.ifCond .lt 8, 3) := by decide +kernel
theorem dX6_set_4 : decode cX6_set 4 = .ok (.iload_n 1, 1) := by decide +kernel
theorem dX6_set_5 : decode cX6_set 5 = .ok (.iconst 5, 1) := by decide +kernel
theorem dX6_set_6 : decode cX6_set 6 = .ok (.if_icmp .lt 10, 3) := by decide +kernel
theorem dX6_set_9 : decode cX6_set 9 = .ok (.aload_n 0, 1) := by decide +kernel
theorem dX6_set_10 : decode cX6_set 10 = .ok (.bipush (-2), 2) := by decide +kernel
theorem dX6_set_12 : decode cX6_set 12 = .ok (.invokevirtual 79, 3) := by decide +kernel
theorem dX6_set_15 : decode cX6_set 15 = .ok (.ireturn, 1) := by decide +kernel
theorem dX6_set_16 : decode cX6_set 16 = .ok (.iload_n 2, 1) := by decide +kernel
theorem dX6_set_17 : decode cX6_set 17 = .ok (.getstatic 104, 3) := by decide +kernel
theorem dX6_set_20 : decode cX6_set 20 = .ok (.iload_n 1, 1) := by decide +kernel
theorem dX6_set_21 : decode cX6_set 21 = .ok (.iaload, 1) := by decide +kernel
theorem dX6_set_22 : decode cX6_set 22 = .ok (.if_icmp .ge 10, 3) := by decide +kernel
theorem dX6_set_25 : decode cX6_set 25 = .ok (.aload_n 0, 1) := by decide +kernel
theorem dX6_set_26 : decode cX6_set 26 = .ok (.bipush (-4), 2) := by decide +kernel
theorem dX6_set_28 : decode cX6_set 28 = .ok (.invokevirtual 79, 3) := by decide +kernel
theorem dX6_set_31 : decode cX6_set 31 = .ok (.ireturn, 1) := by decide +kernel
theorem dX6_set_32 : decode cX6_set 32 = .ok (.iload_n 2, 1) := by decide +kernel
theorem dX6_set_33 : decode cX6_set 33 = .ok (.getstatic 107, 3) := by decide +kernel
theorem dX6_set_36 : decode cX6_set 36 = .ok (.iload_n 1, 1) := by decide +kernel
theorem dX6_set_37 : decode cX6_set 37 = .ok (.iaload, 1) := by decide +kernel
theorem dX6_set_38 : decode cX6_set 38 = .ok (.if_icmp .le 10, 3) := by decide +kernel
theorem dX6_set_41 : decode cX6_set 41 = .ok (.aload_n 0, 1) := by decide +kernel
theorem dX6_set_42 : decode cX6_set 42 = .ok (.bipush (-6), 2) := by decide +kernel
theorem dX6_set_44 : decode cX6_set 44 = .ok (.invokevirtual 79, 3) := by decide +kernel
theorem dX6_set_47 : decode cX6_set 47 = .ok (.ireturn, 1) := by decide +kernel
theorem dX6_set_48 : decode cX6_set 48 = .ok (.aload_n 0, 1) := by decide +kernel
theorem dX6_set_49 : decode cX6_set 49 = .ok (.getfield 12, 3) := by decide +kernel
theorem dX6_set_52 : decode cX6_set 52 = .ok (.getfield 110, 3) := by decide +kernel
theorem dX6_set_55 : decode cX6_set 55 = .ok (.iload_n 1, 1) := by decide +kernel
theorem dX6_set_56 : decode cX6_set 56 = .ok (.iaload, 1) := by decide +kernel
theorem dX6_set_57 : decode cX6_set 57 = .ok (.istore_n 3, 1) := by decide +kernel
theorem dX6_set_58 : decode cX6_set 58 = .ok (.aload_n 0, 1) := by decide +kernel
theorem dX6_set_59 : decode cX6_set 59 = .ok (.getfield 12, 3) := by decide +kernel
theorem dX6_set_62 : decode cX6_set 62 = .ok (.getfield 110, 3) := by decide +kernel
theorem dX6_set_65 : decode cX6_set 65 = .ok (.iload_n 1, 1) := by decide +kernel
theorem dX6_set_66 : decode cX6_set 66 = .ok (.iload_n 2, 1) := by decide +kernel
theorem dX6_set_67 : decode cX6_set 67 = .ok (.iastore, 1) := by decide +kernel
theorem dX6_set_68 : decode cX6_set 68 = .ok (.aload_n 0, 1) := by decide +kernel
theorem dX6_set_69 : decode cX6_set 69 = .ok (.invokevirtual 89, 3) := by decide +kernel
theorem dX6_set_72 : decode cX6_set 72 = .ok (.iload_n 3, 1) := by decide +kernel
theorem dX6_set_73 : decode cX6_set 73 = .ok (.ireturn, 1) := by decide +kernel
theorem dX6_feed_0 : decode cX6_feed 0 = .ok (.iload_n 1, 1) := by decide +kernel
theorem dX6_feed_1 : decode cX6_feed 1 = .ok (.iconst 1, 1) := by decide +kernel
theorem dX6_feed_2 : decode cX6_feed 2 = .ok (.if_icmp .ge 10, 3) := by decide +kernel
theorem dX6_feed_5 : decode cX6_feed 5 = .ok (.aload_n 0, 1) := by decide +kernel
theorem dX6_feed_6 : decode cX6_feed 6 = .ok (.bipush (-4), 2) := by decide +kernel
theorem dX6_feed_8 : decode cX6_feed 8 = .ok (.invokevirtual 79, 3) := by decide +kernel
theorem dX6_feed_11 : decode cX6_feed 11 = .ok (.ireturn, 1) := by decide +kernel
theorem dX6_feed_12 : decode cX6_feed 12 = .ok (.iload_n 1, 1) := by decide +kernel
theorem dX6_feed_13 : decode cX6_feed 13 = .ok (.bipush 8, 2) := by decide +kernel
theorem dX6_feed_15 : decode cX6_feed 15 = .ok (.if_icmp .gt 17, 3) := by decide +kernel
theorem dX6_feed_18 : decode cX6_feed 18 = .ok (.aload_n 0, 1) := by decide +kernel
theorem dX6_feed_19 : decode cX6_feed 19 = .ok (.getfield 22, 3) := by decide +kernel
theorem dX6_feed_22 : decode cX6_feed 22 = .ok (.getfield 113, 3) := by decide +kernel
theorem dX6_feed_25 : decode cX6_feed 25 = .ok (.iload_n 1, 1) := by decide +kernel
theorem dX6_feed_26 : decode cX6_feed 26 = .ok (.iadd, 1) := by decide +kernel
theorem dX6_feed_27 : decode cX6_feed 27 = .ok (.bipush 80, 2) := by decide +kernel
theorem dX6_feed_29 : decode cX6_feed 29 = .ok (.if_icmp .le 10, 3) := by decide +kernel
theorem dX6_feed_32 : decode cX6_feed 32 = .ok (.aload_n 0, 1) := by decide +kernel
theorem dX6_feed_33 : decode cX6_feed 33 = .ok (.bipush (-6), 2) := by decide +kernel
theorem dX6_feed_35 : decode cX6_feed 35 = .ok (.invokevirtual 79, 3) := by decide +kernel
theorem dX6_feed_38 : decode cX6_feed 38 = .ok (.ireturn, 1) := by decide +kernel
theorem dX6_feed_39 : decode cX6_feed 39 = .ok (.aload_n 0, 1) := by decide +kernel
theorem dX6_feed_40 : decode cX6_feed 40 = .ok (.getfield 22, 3) := by decide +kernel
theorem dX6_feed_43 : decode cX6_feed 43 = .ok (.iload_n 1, 1) := by decide +kernel
theorem dX6_feed_44 : decode cX6_feed 44 = .ok (.lload_n 2, 1) := by decide +kernel
theorem dX6_feed_45 : decode cX6_feed 45 = .ok (.invokevirtual 116, 3) := by decide +kernel
theorem dX6_feed_48 : decode cX6_feed 48 = .ok (.aload_n 0, 1) := by decide +kernel
theorem dX6_feed_49 : decode cX6_feed 49 = .ok (.getfield 22, 3) := by decide +kernel
theorem dX6_feed_52 : decode cX6_feed 52 = .ok (.getfield 113, 3) := by decide +kernel
theorem dX6_feed_55 : decode cX6_feed 55 = .ok (.ireturn, 1) := by decide +kernel
theorem dX6_court_0 : decode cX6_court 0 = .ok (.aload_n 0, 1) := by decide +kernel
theorem dX6_court_1 : decode cX6_court 1 = .ok (.getfield 22, 3) := by decide +kernel
theorem dX6_court_4 : decode cX6_court 4 = .ok (.aload_n 0, 1) := by decide +kernel
theorem dX6_court_5 : decode cX6_court 5 = .ok (.getfield 12, 3) := by decide +kernel
theorem dX6_court_8 : decode cX6_court 8 = .ok (.invokevirtual 120, 3) := by decide +kernel
theorem dX6_court_11 : decode cX6_court 11 = .ok (.istore_n 1, 1) := by decide +kernel
theorem dX6_court_12 : decode cX6_court 12 = .ok (.aload_n 0, 1) := by decide +kernel
theorem dX6_court_13 : decode cX6_court 13 = .ok (.invokevirtual 89, 3) := by decide +kernel
theorem dX6_court_16 : decode cX6_court 16 = .ok (.iload_n 1, 1) := by decide +kernel
theorem dX6_court_17 : decode cX6_court 17 = .ok (.ireturn, 1) := by decide +kernel
theorem dX6_chance_0 : decode cX6_chance 0 = .ok (.aload_n 0, 1) := by decide +kernel
theorem dX6_chance_1 : decode cX6_chance 1 = .ok (.iload_n 1, 1) := by decide +kernel
theorem dX6_chance_2 : decode cX6_chance 2 = .ok (.invokevirtual 124, 3) := by decide +kernel
theorem dX6_chance_5 : decode cX6_chance 5 = .ok (.istore_n 2, 1) := by decide +kernel
theorem dX6_chance_6 : decode cX6_chance 6 = .ok (.iload_n 2, 1) := by decide +kernel
theorem dX6_chance_7 : decode cX6_chance 7 = .ok (.ifCond .eq 11, 3) := by decide +kernel
theorem dX6_chance_10 : decode cX6_chance 10 = .ok (.aload_n 0, 1) := by decide +kernel
theorem dX6_chance_11 : decode cX6_chance 11 = .ok (.iload_n 2, 1) := by decide +kernel
theorem dX6_chance_12 : decode cX6_chance 12 = .ok (.invokevirtual 127, 3) := by decide +kernel
theorem dX6_chance_15 : decode cX6_chance 15 = .ok (.goto 11, 3) := by decide +kernel
theorem dX6_chance_18 : decode cX6_chance 18 = .ok (.aload_n 0, 1) := by decide +kernel
theorem dX6_chance_19 : decode cX6_chance 19 = .ok (.getfield 36, 3) := by decide +kernel
theorem dX6_chance_22 : decode cX6_chance 22 = .ok (.iload_n 1, 1) := by decide +kernel
theorem dX6_chance_23 : decode cX6_chance 23 = .ok (.invokevirtual 131, 3) := by decide +kernel
theorem dX6_chance_26 : decode cX6_chance 26 = .ok (.lreturn, 1) := by decide +kernel
theorem dX6_right_0 : decode cX6_right 0 = .ok (.aload_n 0, 1) := by decide +kernel
theorem dX6_right_1 : decode cX6_right 1 = .ok (.iload_n 1, 1) := by decide +kernel
theorem dX6_right_2 : decode cX6_right 2 = .ok (.invokevirtual 124, 3) := by decide +kernel
theorem dX6_right_5 : decode cX6_right 5 = .ok (.istore_n 2, 1) := by decide +kernel
theorem dX6_right_6 : decode cX6_right 6 = .ok (.iload_n 2, 1) := by decide +kernel
theorem dX6_right_7 : decode cX6_right 7 = .ok (.ifCond .eq 11, 3) := by decide +kernel
theorem dX6_right_10 : decode cX6_right 10 = .ok (.aload_n 0, 1) := by decide +kernel
theorem dX6_right_11 : decode cX6_right 11 = .ok (.iload_n 2, 1) := by decide +kernel
theorem dX6_right_12 : decode cX6_right 12 = .ok (.invokevirtual 127, 3) := by decide +kernel
theorem dX6_right_15 : decode cX6_right 15 = .ok (.goto 11, 3) := by decide +kernel
theorem dX6_right_18 : decode cX6_right 18 = .ok (.aload_n 0, 1) := by decide +kernel
theorem dX6_right_19 : decode cX6_right 19 = .ok (.getfield 36, 3) := by decide +kernel
theorem dX6_right_22 : decode cX6_right 22 = .ok (.iload_n 1, 1) := by decide +kernel
theorem dX6_right_23 : decode cX6_right 23 = .ok (.invokevirtual 134, 3) := by decide +kernel
theorem dX6_right_26 : decode cX6_right 26 = .ok (.lreturn, 1) := by decide +kernel
theorem dX6_best_0 : decode cX6_best 0 = .ok (.aload_n 0, 1) := by decide +kernel
theorem dX6_best_1 : decode cX6_best 1 = .ok (.iload_n 1, 1) := by decide +kernel
theorem dX6_best_2 : decode cX6_best 2 = .ok (.iload_n 2, 1) := by decide +kernel
theorem dX6_best_3 : decode cX6_best 3 = .ok (.iload_n 3, 1) := by decide +kernel
theorem dX6_best_4 : decode cX6_best 4 = .ok (.invokevirtual 137, 3) := by decide +kernel
theorem dX6_best_7 : decode cX6_best 7 = .ok (.istore 4, 2) := by decide +kernel
theorem dX6_best_9 : decode cX6_best 9 = .ok (.iload 4, 2) := by decide +kernel
theorem dX6_best_11 : decode cX6_best 11 = .ok (.ifCond .eq 10, 3) := by decide +kernel
theorem dX6_best_14 : decode cX6_best 14 = .ok (.aload_n 0, 1) := by decide +kernel
theorem dX6_best_15 : decode cX6_best 15 = .ok (.iload 4, 2) := by decide +kernel
theorem dX6_best_17 : decode cX6_best 17 = .ok (.invokevirtual 127, 3) := by decide +kernel
theorem dX6_best_20 : decode cX6_best 20 = .ok (.lreturn, 1) := by decide +kernel
theorem dX6_best_21 : decode cX6_best 21 = .ok (.aload_n 0, 1) := by decide +kernel
theorem dX6_best_22 : decode cX6_best 22 = .ok (.getfield 52, 3) := by decide +kernel
theorem dX6_best_25 : decode cX6_best 25 = .ok (.aload_n 0, 1) := by decide +kernel
theorem dX6_best_26 : decode cX6_best 26 = .ok (.getfield 36, 3) := by decide +kernel
theorem dX6_best_29 : decode cX6_best 29 = .ok (.iload_n 1, 1) := by decide +kernel
theorem dX6_best_30 : decode cX6_best 30 = .ok (.iload_n 2, 1) := by decide +kernel
theorem dX6_best_31 : decode cX6_best 31 = .ok (.bipush 10, 2) := by decide +kernel
theorem dX6_best_33 : decode cX6_best 33 = .ok (.idiv, 1) := by decide +kernel
theorem dX6_best_34 : decode cX6_best 34 = .ok (.iload_n 2, 1) := by decide +kernel
theorem dX6_best_35 : decode cX6_best 35 = .ok (.bipush 10, 2) := by decide +kernel
theorem dX6_best_37 : decode cX6_best 37 = .ok (.irem, 1) := by decide +kernel
theorem dX6_best_38 : decode cX6_best 38 = .ok (.iload_n 3, 1) := by decide +kernel
theorem dX6_best_39 : decode cX6_best 39 = .ok (.invokevirtual 140, 3) := by decide +kernel
theorem dX6_best_42 : decode cX6_best 42 = .ok (.aload_n 0, 1) := by decide +kernel
theorem dX6_best_43 : decode cX6_best 43 = .ok (.getfield 52, 3) := by decide +kernel
theorem dX6_best_46 : decode cX6_best 46 = .ok (.iload_n 1, 1) := by decide +kernel
theorem dX6_best_47 : decode cX6_best 47 = .ok (.invokevirtual 144, 3) := by decide +kernel
theorem dX6_best_50 : decode cX6_best 50 = .ok (.lreturn, 1) := by decide +kernel
theorem dX6_strike_0 : decode cX6_strike 0 = .ok (.aload_n 0, 1) := by decide +kernel
theorem dX6_strike_1 : decode cX6_strike 1 = .ok (.iload_n 1, 1) := by decide +kernel
theorem dX6_strike_2 : decode cX6_strike 2 = .ok (.iload_n 2, 1) := by decide +kernel
theorem dX6_strike_3 : decode cX6_strike 3 = .ok (.iload_n 3, 1) := by decide +kernel
theorem dX6_strike_4 : decode cX6_strike 4 = .ok (.invokevirtual 137, 3) := by decide +kernel
theorem dX6_strike_7 : decode cX6_strike 7 = .ok (.istore 4, 2) := by decide +kernel
theorem dX6_strike_9 : decode cX6_strike 9 = .ok (.iload 4, 2) := by decide +kernel
theorem dX6_strike_11 : decode cX6_strike 11 = .ok (.ifCond .eq 10, 3) := by decide +kernel
theorem dX6_strike_14 : decode cX6_strike 14 = .ok (.aload_n 0, 1) := by decide +kernel
theorem dX6_strike_15 : decode cX6_strike 15 = .ok (.iload 4, 2) := by decide +kernel
theorem dX6_strike_17 : decode cX6_strike 17 = .ok (.invokevirtual 79, 3) := by decide +kernel
theorem dX6_strike_20 : decode cX6_strike 20 = .ok (.ireturn, 1) := by decide +kernel
theorem dX6_strike_21 : decode cX6_strike 21 = .ok (.aload_n 0, 1) := by decide +kernel
theorem dX6_strike_22 : decode cX6_strike 22 = .ok (.getfield 52, 3) := by decide +kernel
theorem dX6_strike_25 : decode cX6_strike 25 = .ok (.aload_n 0, 1) := by decide +kernel
theorem dX6_strike_26 : decode cX6_strike 26 = .ok (.getfield 36, 3) := by decide +kernel
theorem dX6_strike_29 : decode cX6_strike 29 = .ok (.iload_n 1, 1) := by decide +kernel
theorem dX6_strike_30 : decode cX6_strike 30 = .ok (.iload_n 2, 1) := by decide +kernel
theorem dX6_strike_31 : decode cX6_strike 31 = .ok (.bipush 10, 2) := by decide +kernel
theorem dX6_strike_33 : decode cX6_strike 33 = .ok (.idiv, 1) := by decide +kernel
theorem dX6_strike_34 : decode cX6_strike 34 = .ok (.iload_n 2, 1) := by decide +kernel
theorem dX6_strike_35 : decode cX6_strike 35 = .ok (.bipush 10, 2) := by decide +kernel
theorem dX6_strike_37 : decode cX6_strike 37 = .ok (.irem, 1) := by decide +kernel
theorem dX6_strike_38 : decode cX6_strike 38 = .ok (.iload_n 3, 1) := by decide +kernel
theorem dX6_strike_39 : decode cX6_strike 39 = .ok (.invokevirtual 140, 3) := by decide +kernel
theorem dX6_strike_42 : decode cX6_strike 42 = .ok (.aload_n 0, 1) := by decide +kernel
theorem dX6_strike_43 : decode cX6_strike 43 = .ok (.getfield 52, 3) := by decide +kernel
theorem dX6_strike_46 : decode cX6_strike 46 = .ok (.iload_n 1, 1) := by decide +kernel
theorem dX6_strike_47 : decode cX6_strike 47 = .ok (.invokevirtual 147, 3) := by decide +kernel
theorem dX6_strike_50 : decode cX6_strike 50 = .ok (.ireturn, 1) := by decide +kernel
theorem dX6_turns_0 : decode cX6_turns 0 = .ok (.aload_n 0, 1) := by decide +kernel
theorem dX6_turns_1 : decode cX6_turns 1 = .ok (.getfield 12, 3) := by decide +kernel
theorem dX6_turns_4 : decode cX6_turns 4 = .ok (.invokevirtual 150, 3) := by decide +kernel
theorem dX6_turns_7 : decode cX6_turns 7 = .ok (.ifCond .ne 10, 3) := by decide +kernel
theorem dX6_turns_10 : decode cX6_turns 10 = .ok (.aload_n 0, 1) := by decide +kernel
theorem dX6_turns_11 : decode cX6_turns 11 = .ok (.bipush (-3), 2) := by decide +kernel
theorem dX6_turns_13 : decode cX6_turns 13 = .ok (.invokevirtual 127, 3) := by decide +kernel
theorem dX6_turns_16 : decode cX6_turns 16 = .ok (.lreturn, 1) := by decide +kernel
theorem dX6_turns_17 : decode cX6_turns 17 = .ok (.aload_n 0, 1) := by decide +kernel
theorem dX6_turns_18 : decode cX6_turns 18 = .ok (.invokevirtual 154, 3) := by decide +kernel
theorem dX6_turns_21 : decode cX6_turns 21 = .ok (.lreturn, 1) := by decide +kernel
theorem dX6_order_0 : decode cX6_order 0 = .ok (.aload_n 0, 1) := by decide +kernel
theorem dX6_order_1 : decode cX6_order 1 = .ok (.getfield 12, 3) := by decide +kernel
theorem dX6_order_4 : decode cX6_order 4 = .ok (.invokevirtual 150, 3) := by decide +kernel
theorem dX6_order_7 : decode cX6_order 7 = .ok (.ifCond .ne 10, 3) := by decide +kernel
theorem dX6_order_10 : decode cX6_order 10 = .ok (.aload_n 0, 1) := by decide +kernel
theorem dX6_order_11 : decode cX6_order 11 = .ok (.bipush (-3), 2) := by decide +kernel
theorem dX6_order_13 : decode cX6_order 13 = .ok (.invokevirtual 79, 3) := by decide +kernel
theorem dX6_order_16 : decode cX6_order 16 = .ok (.ireturn, 1) := by decide +kernel
theorem dX6_order_17 : decode cX6_order 17 = .ok (.iload_n 1, 1) := by decide +kernel
theorem dX6_order_18 : decode cX6_order 18 = .ok (.ifCond .lt 14, 3) := by decide +kernel
theorem dX6_order_21 : decode cX6_order 21 = .ok (.iload_n 1, 1) := by decide +kernel
theorem dX6_order_22 : decode cX6_order 22 = .ok (.aload_n 0, 1) := by decide +kernel
theorem dX6_order_23 : decode cX6_order 23 = .ok (.getfield 12, 3) := by decide +kernel
theorem dX6_order_26 : decode cX6_order 26 = .ok (.invokevirtual 158, 3) := by decide +kernel
theorem dX6_order_29 : decode cX6_order 29 = .ok (.if_icmp .lt 6, 3) := by decide +kernel
theorem dX6_order_32 : decode cX6_order 32 = .ok (.bipush (-9), 2) := by decide +kernel
theorem dX6_order_34 : decode cX6_order 34 = .ok (.ireturn, 1) := by decide +kernel
theorem dX6_order_35 : decode cX6_order 35 = .ok (.aload_n 0, 1) := by decide +kernel
theorem dX6_order_36 : decode cX6_order 36 = .ok (.invokevirtual 161, 3) := by decide +kernel
theorem dX6_order_39 : decode cX6_order 39 = .ok (.aload_n 0, 1) := by decide +kernel
theorem dX6_order_40 : decode cX6_order 40 = .ok (.getfield 12, 3) := by decide +kernel
theorem dX6_order_43 : decode cX6_order 43 = .ok (.invokevirtual 164, 3) := by decide +kernel
theorem dX6_order_46 : decode cX6_order 46 = .ok (.istore_n 2, 1) := by decide +kernel
theorem dX6_order_47 : decode cX6_order 47 = .ok (.iconst 0, 1) := by decide +kernel
theorem dX6_order_48 : decode cX6_order 48 = .ok (.istore_n 3, 1) := by decide +kernel
theorem dX6_order_49 : decode cX6_order 49 = .ok (.iload_n 3, 1) := by decide +kernel
theorem dX6_order_50 : decode cX6_order 50 = .ok (.iload_n 1, 1) := by decide +kernel
theorem dX6_order_51 : decode cX6_order 51 = .ok (.if_icmp .ge 24, 3) := by decide +kernel
theorem dX6_order_54 : decode cX6_order 54 = .ok (.iload_n 2, 1) := by decide +kernel
theorem dX6_order_55 : decode cX6_order 55 = .ok (.iconst 1, 1) := by decide +kernel
theorem dX6_order_56 : decode cX6_order 56 = .ok (.aload_n 0, 1) := by decide +kernel
theorem dX6_order_57 : decode cX6_order 57 = .ok (.getfield 48, 3) := by decide +kernel
theorem dX6_order_60 : decode cX6_order 60 = .ok (.iload_n 2, 1) := by decide +kernel
theorem dX6_order_61 : decode cX6_order 61 = .ok (.invokevirtual 147, 3) := by decide +kernel
theorem dX6_order_64 : decode cX6_order 64 = .ok (.ishl, 1) := by decide +kernel
theorem dX6_order_65 : decode cX6_order 65 = .ok (.iconst (-1), 1) := by decide +kernel
theorem dX6_order_66 : decode cX6_order 66 = .ok (.ixor, 1) := by decide +kernel
theorem dX6_order_67 : decode cX6_order 67 = .ok (.iand, 1) := by decide +kernel
theorem dX6_order_68 : decode cX6_order 68 = .ok (.istore_n 2, 1) := by decide +kernel
theorem dX6_order_69 : decode cX6_order 69 = .ok (.iinc 3 1, 3) := by decide +kernel
theorem dX6_order_72 : decode cX6_order 72 = .ok (.goto (-23), 3) := by decide +kernel
theorem dX6_order_75 : decode cX6_order 75 = .ok (.aload_n 0, 1) := by decide +kernel
theorem dX6_order_76 : decode cX6_order 76 = .ok (.getfield 48, 3) := by decide +kernel
theorem dX6_order_79 : decode cX6_order 79 = .ok (.iload_n 2, 1) := by decide +kernel
theorem dX6_order_80 : decode cX6_order 80 = .ok (.invokevirtual 147, 3) := by decide +kernel
theorem dX6_order_83 : decode cX6_order 83 = .ok (.ireturn, 1) := by decide +kernel
theorem dX6_put_0 : decode cX6_put 0 = .ok (.iload_n 1, 1) := by decide +kernel
theorem dX6_put_1 : decode cX6_put 1 = .ok (.ifCond .ge 10, 3) := by decide +kernel
theorem dX6_put_4 : decode cX6_put 4 = .ok (.aload_n 0, 1) := by decide +kernel
theorem dX6_put_5 : decode cX6_put 5 = .ok (.bipush (-4), 2) := by decide +kernel
theorem dX6_put_7 : decode cX6_put 7 = .ok (.invokevirtual 79, 3) := by decide +kernel
theorem dX6_put_10 : decode cX6_put 10 = .ok (.ireturn, 1) := by decide +kernel
theorem dX6_put_11 : decode cX6_put 11 = .ok (.iload_n 1, 1) := by decide +kernel
theorem dX6_put_12 : decode cX6_put 12 = .ok (.bipush 12, 2) := by decide +kernel
theorem dX6_put_14 : decode cX6_put 14 = .ok (.if_icmp .ge 12, 3) := by decide +kernel
theorem dX6_put_17 : decode cX6_put 17 = .ok (.aload_n 0, 1) := by decide +kernel
theorem dX6_put_18 : decode cX6_put 18 = .ok (.getfield 167, 3) := by decide +kernel
theorem dX6_put_21 : decode cX6_put 21 = .ok (.bipush 6, 2) := by decide +kernel
theorem dX6_put_23 : decode cX6_put 23 = .ok (.if_icmp .lt 10, 3) := by decide +kernel
theorem dX6_put_26 : decode cX6_put 26 = .ok (.aload_n 0, 1) := by decide +kernel
theorem dX6_put_27 : decode cX6_put 27 = .ok (.bipush (-6), 2) := by decide +kernel
theorem dX6_put_29 : decode cX6_put 29 = .ok (.invokevirtual 79, 3) := by decide +kernel
theorem dX6_put_32 : decode cX6_put 32 = .ok (.ireturn, 1) := by decide +kernel
theorem dX6_put_33 : decode cX6_put 33 = .ok (.aload_n 0, 1) := by decide +kernel
theorem dX6_put_34 : decode cX6_put 34 = .ok (.getfield 26, 3) := by decide +kernel
theorem dX6_put_37 : decode cX6_put 37 = .ok (.aload_n 0, 1) := by decide +kernel
theorem dX6_put_38 : decode cX6_put 38 = .ok (.getfield 167, 3) := by decide +kernel
theorem dX6_put_41 : decode cX6_put 41 = .ok (.iload_n 1, 1) := by decide +kernel
theorem dX6_put_42 : decode cX6_put 42 = .ok (.iastore, 1) := by decide +kernel
theorem dX6_put_43 : decode cX6_put 43 = .ok (.aload_n 0, 1) := by decide +kernel
theorem dX6_put_44 : decode cX6_put 44 = .ok (.dup, 1) := by decide +kernel
theorem dX6_put_45 : decode cX6_put 45 = .ok (.getfield 167, 3) := by decide +kernel
theorem dX6_put_48 : decode cX6_put 48 = .ok (.iconst 1, 1) := by decide +kernel
theorem dX6_put_49 : decode cX6_put 49 = .ok (.iadd, 1) := by decide +kernel
theorem dX6_put_50 : decode cX6_put 50 = .ok (.putfield 167, 3) := by decide +kernel
theorem dX6_put_53 : decode cX6_put 53 = .ok (.aload_n 0, 1) := by decide +kernel
theorem dX6_put_54 : decode cX6_put 54 = .ok (.getfield 167, 3) := by decide +kernel
theorem dX6_put_57 : decode cX6_put 57 = .ok (.ireturn, 1) := by decide +kernel
theorem dX6_unput_0 : decode cX6_unput 0 = .ok (.aload_n 0, 1) := by decide +kernel
theorem dX6_unput_1 : decode cX6_unput 1 = .ok (.getfield 167, 3) := by decide +kernel
theorem dX6_unput_4 : decode cX6_unput 4 = .ok (.istore_n 1, 1) := by decide +kernel
theorem dX6_unput_5 : decode cX6_unput 5 = .ok (.aload_n 0, 1) := by decide +kernel
theorem dX6_unput_6 : decode cX6_unput 6 = .ok (.iconst 0, 1) := by decide +kernel
theorem dX6_unput_7 : decode cX6_unput 7 = .ok (.putfield 167, 3) := by decide +kernel
theorem dX6_unput_10 : decode cX6_unput 10 = .ok (.iload_n 1, 1) := by decide +kernel
theorem dX6_unput_11 : decode cX6_unput 11 = .ok (.ireturn, 1) := by decide +kernel
theorem dX6_lawful_0 : decode cX6_lawful 0 = .ok (.aload_n 0, 1) := by decide +kernel
theorem dX6_lawful_1 : decode cX6_lawful 1 = .ok (.getfield 12, 3) := by decide +kernel
theorem dX6_lawful_4 : decode cX6_lawful 4 = .ok (.invokevirtual 150, 3) := by decide +kernel
theorem dX6_lawful_7 : decode cX6_lawful 7 = .ok (.ifCond .ne 10, 3) := by decide +kernel
theorem dX6_lawful_10 : decode cX6_lawful 10 = .ok (.aload_n 0, 1) := by decide +kernel
theorem dX6_lawful_11 : decode cX6_lawful 11 = .ok (.bipush (-3), 2) := by decide +kernel
theorem dX6_lawful_13 : decode cX6_lawful 13 = .ok (.invokevirtual 79, 3) := by decide +kernel
theorem dX6_lawful_16 : decode cX6_lawful 16 = .ok (.ireturn, 1) := by decide +kernel
theorem dX6_lawful_17 : decode cX6_lawful 17 = .ok (.aload_n 0, 1) := by decide +kernel
theorem dX6_lawful_18 : decode cX6_lawful 18 = .ok (.invokevirtual 170, 3) := by decide +kernel
theorem dX6_lawful_21 : decode cX6_lawful 21 = .ok (.ifCond .eq 7, 3) := by decide +kernel
theorem dX6_lawful_24 : decode cX6_lawful 24 = .ok (.iconst 1, 1) := by decide +kernel
theorem dX6_lawful_25 : decode cX6_lawful 25 = .ok (.goto 4, 3) := by decide +kernel
theorem dX6_lawful_28 : decode cX6_lawful 28 = .ok (.iconst 0, 1) := by decide +kernel
theorem dX6_lawful_29 : decode cX6_lawful 29 = .ok (.ireturn, 1) := by decide +kernel
theorem dX6_slip_0 : decode cX6_slip 0 = .ok (.aload_n 0, 1) := by decide +kernel
theorem dX6_slip_1 : decode cX6_slip 1 = .ok (.invokevirtual 170, 3) := by decide +kernel
theorem dX6_slip_4 : decode cX6_slip 4 = .ok (.ifCond .ne 10, 3) := by decide +kernel
theorem dX6_slip_7 : decode cX6_slip 7 = .ok (.aload_n 0, 1) := by decide +kernel
theorem dX6_slip_8 : decode cX6_slip 8 = .ok (.bipush (-3), 2) := by decide +kernel
theorem dX6_slip_10 : decode cX6_slip 10 = .ok (.invokevirtual 127, 3) := by decide +kernel
theorem dX6_slip_13 : decode cX6_slip 13 = .ok (.lreturn, 1) := by decide +kernel
theorem dX6_slip_14 : decode cX6_slip 14 = .ok (.aload_n 0, 1) := by decide +kernel
theorem dX6_slip_15 : decode cX6_slip 15 = .ok (.invokevirtual 161, 3) := by decide +kernel
theorem dX6_slip_18 : decode cX6_slip 18 = .ok (.aload_n 0, 1) := by decide +kernel
theorem dX6_slip_19 : decode cX6_slip 19 = .ok (.getfield 12, 3) := by decide +kernel
theorem dX6_slip_22 : decode cX6_slip 22 = .ok (.invokevirtual 164, 3) := by decide +kernel
theorem dX6_slip_25 : decode cX6_slip 25 = .ok (.istore_n 2, 1) := by decide +kernel
theorem dX6_slip_26 : decode cX6_slip 26 = .ok (.iconst 0, 1) := by decide +kernel
theorem dX6_slip_27 : decode cX6_slip 27 = .ok (.istore_n 3, 1) := by decide +kernel
theorem dX6_slip_28 : decode cX6_slip 28 = .ok (.iload_n 3, 1) := by decide +kernel
theorem dX6_slip_29 : decode cX6_slip 29 = .ok (.aload_n 0, 1) := by decide +kernel
theorem dX6_slip_30 : decode cX6_slip 30 = .ok (.getfield 167, 3) := by decide +kernel
theorem dX6_slip_33 : decode cX6_slip 33 = .ok (.if_icmp .ge 68, 3) := by decide +kernel
theorem dX6_slip_36 : decode cX6_slip 36 = .ok (.iload_n 2, 1) := by decide +kernel
theorem dX6_slip_37 : decode cX6_slip 37 = .ok (.iconst 1, 1) := by decide +kernel
theorem dX6_slip_38 : decode cX6_slip 38 = .ok (.aload_n 0, 1) := by decide +kernel
theorem dX6_slip_39 : decode cX6_slip 39 = .ok (.getfield 26, 3) := by decide +kernel
theorem dX6_slip_42 : decode cX6_slip 42 = .ok (.iload_n 3, 1) := by decide +kernel
theorem dX6_slip_43 : decode cX6_slip 43 = .ok (.iaload, 1) := by decide +kernel
theorem dX6_slip_44 : decode cX6_slip 44 = .ok (.ishl, 1) := by decide +kernel
theorem dX6_slip_45 : decode cX6_slip 45 = .ok (.iconst (-1), 1) := by decide +kernel
theorem dX6_slip_46 : decode cX6_slip 46 = .ok (.ixor, 1) := by decide +kernel
theorem dX6_slip_47 : decode cX6_slip 47 = .ok (.iand, 1) := by decide +kernel
theorem dX6_slip_48 : decode cX6_slip 48 = .ok (.istore 4, 2) := by decide +kernel
theorem dX6_slip_50 : decode cX6_slip 50 = .ok (.aload_n 0, 1) := by decide +kernel
theorem dX6_slip_51 : decode cX6_slip 51 = .ok (.getfield 48, 3) := by decide +kernel
theorem dX6_slip_54 : decode cX6_slip 54 = .ok (.iload_n 2, 1) := by decide +kernel
theorem dX6_slip_55 : decode cX6_slip 55 = .ok (.invokevirtual 144, 3) := by decide +kernel
theorem dX6_slip_58 : decode cX6_slip 58 = .ok (.aload_n 0, 1) := by decide +kernel
theorem dX6_slip_59 : decode cX6_slip 59 = .ok (.getfield 48, 3) := by decide +kernel
theorem dX6_slip_62 : decode cX6_slip 62 = .ok (.iload 4, 2) := by decide +kernel
theorem dX6_slip_64 : decode cX6_slip 64 = .ok (.invokevirtual 144, 3) := by decide +kernel
theorem dX6_slip_67 : decode cX6_slip 67 = .ok (.lsub, 1) := by decide +kernel
theorem dX6_slip_68 : decode cX6_slip 68 = .ok (.invokestatic 174, 3) := by decide +kernel
theorem dX6_slip_71 : decode cX6_slip 71 = .ok (.lstore 5, 2) := by decide +kernel
theorem dX6_slip_73 : decode cX6_slip 73 = .ok (.lload 5, 2) := by decide +kernel
theorem dX6_slip_75 : decode cX6_slip 75 = .ok (.lconst 0, 1) := by decide +kernel
theorem dX6_slip_76 : decode cX6_slip 76 = .ok (.lcmp, 1) := by decide +kernel
theorem dX6_slip_77 : decode cX6_slip 77 = .ok (.ifCond .eq 15, 3) := by decide +kernel
theorem dX6_slip_80 : decode cX6_slip 80 = .ok (.iload_n 1, 1) := by decide +kernel
theorem dX6_slip_81 : decode cX6_slip 81 = .ok (.ifCond .eq 8, 3) := by decide +kernel
theorem dX6_slip_84 : decode cX6_slip 84 = .ok (.lload 5, 2) := by decide +kernel
theorem dX6_slip_86 : decode cX6_slip 86 = .ok (.goto 5, 3) := by decide +kernel
theorem dX6_slip_89 : decode cX6_slip 89 = .ok (.iload_n 3, 1) := by decide +kernel
theorem dX6_slip_90 : decode cX6_slip 90 = .ok (.i2l, 1) := by decide +kernel
theorem dX6_slip_91 : decode cX6_slip 91 = .ok (.lreturn, 1) := by decide +kernel
theorem dX6_slip_92 : decode cX6_slip 92 = .ok (.iload 4, 2) := by decide +kernel
theorem dX6_slip_94 : decode cX6_slip 94 = .ok (.istore_n 2, 1) := by decide +kernel
theorem dX6_slip_95 : decode cX6_slip 95 = .ok (.iinc 3 1, 3) := by decide +kernel
theorem dX6_slip_98 : decode cX6_slip 98 = .ok (.goto (-70), 3) := by decide +kernel
theorem dX6_slip_101 : decode cX6_slip 101 = .ok (.iload_n 1, 1) := by decide +kernel
theorem dX6_slip_102 : decode cX6_slip 102 = .ok (.ifCond .eq 7, 3) := by decide +kernel
theorem dX6_slip_105 : decode cX6_slip 105 = .ok (.lconst 0, 1) := by decide +kernel
theorem dX6_slip_106 : decode cX6_slip 106 = .ok (.goto 6, 3) := by decide +kernel
theorem dX6_slip_109 : decode cX6_slip 109 = .ok (.ldc2_w 180, 3) := by decide +kernel
theorem dX6_slip_112 : decode cX6_slip 112 = .ok (.lreturn, 1) := by decide +kernel
theorem dX6_second_0 : decode cX6_second 0 = .ok (.aload_n 0, 1) := by decide +kernel
theorem dX6_second_1 : decode cX6_second 1 = .ok (.getfield 12, 3) := by decide +kernel
theorem dX6_second_4 : decode cX6_second 4 = .ok (.invokevirtual 150, 3) := by decide +kernel
theorem dX6_second_7 : decode cX6_second 7 = .ok (.ifCond .ne 10, 3) := by decide +kernel
theorem dX6_second_10 : decode cX6_second 10 = .ok (.aload_n 0, 1) := by decide +kernel
theorem dX6_second_11 : decode cX6_second 11 = .ok (.bipush (-3), 2) := by decide +kernel
theorem dX6_second_13 : decode cX6_second 13 = .ok (.invokevirtual 127, 3) := by decide +kernel
theorem dX6_second_16 : decode cX6_second 16 = .ok (.lreturn, 1) := by decide +kernel
theorem dX6_second_17 : decode cX6_second 17 = .ok (.aload_n 0, 1) := by decide +kernel
theorem dX6_second_18 : decode cX6_second 18 = .ok (.aload_n 0, 1) := by decide +kernel
theorem dX6_second_19 : decode cX6_second 19 = .ok (.getfield 36, 3) := by decide +kernel
theorem dX6_second_22 : decode cX6_second 22 = .ok (.aload_n 0, 1) := by decide +kernel
theorem dX6_second_23 : decode cX6_second 23 = .ok (.getfield 12, 3) := by decide +kernel
theorem dX6_second_26 : decode cX6_second 26 = .ok (.iconst 0, 1) := by decide +kernel
theorem dX6_second_27 : decode cX6_second 27 = .ok (.invokevirtual 182, 3) := by decide +kernel
theorem dX6_second_30 : decode cX6_second 30 = .ok (.aload_n 0, 1) := by decide +kernel
theorem dX6_second_31 : decode cX6_second 31 = .ok (.getfield 12, 3) := by decide +kernel
theorem dX6_second_34 : decode cX6_second 34 = .ok (.iconst 1, 1) := by decide +kernel
theorem dX6_second_35 : decode cX6_second 35 = .ok (.invokevirtual 182, 3) := by decide +kernel
theorem dX6_second_38 : decode cX6_second 38 = .ok (.iconst 1, 1) := by decide +kernel
theorem dX6_second_39 : decode cX6_second 39 = .ok (.invokevirtual 185, 3) := by decide +kernel
theorem dX6_second_42 : decode cX6_second 42 = .ok (.aload_n 0, 1) := by decide +kernel
theorem dX6_second_43 : decode cX6_second 43 = .ok (.invokevirtual 154, 3) := by decide +kernel
theorem dX6_second_46 : decode cX6_second 46 = .ok (.lsub, 1) := by decide +kernel
theorem dX6_second_47 : decode cX6_second 47 = .ok (.lreturn, 1) := by decide +kernel
theorem dX6_more_0 : decode cX6_more 0 = .ok (.iload_n 1, 1) := by decide +kernel
theorem dX6_more_1 : decode cX6_more 1 = .ok (.invokestatic 189, 3) := by decide +kernel
theorem dX6_more_4 : decode cX6_more 4 = .ok (.ifCond .ne 9, 3) := by decide +kernel
theorem dX6_more_7 : decode cX6_more 7 = .ok (.aload_n 0, 1) := by decide +kernel
theorem dX6_more_8 : decode cX6_more 8 = .ok (.iconst (-1), 1) := by decide +kernel
theorem dX6_more_9 : decode cX6_more 9 = .ok (.invokevirtual 127, 3) := by decide +kernel
theorem dX6_more_12 : decode cX6_more 12 = .ok (.lreturn, 1) := by decide +kernel
theorem dX6_more_13 : decode cX6_more 13 = .ok (.aload_n 0, 1) := by decide +kernel
theorem dX6_more_14 : decode cX6_more 14 = .ok (.getfield 12, 3) := by decide +kernel
theorem dX6_more_17 : decode cX6_more 17 = .ok (.invokevirtual 150, 3) := by decide +kernel
theorem dX6_more_20 : decode cX6_more 20 = .ok (.istore_n 2, 1) := by decide +kernel
theorem dX6_more_21 : decode cX6_more 21 = .ok (.iload_n 2, 1) := by decide +kernel
theorem dX6_more_22 : decode cX6_more 22 = .ok (.ifCond .eq 26, 3) := by decide +kernel
theorem dX6_more_25 : decode cX6_more 25 = .ok (.iload_n 2, 1) := by decide +kernel
theorem dX6_more_26 : decode cX6_more 26 = .ok (.aload_n 0, 1) := by decide +kernel
theorem dX6_more_27 : decode cX6_more 27 = .ok (.getfield 12, 3) := by decide +kernel
theorem dX6_more_30 : decode cX6_more 30 = .ok (.getfield 96, 3) := by decide +kernel
theorem dX6_more_33 : decode cX6_more 33 = .ok (.if_icmp .ge 15, 3) := by decide +kernel
theorem dX6_more_36 : decode cX6_more 36 = .ok (.aload_n 0, 1) := by decide +kernel
theorem dX6_more_37 : decode cX6_more 37 = .ok (.getfield 12, 3) := by decide +kernel
theorem dX6_more_40 : decode cX6_more 40 = .ok (.iload_n 1, 1) := by decide +kernel
theorem dX6_more_41 : decode cX6_more 41 = .ok (.invokevirtual 182, 3) := by decide +kernel
theorem dX6_more_44 : decode cX6_more 44 = .ok (.iconst 3, 1) := by decide +kernel
theorem dX6_more_45 : decode cX6_more 45 = .ok (.if_icmp .lt 10, 3) := by decide +kernel
theorem dX6_more_48 : decode cX6_more 48 = .ok (.aload_n 0, 1) := by decide +kernel
theorem dX6_more_49 : decode cX6_more 49 = .ok (.bipush (-3), 2) := by decide +kernel
theorem dX6_more_51 : decode cX6_more 51 = .ok (.invokevirtual 127, 3) := by decide +kernel
theorem dX6_more_54 : decode cX6_more 54 = .ok (.lreturn, 1) := by decide +kernel
theorem dX6_more_55 : decode cX6_more 55 = .ok (.iload_n 1, 1) := by decide +kernel
theorem dX6_more_56 : decode cX6_more 56 = .ok (.ifCond .ne 7, 3) := by decide +kernel
theorem dX6_more_59 : decode cX6_more 59 = .ok (.iconst 1, 1) := by decide +kernel
theorem dX6_more_60 : decode cX6_more 60 = .ok (.goto 4, 3) := by decide +kernel
theorem dX6_more_63 : decode cX6_more 63 = .ok (.iconst 0, 1) := by decide +kernel
theorem dX6_more_64 : decode cX6_more 64 = .ok (.istore_n 3, 1) := by decide +kernel
theorem dX6_more_65 : decode cX6_more 65 = .ok (.aload_n 0, 1) := by decide +kernel
theorem dX6_more_66 : decode cX6_more 66 = .ok (.aload_n 0, 1) := by decide +kernel
theorem dX6_more_67 : decode cX6_more 67 = .ok (.getfield 36, 3) := by decide +kernel
theorem dX6_more_70 : decode cX6_more 70 = .ok (.aload_n 0, 1) := by decide +kernel
theorem dX6_more_71 : decode cX6_more 71 = .ok (.getfield 12, 3) := by decide +kernel
theorem dX6_more_74 : decode cX6_more 74 = .ok (.iconst 0, 1) := by decide +kernel
theorem dX6_more_75 : decode cX6_more 75 = .ok (.invokevirtual 182, 3) := by decide +kernel
theorem dX6_more_78 : decode cX6_more 78 = .ok (.iload_n 3, 1) := by decide +kernel
theorem dX6_more_79 : decode cX6_more 79 = .ok (.iadd, 1) := by decide +kernel
theorem dX6_more_80 : decode cX6_more 80 = .ok (.aload_n 0, 1) := by decide +kernel
theorem dX6_more_81 : decode cX6_more 81 = .ok (.getfield 12, 3) := by decide +kernel
theorem dX6_more_84 : decode cX6_more 84 = .ok (.iconst 1, 1) := by decide +kernel
theorem dX6_more_85 : decode cX6_more 85 = .ok (.invokevirtual 182, 3) := by decide +kernel
theorem dX6_more_88 : decode cX6_more 88 = .ok (.iconst 1, 1) := by decide +kernel
theorem dX6_more_89 : decode cX6_more 89 = .ok (.iadd, 1) := by decide +kernel
theorem dX6_more_90 : decode cX6_more 90 = .ok (.iload_n 3, 1) := by decide +kernel
theorem dX6_more_91 : decode cX6_more 91 = .ok (.isub, 1) := by decide +kernel
theorem dX6_more_92 : decode cX6_more 92 = .ok (.iconst 0, 1) := by decide +kernel
theorem dX6_more_93 : decode cX6_more 93 = .ok (.invokevirtual 185, 3) := by decide +kernel
theorem dX6_more_96 : decode cX6_more 96 = .ok (.lstore 4, 2) := by decide +kernel
theorem dX6_more_98 : decode cX6_more 98 = .ok (.iload_n 1, 1) := by decide +kernel
theorem dX6_more_99 : decode cX6_more 99 = .ok (.ifCond .ne 13, 3) := by decide +kernel
theorem dX6_more_102 : decode cX6_more 102 = .ok (.lload 4, 2) := by decide +kernel
theorem dX6_more_104 : decode cX6_more 104 = .ok (.aload_n 0, 1) := by decide +kernel
theorem dX6_more_105 : decode cX6_more 105 = .ok (.invokevirtual 154, 3) := by decide +kernel
theorem dX6_more_108 : decode cX6_more 108 = .ok (.lsub, 1) := by decide +kernel
theorem dX6_more_109 : decode cX6_more 109 = .ok (.goto 10, 3) := by decide +kernel
theorem dX6_more_112 : decode cX6_more 112 = .ok (.aload_n 0, 1) := by decide +kernel
theorem dX6_more_113 : decode cX6_more 113 = .ok (.invokevirtual 154, 3) := by decide +kernel
theorem dX6_more_116 : decode cX6_more 116 = .ok (.lload 4, 2) := by decide +kernel
theorem dX6_more_118 : decode cX6_more 118 = .ok (.lsub, 1) := by decide +kernel
theorem dX6_more_119 : decode cX6_more 119 = .ok (.lreturn, 1) := by decide +kernel
theorem dX6_rests_0 : decode cX6_rests 0 = .ok (.aload_n 0, 1) := by decide +kernel
theorem dX6_rests_1 : decode cX6_rests 1 = .ok (.getfield 12, 3) := by decide +kernel
theorem dX6_rests_4 : decode cX6_rests 4 = .ok (.invokevirtual 150, 3) := by decide +kernel
theorem dX6_rests_7 : decode cX6_rests 7 = .ok (.ifCond .ne 10, 3) := by decide +kernel
theorem dX6_rests_10 : decode cX6_rests 10 = .ok (.aload_n 0, 1) := by decide +kernel
theorem dX6_rests_11 : decode cX6_rests 11 = .ok (.bipush (-3), 2) := by decide +kernel
theorem dX6_rests_13 : decode cX6_rests 13 = .ok (.invokevirtual 79, 3) := by decide +kernel
theorem dX6_rests_16 : decode cX6_rests 16 = .ok (.ireturn, 1) := by decide +kernel
theorem dX6_rests_17 : decode cX6_rests 17 = .ok (.aload_n 0, 1) := by decide +kernel
theorem dX6_rests_18 : decode cX6_rests 18 = .ok (.invokevirtual 192, 3) := by decide +kernel
theorem dX6_rests_21 : decode cX6_rests 21 = .ok (.aload_n 0, 1) := by decide +kernel
theorem dX6_rests_22 : decode cX6_rests 22 = .ok (.getfield 60, 3) := by decide +kernel
theorem dX6_rests_25 : decode cX6_rests 25 = .ok (.invokevirtual 195, 3) := by decide +kernel
theorem dX6_rests_28 : decode cX6_rests 28 = .ok (.ireturn, 1) := by decide +kernel
theorem dX6_rest_0 : decode cX6_rest 0 = .ok (.aload_n 0, 1) := by decide +kernel
theorem dX6_rest_1 : decode cX6_rest 1 = .ok (.getfield 12, 3) := by decide +kernel
theorem dX6_rest_4 : decode cX6_rest 4 = .ok (.invokevirtual 150, 3) := by decide +kernel
theorem dX6_rest_7 : decode cX6_rest 7 = .ok (.ifCond .ne 10, 3) := by decide +kernel
theorem dX6_rest_10 : decode cX6_rest 10 = .ok (.aload_n 0, 1) := by decide +kernel
theorem dX6_rest_11 : decode cX6_rest 11 = .ok (.bipush (-3), 2) := by decide +kernel
theorem dX6_rest_13 : decode cX6_rest 13 = .ok (.invokevirtual 79, 3) := by decide +kernel
theorem dX6_rest_16 : decode cX6_rest 16 = .ok (.ireturn, 1) := by decide +kernel
theorem dX6_rest_17 : decode cX6_rest 17 = .ok (.aload_n 0, 1) := by decide +kernel
theorem dX6_rest_18 : decode cX6_rest 18 = .ok (.invokevirtual 192, 3) := by decide +kernel
theorem dX6_rest_21 : decode cX6_rest 21 = .ok (.iload_n 1, 1) := by decide +kernel
theorem dX6_rest_22 : decode cX6_rest 22 = .ok (.ifCond .lt 14, 3) := by decide +kernel
theorem dX6_rest_25 : decode cX6_rest 25 = .ok (.iload_n 1, 1) := by decide +kernel
theorem dX6_rest_26 : decode cX6_rest 26 = .ok (.aload_n 0, 1) := by decide +kernel
theorem dX6_rest_27 : decode cX6_rest 27 = .ok (.getfield 60, 3) := by decide +kernel
theorem dX6_rest_30 : decode cX6_rest 30 = .ok (.invokevirtual 195, 3) := by decide +kernel
theorem dX6_rest_33 : decode cX6_rest 33 = .ok (.if_icmp .lt 6, 3) := by decide +kernel
theorem dX6_rest_36 : decode cX6_rest 36 = .ok (.bipush (-9), 2) := by decide +kernel
theorem dX6_rest_38 : decode cX6_rest 38 = .ok (.ireturn, 1) := by decide +kernel
theorem dX6_rest_39 : decode cX6_rest 39 = .ok (.sipush 4096, 3) := by decide +kernel
theorem dX6_rest_42 : decode cX6_rest 42 = .ok (.aload_n 0, 1) := by decide +kernel
theorem dX6_rest_43 : decode cX6_rest 43 = .ok (.getfield 60, 3) := by decide +kernel
theorem dX6_rest_46 : decode cX6_rest 46 = .ok (.iload_n 1, 1) := by decide +kernel
theorem dX6_rest_47 : decode cX6_rest 47 = .ok (.invokevirtual 198, 3) := by decide +kernel
theorem dX6_rest_50 : decode cX6_rest 50 = .ok (.imul, 1) := by decide +kernel
theorem dX6_rest_51 : decode cX6_rest 51 = .ok (.aload_n 0, 1) := by decide +kernel
theorem dX6_rest_52 : decode cX6_rest 52 = .ok (.getfield 60, 3) := by decide +kernel
theorem dX6_rest_55 : decode cX6_rest 55 = .ok (.iload_n 1, 1) := by decide +kernel
theorem dX6_rest_56 : decode cX6_rest 56 = .ok (.invokevirtual 201, 3) := by decide +kernel
theorem dX6_rest_59 : decode cX6_rest 59 = .ok (.iadd, 1) := by decide +kernel
theorem dX6_rest_60 : decode cX6_rest 60 = .ok (.ireturn, 1) := by decide +kernel
theorem dX6_paper_0 : decode cX6_paper 0 = .ok (.aload_n 0, 1) := by decide +kernel
theorem dX6_paper_1 : decode cX6_paper 1 = .ok (.getfield 12, 3) := by decide +kernel
theorem dX6_paper_4 : decode cX6_paper 4 = .ok (.invokevirtual 150, 3) := by decide +kernel
theorem dX6_paper_7 : decode cX6_paper 7 = .ok (.ifCond .ne 10, 3) := by decide +kernel
theorem dX6_paper_10 : decode cX6_paper 10 = .ok (.aload_n 0, 1) := by decide +kernel
theorem dX6_paper_11 : decode cX6_paper 11 = .ok (.bipush (-3), 2) := by decide +kernel
theorem dX6_paper_13 : decode cX6_paper 13 = .ok (.invokevirtual 127, 3) := by decide +kernel
theorem dX6_paper_16 : decode cX6_paper 16 = .ok (.lreturn, 1) := by decide +kernel
theorem dX6_paper_17 : decode cX6_paper 17 = .ok (.aload_n 0, 1) := by decide +kernel
theorem dX6_paper_18 : decode cX6_paper 18 = .ok (.getfield 12, 3) := by decide +kernel
theorem dX6_paper_21 : decode cX6_paper 21 = .ok (.invokevirtual 164, 3) := by decide +kernel
theorem dX6_paper_24 : decode cX6_paper 24 = .ok (.istore_n 3, 1) := by decide +kernel
theorem dX6_paper_25 : decode cX6_paper 25 = .ok (.iload_n 1, 1) := by decide +kernel
theorem dX6_paper_26 : decode cX6_paper 26 = .ok (.iload_n 2, 1) := by decide +kernel
theorem dX6_paper_27 : decode cX6_paper 27 = .ok (.ior, 1) := by decide +kernel
theorem dX6_paper_28 : decode cX6_paper 28 = .ok (.iload_n 3, 1) := by decide +kernel
theorem dX6_paper_29 : decode cX6_paper 29 = .ok (.iconst (-1), 1) := by decide +kernel
theorem dX6_paper_30 : decode cX6_paper 30 = .ok (.ixor, 1) := by decide +kernel
theorem dX6_paper_31 : decode cX6_paper 31 = .ok (.iand, 1) := by decide +kernel
theorem dX6_paper_32 : decode cX6_paper 32 = .ok (.ifCond .eq 9, 3) := by decide +kernel
theorem dX6_paper_35 : decode cX6_paper 35 = .ok (.aload_n 0, 1) := by decide +kernel
theorem dX6_paper_36 : decode cX6_paper 36 = .ok (.iconst (-1), 1) := by decide +kernel
theorem dX6_paper_37 : decode cX6_paper 37 = .ok (.invokevirtual 127, 3) := by decide +kernel
theorem dX6_paper_40 : decode cX6_paper 40 = .ok (.lreturn, 1) := by decide +kernel
theorem dX6_paper_41 : decode cX6_paper 41 = .ok (.iload_n 1, 1) := by decide +kernel
theorem dX6_paper_42 : decode cX6_paper 42 = .ok (.invokestatic 204, 3) := by decide +kernel
theorem dX6_paper_45 : decode cX6_paper 45 = .ok (.aload_n 0, 1) := by decide +kernel
theorem dX6_paper_46 : decode cX6_paper 46 = .ok (.getfield 12, 3) := by decide +kernel
theorem dX6_paper_49 : decode cX6_paper 49 = .ok (.iconst 0, 1) := by decide +kernel
theorem dX6_paper_50 : decode cX6_paper 50 = .ok (.invokevirtual 182, 3) := by decide +kernel
theorem dX6_paper_53 : decode cX6_paper 53 = .ok (.if_icmp .ne 18, 3) := by decide +kernel
theorem dX6_paper_56 : decode cX6_paper 56 = .ok (.iload_n 2, 1) := by decide +kernel
theorem dX6_paper_57 : decode cX6_paper 57 = .ok (.invokestatic 204, 3) := by decide +kernel
theorem dX6_paper_60 : decode cX6_paper 60 = .ok (.aload_n 0, 1) := by decide +kernel
theorem dX6_paper_61 : decode cX6_paper 61 = .ok (.getfield 12, 3) := by decide +kernel
theorem dX6_paper_64 : decode cX6_paper 64 = .ok (.iconst 1, 1) := by decide +kernel
theorem dX6_paper_65 : decode cX6_paper 65 = .ok (.invokevirtual 182, 3) := by decide +kernel
theorem dX6_paper_68 : decode cX6_paper 68 = .ok (.if_icmp .eq 10, 3) := by decide +kernel
theorem dX6_paper_71 : decode cX6_paper 71 = .ok (.aload_n 0, 1) := by decide +kernel
theorem dX6_paper_72 : decode cX6_paper 72 = .ok (.bipush (-3), 2) := by decide +kernel
theorem dX6_paper_74 : decode cX6_paper 74 = .ok (.invokevirtual 127, 3) := by decide +kernel
theorem dX6_paper_77 : decode cX6_paper 77 = .ok (.lreturn, 1) := by decide +kernel
theorem dX6_paper_78 : decode cX6_paper 78 = .ok (.aload_n 0, 1) := by decide +kernel
theorem dX6_paper_79 : decode cX6_paper 79 = .ok (.getfield 36, 3) := by decide +kernel
theorem dX6_paper_82 : decode cX6_paper 82 = .ok (.iload_n 3, 1) := by decide +kernel
theorem dX6_paper_83 : decode cX6_paper 83 = .ok (.iload_n 1, 1) := by decide +kernel
theorem dX6_paper_84 : decode cX6_paper 84 = .ok (.iload_n 2, 1) := by decide +kernel
theorem dX6_paper_85 : decode cX6_paper 85 = .ok (.ior, 1) := by decide +kernel
theorem dX6_paper_86 : decode cX6_paper 86 = .ok (.iconst (-1), 1) := by decide +kernel
theorem dX6_paper_87 : decode cX6_paper 87 = .ok (.ixor, 1) := by decide +kernel
theorem dX6_paper_88 : decode cX6_paper 88 = .ok (.iand, 1) := by decide +kernel
theorem dX6_paper_89 : decode cX6_paper 89 = .ok (.aload_n 0, 1) := by decide +kernel
theorem dX6_paper_90 : decode cX6_paper 90 = .ok (.getfield 12, 3) := by decide +kernel
theorem dX6_paper_93 : decode cX6_paper 93 = .ok (.invokevirtual 209, 3) := by decide +kernel
theorem dX6_paper_96 : decode cX6_paper 96 = .ok (.invokestatic 212, 3) := by decide +kernel
theorem dX6_paper_99 : decode cX6_paper 99 = .ok (.invokevirtual 131, 3) := by decide +kernel
theorem dX6_paper_102 : decode cX6_paper 102 = .ok (.lreturn, 1) := by decide +kernel
theorem dX6_coming_0 : decode cX6_coming 0 = .ok (.aload_n 0, 1) := by decide +kernel
theorem dX6_coming_1 : decode cX6_coming 1 = .ok (.getfield 12, 3) := by decide +kernel
theorem dX6_coming_4 : decode cX6_coming 4 = .ok (.invokevirtual 150, 3) := by decide +kernel
theorem dX6_coming_7 : decode cX6_coming 7 = .ok (.ifCond .ne 10, 3) := by decide +kernel
theorem dX6_coming_10 : decode cX6_coming 10 = .ok (.aload_n 0, 1) := by decide +kernel
theorem dX6_coming_11 : decode cX6_coming 11 = .ok (.bipush (-3), 2) := by decide +kernel
theorem dX6_coming_13 : decode cX6_coming 13 = .ok (.invokevirtual 127, 3) := by decide +kernel
theorem dX6_coming_16 : decode cX6_coming 16 = .ok (.lreturn, 1) := by decide +kernel
theorem dX6_coming_17 : decode cX6_coming 17 = .ok (.aload_n 0, 1) := by decide +kernel
theorem dX6_coming_18 : decode cX6_coming 18 = .ok (.invokevirtual 216, 3) := by decide +kernel
theorem dX6_coming_21 : decode cX6_coming 21 = .ok (.aload_n 0, 1) := by decide +kernel
theorem dX6_coming_22 : decode cX6_coming 22 = .ok (.getfield 48, 3) := by decide +kernel
theorem dX6_coming_25 : decode cX6_coming 25 = .ok (.aload_n 0, 1) := by decide +kernel
theorem dX6_coming_26 : decode cX6_coming 26 = .ok (.getfield 67, 3) := by decide +kernel
theorem dX6_coming_29 : decode cX6_coming 29 = .ok (.invokevirtual 219, 3) := by decide +kernel
theorem dX6_coming_32 : decode cX6_coming 32 = .ok (.invokevirtual 144, 3) := by decide +kernel
theorem dX6_coming_35 : decode cX6_coming 35 = .ok (.lreturn, 1) := by decide +kernel
theorem dX6_come_0 : decode cX6_come 0 = .ok (.iload_n 1, 1) := by decide +kernel
theorem dX6_come_1 : decode cX6_come 1 = .ok (.ifCond .lt 8, 3) := by decide +kernel
theorem dX6_come_4 : decode cX6_come 4 = .ok (.iload_n 1, 1) := by decide +kernel
theorem dX6_come_5 : decode cX6_come 5 = .ok (.iconst 2, 1) := by decide +kernel
theorem dX6_come_6 : decode cX6_come 6 = .ok (.if_icmp .le 10, 3) := by decide +kernel
theorem dX6_come_9 : decode cX6_come 9 = .ok (.aload_n 0, 1) := by decide +kernel
theorem dX6_come_10 : decode cX6_come 10 = .ok (.bipush (-2), 2) := by decide +kernel
theorem dX6_come_12 : decode cX6_come 12 = .ok (.invokevirtual 79, 3) := by decide +kernel
theorem dX6_come_15 : decode cX6_come 15 = .ok (.ireturn, 1) := by decide +kernel
theorem dX6_come_16 : decode cX6_come 16 = .ok (.aload_n 0, 1) := by decide +kernel
theorem dX6_come_17 : decode cX6_come 17 = .ok (.getfield 12, 3) := by decide +kernel
theorem dX6_come_20 : decode cX6_come 20 = .ok (.invokevirtual 150, 3) := by decide +kernel
theorem dX6_come_23 : decode cX6_come 23 = .ok (.ifCond .ne 10, 3) := by decide +kernel
theorem dX6_come_26 : decode cX6_come 26 = .ok (.aload_n 0, 1) := by decide +kernel
theorem dX6_come_27 : decode cX6_come 27 = .ok (.bipush (-3), 2) := by decide +kernel
theorem dX6_come_29 : decode cX6_come 29 = .ok (.invokevirtual 79, 3) := by decide +kernel
theorem dX6_come_32 : decode cX6_come 32 = .ok (.ireturn, 1) := by decide +kernel
theorem dX6_come_33 : decode cX6_come 33 = .ok (.aload_n 0, 1) := by decide +kernel
theorem dX6_come_34 : decode cX6_come 34 = .ok (.invokevirtual 216, 3) := by decide +kernel
theorem dX6_come_37 : decode cX6_come 37 = .ok (.iload_n 1, 1) := by decide +kernel
theorem dX6_come_38 : decode cX6_come 38 = .ok (.ifCond .ne 13, 3) := by decide +kernel
theorem dX6_come_41 : decode cX6_come 41 = .ok (.aload_n 0, 1) := by decide +kernel
theorem dX6_come_42 : decode cX6_come 42 = .ok (.getfield 67, 3) := by decide +kernel
theorem dX6_come_45 : decode cX6_come 45 = .ok (.invokevirtual 219, 3) := by decide +kernel
theorem dX6_come_48 : decode cX6_come 48 = .ok (.goto 20, 3) := by decide +kernel
theorem dX6_come_51 : decode cX6_come 51 = .ok (.aload_n 0, 1) := by decide +kernel
theorem dX6_come_52 : decode cX6_come 52 = .ok (.getfield 67, 3) := by decide +kernel
theorem dX6_come_55 : decode cX6_come 55 = .ok (.iload_n 1, 1) := by decide +kernel
theorem dX6_come_56 : decode cX6_come 56 = .ok (.iconst 1, 1) := by decide +kernel
theorem dX6_come_57 : decode cX6_come 57 = .ok (.if_icmp .ne 7, 3) := by decide +kernel
theorem dX6_come_60 : decode cX6_come 60 = .ok (.iconst 0, 1) := by decide +kernel
theorem dX6_come_61 : decode cX6_come 61 = .ok (.goto 4, 3) := by decide +kernel
theorem dX6_come_64 : decode cX6_come 64 = .ok (.iconst 1, 1) := by decide +kernel
theorem dX6_come_65 : decode cX6_come 65 = .ok (.invokevirtual 222, 3) := by decide +kernel
theorem dX6_come_68 : decode cX6_come 68 = .ok (.ireturn, 1) := by decide +kernel
theorem dX6_seldom_0 : decode cX6_seldom 0 = .ok (.iload_n 1, 1) := by decide +kernel
theorem dX6_seldom_1 : decode cX6_seldom 1 = .ok (.invokestatic 92, 3) := by decide +kernel
theorem dX6_seldom_4 : decode cX6_seldom 4 = .ok (.ifCond .ne 9, 3) := by decide +kernel
theorem dX6_seldom_7 : decode cX6_seldom 7 = .ok (.aload_n 0, 1) := by decide +kernel
theorem dX6_seldom_8 : decode cX6_seldom 8 = .ok (.iconst (-1), 1) := by decide +kernel
theorem dX6_seldom_9 : decode cX6_seldom 9 = .ok (.invokevirtual 127, 3) := by decide +kernel
theorem dX6_seldom_12 : decode cX6_seldom 12 = .ok (.lreturn, 1) := by decide +kernel
theorem dX6_seldom_13 : decode cX6_seldom 13 = .ok (.iload_n 2, 1) := by decide +kernel
theorem dX6_seldom_14 : decode cX6_seldom 14 = .ok (.ifCond .lt 8, 3) := by decide +kernel
theorem dX6_seldom_17 : decode cX6_seldom 17 = .ok (.iload_n 2, 1) := by decide +kernel
theorem dX6_seldom_18 : decode cX6_seldom 18 = .ok (.iconst 1, 1) := by decide +kernel
theorem dX6_seldom_19 : decode cX6_seldom 19 = .ok (.if_icmp .le 10, 3) := by decide +kernel
theorem dX6_seldom_22 : decode cX6_seldom 22 = .ok (.aload_n 0, 1) := by decide +kernel
theorem dX6_seldom_23 : decode cX6_seldom 23 = .ok (.bipush (-2), 2) := by decide +kernel
theorem dX6_seldom_25 : decode cX6_seldom 25 = .ok (.invokevirtual 127, 3) := by decide +kernel
theorem dX6_seldom_28 : decode cX6_seldom 28 = .ok (.lreturn, 1) := by decide +kernel
theorem dX6_seldom_29 : decode cX6_seldom 29 = .ok (.aload_n 0, 1) := by decide +kernel
theorem dX6_seldom_30 : decode cX6_seldom 30 = .ok (.invokevirtual 170, 3) := by decide +kernel
theorem dX6_seldom_33 : decode cX6_seldom 33 = .ok (.ifCond .ne 10, 3) := by decide +kernel
theorem dX6_seldom_36 : decode cX6_seldom 36 = .ok (.aload_n 0, 1) := by decide +kernel
theorem dX6_seldom_37 : decode cX6_seldom 37 = .ok (.bipush (-3), 2) := by decide +kernel
theorem dX6_seldom_39 : decode cX6_seldom 39 = .ok (.invokevirtual 127, 3) := by decide +kernel
theorem dX6_seldom_42 : decode cX6_seldom 42 = .ok (.lreturn, 1) := by decide +kernel
theorem dX6_seldom_43 : decode cX6_seldom 43 = .ok (.aload_n 0, 1) := by decide +kernel
theorem dX6_seldom_44 : decode cX6_seldom 44 = .ok (.getfield 12, 3) := by decide +kernel
theorem dX6_seldom_47 : decode cX6_seldom 47 = .ok (.invokevirtual 150, 3) := by decide +kernel
theorem dX6_seldom_50 : decode cX6_seldom 50 = .ok (.istore_n 3, 1) := by decide +kernel
theorem dX6_seldom_51 : decode cX6_seldom 51 = .ok (.aload_n 0, 1) := by decide +kernel
theorem dX6_seldom_52 : decode cX6_seldom 52 = .ok (.getfield 12, 3) := by decide +kernel
theorem dX6_seldom_55 : decode cX6_seldom 55 = .ok (.iconst 0, 1) := by decide +kernel
theorem dX6_seldom_56 : decode cX6_seldom 56 = .ok (.invokevirtual 182, 3) := by decide +kernel
theorem dX6_seldom_59 : decode cX6_seldom 59 = .ok (.istore 4, 2) := by decide +kernel
theorem dX6_seldom_61 : decode cX6_seldom 61 = .ok (.iload_n 2, 1) := by decide +kernel
theorem dX6_seldom_62 : decode cX6_seldom 62 = .ok (.iconst 1, 1) := by decide +kernel
theorem dX6_seldom_63 : decode cX6_seldom 63 = .ok (.if_icmp .ne 12, 3) := by decide +kernel
theorem dX6_seldom_66 : decode cX6_seldom 66 = .ok (.iload_n 3, 1) := by decide +kernel
theorem dX6_seldom_67 : decode cX6_seldom 67 = .ok (.iload 4, 2) := by decide +kernel
theorem dX6_seldom_69 : decode cX6_seldom 69 = .ok (.invokestatic 225, 3) := by decide +kernel
theorem dX6_seldom_72 : decode cX6_seldom 72 = .ok (.goto 11, 3) := by decide +kernel
theorem dX6_seldom_75 : decode cX6_seldom 75 = .ok (.aload_n 0, 1) := by decide +kernel
theorem dX6_seldom_76 : decode cX6_seldom 76 = .ok (.iload_n 3, 1) := by decide +kernel
theorem dX6_seldom_77 : decode cX6_seldom 77 = .ok (.iload 4, 2) := by decide +kernel
theorem dX6_seldom_79 : decode cX6_seldom 79 = .ok (.iload_n 1, 1) := by decide +kernel
theorem dX6_seldom_80 : decode cX6_seldom 80 = .ok (.invokevirtual 229, 3) := by decide +kernel
theorem dX6_seldom_83 : decode cX6_seldom 83 = .ok (.lreturn, 1) := by decide +kernel
theorem dX6_finest_0 : decode cX6_finest 0 = .ok (.aload_n 0, 1) := by decide +kernel
theorem dX6_finest_1 : decode cX6_finest 1 = .ok (.getfield 12, 3) := by decide +kernel
theorem dX6_finest_4 : decode cX6_finest 4 = .ok (.invokevirtual 150, 3) := by decide +kernel
theorem dX6_finest_7 : decode cX6_finest 7 = .ok (.ifCond .ne 10, 3) := by decide +kernel
theorem dX6_finest_10 : decode cX6_finest 10 = .ok (.aload_n 0, 1) := by decide +kernel
theorem dX6_finest_11 : decode cX6_finest 11 = .ok (.bipush (-3), 2) := by decide +kernel
theorem dX6_finest_13 : decode cX6_finest 13 = .ok (.invokevirtual 79, 3) := by decide +kernel
theorem dX6_finest_16 : decode cX6_finest 16 = .ok (.ireturn, 1) := by decide +kernel
theorem dX6_finest_17 : decode cX6_finest 17 = .ok (.aload_n 0, 1) := by decide +kernel
theorem dX6_finest_18 : decode cX6_finest 18 = .ok (.invokevirtual 161, 3) := by decide +kernel
theorem dX6_finest_21 : decode cX6_finest 21 = .ok (.aload_n 0, 1) := by decide +kernel
theorem dX6_finest_22 : decode cX6_finest 22 = .ok (.getfield 36, 3) := by decide +kernel
theorem dX6_finest_25 : decode cX6_finest 25 = .ok (.aload_n 0, 1) := by decide +kernel
theorem dX6_finest_26 : decode cX6_finest 26 = .ok (.getfield 48, 3) := by decide +kernel
theorem dX6_finest_29 : decode cX6_finest 29 = .ok (.invokevirtual 233, 3) := by decide +kernel
theorem dX6_finest_32 : decode cX6_finest 32 = .ok (.invokevirtual 134, 3) := by decide +kernel
theorem dX6_finest_35 : decode cX6_finest 35 = .ok (.lstore_n 1, 1) := by decide +kernel
theorem dX6_finest_36 : decode cX6_finest 36 = .ok (.iconst 0, 1) := by decide +kernel
theorem dX6_finest_37 : decode cX6_finest 37 = .ok (.istore_n 3, 1) := by decide +kernel
theorem dX6_finest_38 : decode cX6_finest 38 = .ok (.aload_n 0, 1) := by decide +kernel
theorem dX6_finest_39 : decode cX6_finest 39 = .ok (.invokevirtual 192, 3) := by decide +kernel
theorem dX6_finest_42 : decode cX6_finest 42 = .ok (.aload_n 0, 1) := by decide +kernel
theorem dX6_finest_43 : decode cX6_finest 43 = .ok (.getfield 60, 3) := by decide +kernel
theorem dX6_finest_46 : decode cX6_finest 46 = .ok (.invokevirtual 195, 3) := by decide +kernel
theorem dX6_finest_49 : decode cX6_finest 49 = .ok (.ifCond .le 65, 3) := by decide +kernel
theorem dX6_finest_52 : decode cX6_finest 52 = .ok (.aload_n 0, 1) := by decide +kernel
theorem dX6_finest_53 : decode cX6_finest 53 = .ok (.getfield 60, 3) := by decide +kernel
theorem dX6_finest_56 : decode cX6_finest 56 = .ok (.iconst 0, 1) := by decide +kernel
theorem dX6_finest_57 : decode cX6_finest 57 = .ok (.invokevirtual 198, 3) := by decide +kernel
theorem dX6_finest_60 : decode cX6_finest 60 = .ok (.aload_n 0, 1) := by decide +kernel
theorem dX6_finest_61 : decode cX6_finest 61 = .ok (.getfield 60, 3) := by decide +kernel
theorem dX6_finest_64 : decode cX6_finest 64 = .ok (.iconst 0, 1) := by decide +kernel
theorem dX6_finest_65 : decode cX6_finest 65 = .ok (.invokevirtual 201, 3) := by decide +kernel
theorem dX6_finest_68 : decode cX6_finest 68 = .ok (.ior, 1) := by decide +kernel
theorem dX6_finest_69 : decode cX6_finest 69 = .ok (.istore 4, 2) := by decide +kernel
theorem dX6_finest_71 : decode cX6_finest 71 = .ok (.aload_n 0, 1) := by decide +kernel
theorem dX6_finest_72 : decode cX6_finest 72 = .ok (.getfield 36, 3) := by decide +kernel
theorem dX6_finest_75 : decode cX6_finest 75 = .ok (.aload_n 0, 1) := by decide +kernel
theorem dX6_finest_76 : decode cX6_finest 76 = .ok (.getfield 12, 3) := by decide +kernel
theorem dX6_finest_79 : decode cX6_finest 79 = .ok (.invokevirtual 164, 3) := by decide +kernel
theorem dX6_finest_82 : decode cX6_finest 82 = .ok (.iload 4, 2) := by decide +kernel
theorem dX6_finest_84 : decode cX6_finest 84 = .ok (.iconst (-1), 1) := by decide +kernel
theorem dX6_finest_85 : decode cX6_finest 85 = .ok (.ixor, 1) := by decide +kernel
theorem dX6_finest_86 : decode cX6_finest 86 = .ok (.iand, 1) := by decide +kernel
theorem dX6_finest_87 : decode cX6_finest 87 = .ok (.aload_n 0, 1) := by decide +kernel
theorem dX6_finest_88 : decode cX6_finest 88 = .ok (.getfield 12, 3) := by decide +kernel
theorem dX6_finest_91 : decode cX6_finest 91 = .ok (.invokevirtual 209, 3) := by decide +kernel
theorem dX6_finest_94 : decode cX6_finest 94 = .ok (.invokestatic 212, 3) := by decide +kernel
theorem dX6_finest_97 : decode cX6_finest 97 = .ok (.invokevirtual 134, 3) := by decide +kernel
theorem dX6_finest_100 : decode cX6_finest 100 = .ok (.lstore 5, 2) := by decide +kernel
theorem dX6_finest_102 : decode cX6_finest 102 = .ok (.lload 5, 2) := by decide +kernel
theorem dX6_finest_104 : decode cX6_finest 104 = .ok (.lload_n 1, 1) := by decide +kernel
theorem dX6_finest_105 : decode cX6_finest 105 = .ok (.lcmp, 1) := by decide +kernel
theorem dX6_finest_106 : decode cX6_finest 106 = .ok (.ifCond .le 8, 3) := by decide +kernel
theorem dX6_finest_109 : decode cX6_finest 109 = .ok (.lload 5, 2) := by decide +kernel
theorem dX6_finest_111 : decode cX6_finest 111 = .ok (.lstore_n 1, 1) := by decide +kernel
theorem dX6_finest_112 : decode cX6_finest 112 = .ok (.iconst 1, 1) := by decide +kernel
theorem dX6_finest_113 : decode cX6_finest 113 = .ok (.istore_n 3, 1) := by decide +kernel
theorem dX6_finest_114 : decode cX6_finest 114 = .ok (.aload_n 0, 1) := by decide +kernel
theorem dX6_finest_115 : decode cX6_finest 115 = .ok (.invokevirtual 216, 3) := by decide +kernel
theorem dX6_finest_118 : decode cX6_finest 118 = .ok (.aload_n 0, 1) := by decide +kernel
theorem dX6_finest_119 : decode cX6_finest 119 = .ok (.getfield 36, 3) := by decide +kernel
theorem dX6_finest_122 : decode cX6_finest 122 = .ok (.aload_n 0, 1) := by decide +kernel
theorem dX6_finest_123 : decode cX6_finest 123 = .ok (.getfield 67, 3) := by decide +kernel
theorem dX6_finest_126 : decode cX6_finest 126 = .ok (.invokevirtual 219, 3) := by decide +kernel
theorem dX6_finest_129 : decode cX6_finest 129 = .ok (.invokevirtual 134, 3) := by decide +kernel
theorem dX6_finest_132 : decode cX6_finest 132 = .ok (.lload_n 1, 1) := by decide +kernel
theorem dX6_finest_133 : decode cX6_finest 133 = .ok (.lcmp, 1) := by decide +kernel
theorem dX6_finest_134 : decode cX6_finest 134 = .ok (.ifCond .le 7, 3) := by decide +kernel
theorem dX6_finest_137 : decode cX6_finest 137 = .ok (.iconst 2, 1) := by decide +kernel
theorem dX6_finest_138 : decode cX6_finest 138 = .ok (.goto 4, 3) := by decide +kernel
theorem dX6_finest_141 : decode cX6_finest 141 = .ok (.iload_n 3, 1) := by decide +kernel
theorem dX6_finest_142 : decode cX6_finest 142 = .ok (.ireturn, 1) := by decide +kernel
theorem dX6_lot_0 : decode cX6_lot 0 = .ok (.iload_n 1, 1) := by decide +kernel
theorem dX6_lot_1 : decode cX6_lot 1 = .ok (.ifCond .lt 8, 3) := by decide +kernel
theorem dX6_lot_4 : decode cX6_lot 4 = .ok (.iload_n 1, 1) := by decide +kernel
theorem dX6_lot_5 : decode cX6_lot 5 = .ok (.iconst 1, 1) := by decide +kernel
theorem dX6_lot_6 : decode cX6_lot 6 = .ok (.if_icmp .le 10, 3) := by decide +kernel
theorem dX6_lot_9 : decode cX6_lot 9 = .ok (.aload_n 0, 1) := by decide +kernel
theorem dX6_lot_10 : decode cX6_lot 10 = .ok (.bipush (-2), 2) := by decide +kernel
theorem dX6_lot_12 : decode cX6_lot 12 = .ok (.invokevirtual 127, 3) := by decide +kernel
theorem dX6_lot_15 : decode cX6_lot 15 = .ok (.lreturn, 1) := by decide +kernel
theorem dX6_lot_16 : decode cX6_lot 16 = .ok (.aload_n 0, 1) := by decide +kernel
theorem dX6_lot_17 : decode cX6_lot 17 = .ok (.getfield 12, 3) := by decide +kernel
theorem dX6_lot_20 : decode cX6_lot 20 = .ok (.invokevirtual 209, 3) := by decide +kernel
theorem dX6_lot_23 : decode cX6_lot 23 = .ok (.istore_n 2, 1) := by decide +kernel
theorem dX6_lot_24 : decode cX6_lot 24 = .ok (.aload_n 0, 1) := by decide +kernel
theorem dX6_lot_25 : decode cX6_lot 25 = .ok (.getfield 12, 3) := by decide +kernel
theorem dX6_lot_28 : decode cX6_lot 28 = .ok (.getfield 96, 3) := by decide +kernel
theorem dX6_lot_31 : decode cX6_lot 31 = .ok (.iload_n 2, 1) := by decide +kernel
theorem dX6_lot_32 : decode cX6_lot 32 = .ok (.if_icmp .ge 10, 3) := by decide +kernel
theorem dX6_lot_35 : decode cX6_lot 35 = .ok (.aload_n 0, 1) := by decide +kernel
theorem dX6_lot_36 : decode cX6_lot 36 = .ok (.bipush (-3), 2) := by decide +kernel
theorem dX6_lot_38 : decode cX6_lot 38 = .ok (.invokevirtual 127, 3) := by decide +kernel
theorem dX6_lot_41 : decode cX6_lot 41 = .ok (.lreturn, 1) := by decide +kernel
theorem dX6_lot_42 : decode cX6_lot 42 = .ok (.iload_n 1, 1) := by decide +kernel
theorem dX6_lot_43 : decode cX6_lot 43 = .ok (.iconst 1, 1) := by decide +kernel
theorem dX6_lot_44 : decode cX6_lot 44 = .ok (.if_icmp .ne 15, 3) := by decide +kernel
theorem dX6_lot_47 : decode cX6_lot 47 = .ok (.aload_n 0, 1) := by decide +kernel
theorem dX6_lot_48 : decode cX6_lot 48 = .ok (.getfield 12, 3) := by decide +kernel
theorem dX6_lot_51 : decode cX6_lot 51 = .ok (.getfield 96, 3) := by decide +kernel
theorem dX6_lot_54 : decode cX6_lot 54 = .ok (.iload_n 2, 1) := by decide +kernel
theorem dX6_lot_55 : decode cX6_lot 55 = .ok (.invokestatic 225, 3) := by decide +kernel
theorem dX6_lot_58 : decode cX6_lot 58 = .ok (.lreturn, 1) := by decide +kernel
theorem dX6_lot_59 : decode cX6_lot 59 = .ok (.aload_n 0, 1) := by decide +kernel
theorem dX6_lot_60 : decode cX6_lot 60 = .ok (.getfield 36, 3) := by decide +kernel
theorem dX6_lot_63 : decode cX6_lot 63 = .ok (.aload_n 0, 1) := by decide +kernel
theorem dX6_lot_64 : decode cX6_lot 64 = .ok (.getfield 12, 3) := by decide +kernel
theorem dX6_lot_67 : decode cX6_lot 67 = .ok (.getfield 96, 3) := by decide +kernel
theorem dX6_lot_70 : decode cX6_lot 70 = .ok (.invokevirtual 236, 3) := by decide +kernel
theorem dX6_lot_73 : decode cX6_lot 73 = .ok (.lreturn, 1) := by decide +kernel
theorem dX6_trade_0 : decode cX6_trade 0 = .ok (.aload_n 0, 1) := by decide +kernel
theorem dX6_trade_1 : decode cX6_trade 1 = .ok (.getfield 12, 3) := by decide +kernel
theorem dX6_trade_4 : decode cX6_trade 4 = .ok (.getfield 96, 3) := by decide +kernel
theorem dX6_trade_7 : decode cX6_trade 7 = .ok (.aload_n 0, 1) := by decide +kernel
theorem dX6_trade_8 : decode cX6_trade 8 = .ok (.getfield 12, 3) := by decide +kernel
theorem dX6_trade_11 : decode cX6_trade 11 = .ok (.invokevirtual 209, 3) := by decide +kernel
theorem dX6_trade_14 : decode cX6_trade 14 = .ok (.if_icmp .ge 10, 3) := by decide +kernel
theorem dX6_trade_17 : decode cX6_trade 17 = .ok (.aload_n 0, 1) := by decide +kernel
theorem dX6_trade_18 : decode cX6_trade 18 = .ok (.bipush (-3), 2) := by decide +kernel
theorem dX6_trade_20 : decode cX6_trade 20 = .ok (.invokevirtual 79, 3) := by decide +kernel
theorem dX6_trade_23 : decode cX6_trade 23 = .ok (.ireturn, 1) := by decide +kernel
theorem dX6_trade_24 : decode cX6_trade 24 = .ok (.iconst 0, 1) := by decide +kernel
theorem dX6_trade_25 : decode cX6_trade 25 = .ok (.istore_n 1, 1) := by decide +kernel
theorem dX6_trade_26 : decode cX6_trade 26 = .ok (.iconst 0, 1) := by decide +kernel
theorem dX6_trade_27 : decode cX6_trade 27 = .ok (.istore_n 2, 1) := by decide +kernel
theorem dX6_trade_28 : decode cX6_trade 28 = .ok (.iconst 0, 1) := by decide +kernel
theorem dX6_trade_29 : decode cX6_trade 29 = .ok (.istore_n 3, 1) := by decide +kernel
theorem dX6_trade_30 : decode cX6_trade 30 = .ok (.iload_n 3, 1) := by decide +kernel
theorem dX6_trade_31 : decode cX6_trade 31 = .ok (.bipush 42, 2) := by decide +kernel
theorem dX6_trade_33 : decode cX6_trade 33 = .ok (.if_icmp .ge 54, 3) := by decide +kernel
theorem dX6_trade_36 : decode cX6_trade 36 = .ok (.iload_n 2, 1) := by decide +kernel
theorem dX6_trade_37 : decode cX6_trade 37 = .ok (.aload_n 0, 1) := by decide +kernel
theorem dX6_trade_38 : decode cX6_trade 38 = .ok (.getfield 12, 3) := by decide +kernel
theorem dX6_trade_41 : decode cX6_trade 41 = .ok (.invokevirtual 209, 3) := by decide +kernel
theorem dX6_trade_44 : decode cX6_trade 44 = .ok (.if_icmp .ge 43, 3) := by decide +kernel
theorem dX6_trade_47 : decode cX6_trade 47 = .ok (.aload_n 0, 1) := by decide +kernel
theorem dX6_trade_48 : decode cX6_trade 48 = .ok (.getfield 12, 3) := by decide +kernel
theorem dX6_trade_51 : decode cX6_trade 51 = .ok (.iload_n 3, 1) := by decide +kernel
theorem dX6_trade_52 : decode cX6_trade 52 = .ok (.bipush 6, 2) := by decide +kernel
theorem dX6_trade_54 : decode cX6_trade 54 = .ok (.irem, 1) := by decide +kernel
theorem dX6_trade_55 : decode cX6_trade 55 = .ok (.invokevirtual 239, 3) := by decide +kernel
theorem dX6_trade_58 : decode cX6_trade 58 = .ok (.iload_n 1, 1) := by decide +kernel
theorem dX6_trade_59 : decode cX6_trade 59 = .ok (.iconst (-1), 1) := by decide +kernel
theorem dX6_trade_60 : decode cX6_trade 60 = .ok (.ixor, 1) := by decide +kernel
theorem dX6_trade_61 : decode cX6_trade 61 = .ok (.iand, 1) := by decide +kernel
theorem dX6_trade_62 : decode cX6_trade 62 = .ok (.istore 4, 2) := by decide +kernel
theorem dX6_trade_64 : decode cX6_trade 64 = .ok (.iload 4, 2) := by decide +kernel
theorem dX6_trade_66 : decode cX6_trade 66 = .ok (.ifCond .eq 15, 3) := by decide +kernel
theorem dX6_trade_69 : decode cX6_trade 69 = .ok (.iload_n 1, 1) := by decide +kernel
theorem dX6_trade_70 : decode cX6_trade 70 = .ok (.iload 4, 2) := by decide +kernel
theorem dX6_trade_72 : decode cX6_trade 72 = .ok (.iload 4, 2) := by decide +kernel
theorem dX6_trade_74 : decode cX6_trade 74 = .ok (.ineg, 1) := by decide +kernel
theorem dX6_trade_75 : decode cX6_trade 75 = .ok (.iand, 1) := by decide +kernel
theorem dX6_trade_76 : decode cX6_trade 76 = .ok (.ior, 1) := by decide +kernel
theorem dX6_trade_77 : decode cX6_trade 77 = .ok (.istore_n 1, 1) := by decide +kernel
theorem dX6_trade_78 : decode cX6_trade 78 = .ok (.iinc 2 1, 3) := by decide +kernel
theorem dX6_trade_81 : decode cX6_trade 81 = .ok (.iinc 3 1, 3) := by decide +kernel
theorem dX6_trade_84 : decode cX6_trade 84 = .ok (.goto (-54), 3) := by decide +kernel
theorem dX6_trade_87 : decode cX6_trade 87 = .ok (.iload_n 1, 1) := by decide +kernel
theorem dX6_trade_88 : decode cX6_trade 88 = .ok (.ireturn, 1) := by decide +kernel
theorem dX6_wrongly_0 : decode cX6_wrongly 0 = .ok (.iload_n 1, 1) := by decide +kernel
theorem dX6_wrongly_1 : decode cX6_wrongly 1 = .ok (.iload_n 2, 1) := by decide +kernel
theorem dX6_wrongly_2 : decode cX6_wrongly 2 = .ok (.iload_n 3, 1) := by decide +kernel
theorem dX6_wrongly_3 : decode cX6_wrongly 3 = .ok (.invokestatic 75, 3) := by decide +kernel
theorem dX6_wrongly_6 : decode cX6_wrongly 6 = .ok (.istore 4, 2) := by decide +kernel
theorem dX6_wrongly_8 : decode cX6_wrongly 8 = .ok (.iload 4, 2) := by decide +kernel
theorem dX6_wrongly_10 : decode cX6_wrongly 10 = .ok (.ifCond .eq 10, 3) := by decide +kernel
theorem dX6_wrongly_13 : decode cX6_wrongly 13 = .ok (.aload_n 0, 1) := by decide +kernel
theorem dX6_wrongly_14 : decode cX6_wrongly 14 = .ok (.iload 4, 2) := by decide +kernel
theorem dX6_wrongly_16 : decode cX6_wrongly 16 = .ok (.invokevirtual 127, 3) := by decide +kernel
theorem dX6_wrongly_19 : decode cX6_wrongly 19 = .ok (.lreturn, 1) := by decide +kernel
theorem dX6_wrongly_20 : decode cX6_wrongly 20 = .ok (.aload_n 0, 1) := by decide +kernel
theorem dX6_wrongly_21 : decode cX6_wrongly 21 = .ok (.getfield 12, 3) := by decide +kernel
theorem dX6_wrongly_24 : decode cX6_wrongly 24 = .ok (.invokevirtual 150, 3) := by decide +kernel
theorem dX6_wrongly_27 : decode cX6_wrongly 27 = .ok (.ifCond .ne 10, 3) := by decide +kernel
theorem dX6_wrongly_30 : decode cX6_wrongly 30 = .ok (.aload_n 0, 1) := by decide +kernel
theorem dX6_wrongly_31 : decode cX6_wrongly 31 = .ok (.bipush (-3), 2) := by decide +kernel
theorem dX6_wrongly_33 : decode cX6_wrongly 33 = .ok (.invokevirtual 127, 3) := by decide +kernel
theorem dX6_wrongly_36 : decode cX6_wrongly 36 = .ok (.lreturn, 1) := by decide +kernel
theorem dX6_wrongly_37 : decode cX6_wrongly 37 = .ok (.aload_n 0, 1) := by decide +kernel
theorem dX6_wrongly_38 : decode cX6_wrongly 38 = .ok (.getfield 40, 3) := by decide +kernel
theorem dX6_wrongly_41 : decode cX6_wrongly 41 = .ok (.aload_n 0, 1) := by decide +kernel
theorem dX6_wrongly_42 : decode cX6_wrongly 42 = .ok (.getfield 12, 3) := by decide +kernel
theorem dX6_wrongly_45 : decode cX6_wrongly 45 = .ok (.invokevirtual 71, 3) := by decide +kernel
theorem dX6_wrongly_48 : decode cX6_wrongly 48 = .ok (.iconst 0, 1) := by decide +kernel
theorem dX6_wrongly_49 : decode cX6_wrongly 49 = .ok (.istore 5, 2) := by decide +kernel
theorem dX6_wrongly_51 : decode cX6_wrongly 51 = .ok (.iload 5, 2) := by decide +kernel
theorem dX6_wrongly_53 : decode cX6_wrongly 53 = .ok (.aload_n 0, 1) := by decide +kernel
theorem dX6_wrongly_54 : decode cX6_wrongly 54 = .ok (.getfield 12, 3) := by decide +kernel
theorem dX6_wrongly_57 : decode cX6_wrongly 57 = .ok (.getfield 96, 3) := by decide +kernel
theorem dX6_wrongly_60 : decode cX6_wrongly 60 = .ok (.if_icmp .ge 34, 3) := by decide +kernel
theorem dX6_wrongly_63 : decode cX6_wrongly 63 = .ok (.aload_n 0, 1) := by decide +kernel
theorem dX6_wrongly_64 : decode cX6_wrongly 64 = .ok (.getfield 12, 3) := by decide +kernel
theorem dX6_wrongly_67 : decode cX6_wrongly 67 = .ok (.getfield 242, 3) := by decide +kernel
theorem dX6_wrongly_70 : decode cX6_wrongly 70 = .ok (.iload 5, 2) := by decide +kernel
theorem dX6_wrongly_72 : decode cX6_wrongly 72 = .ok (.iaload, 1) := by decide +kernel
theorem dX6_wrongly_73 : decode cX6_wrongly 73 = .ok (.iload_n 1, 1) := by decide +kernel
theorem dX6_wrongly_74 : decode cX6_wrongly 74 = .ok (.if_icmp .ne 14, 3) := by decide +kernel
theorem dX6_wrongly_77 : decode cX6_wrongly 77 = .ok (.aload_n 0, 1) := by decide +kernel
theorem dX6_wrongly_78 : decode cX6_wrongly 78 = .ok (.getfield 40, 3) := by decide +kernel
theorem dX6_wrongly_81 : decode cX6_wrongly 81 = .ok (.iload 5, 2) := by decide +kernel
theorem dX6_wrongly_83 : decode cX6_wrongly 83 = .ok (.iload_n 2, 1) := by decide +kernel
theorem dX6_wrongly_84 : decode cX6_wrongly 84 = .ok (.iload_n 3, 1) := by decide +kernel
theorem dX6_wrongly_85 : decode cX6_wrongly 85 = .ok (.invokevirtual 245, 3) := by decide +kernel
theorem dX6_wrongly_88 : decode cX6_wrongly 88 = .ok (.iinc 5 1, 3) := by decide +kernel
theorem dX6_wrongly_91 : decode cX6_wrongly 91 = .ok (.goto (-40), 3) := by decide +kernel
theorem dX6_wrongly_94 : decode cX6_wrongly 94 = .ok (.aload_n 0, 1) := by decide +kernel
theorem dX6_wrongly_95 : decode cX6_wrongly 95 = .ok (.invokevirtual 161, 3) := by decide +kernel
theorem dX6_wrongly_98 : decode cX6_wrongly 98 = .ok (.aload_n 0, 1) := by decide +kernel
theorem dX6_wrongly_99 : decode cX6_wrongly 99 = .ok (.aload_n 0, 1) := by decide +kernel
theorem dX6_wrongly_100 : decode cX6_wrongly 100 = .ok (.getfield 40, 3) := by decide +kernel
theorem dX6_wrongly_103 : decode cX6_wrongly 103 = .ok (.aload_n 0, 1) := by decide +kernel
theorem dX6_wrongly_104 : decode cX6_wrongly 104 = .ok (.getfield 12, 3) := by decide +kernel
theorem dX6_wrongly_107 : decode cX6_wrongly 107 = .ok (.iconst 0, 1) := by decide +kernel
theorem dX6_wrongly_108 : decode cX6_wrongly 108 = .ok (.invokevirtual 182, 3) := by decide +kernel
theorem dX6_wrongly_111 : decode cX6_wrongly 111 = .ok (.aload_n 0, 1) := by decide +kernel
theorem dX6_wrongly_112 : decode cX6_wrongly 112 = .ok (.getfield 12, 3) := by decide +kernel
theorem dX6_wrongly_115 : decode cX6_wrongly 115 = .ok (.iconst 1, 1) := by decide +kernel
theorem dX6_wrongly_116 : decode cX6_wrongly 116 = .ok (.invokevirtual 182, 3) := by decide +kernel
theorem dX6_wrongly_119 : decode cX6_wrongly 119 = .ok (.iconst 0, 1) := by decide +kernel
theorem dX6_wrongly_120 : decode cX6_wrongly 120 = .ok (.invokevirtual 185, 3) := by decide +kernel
theorem dX6_wrongly_123 : decode cX6_wrongly 123 = .ok (.pop2, 1) := by decide +kernel
theorem dX6_wrongly_124 : decode cX6_wrongly 124 = .ok (.aload_n 0, 1) := by decide +kernel
theorem dX6_wrongly_125 : decode cX6_wrongly 125 = .ok (.getfield 48, 3) := by decide +kernel
theorem dX6_wrongly_128 : decode cX6_wrongly 128 = .ok (.aload_n 0, 1) := by decide +kernel
theorem dX6_wrongly_129 : decode cX6_wrongly 129 = .ok (.invokevirtual 249, 3) := by decide +kernel
theorem dX6_wrongly_132 : decode cX6_wrongly 132 = .ok (.invokevirtual 144, 3) := by decide +kernel
theorem dX6_wrongly_135 : decode cX6_wrongly 135 = .ok (.aload_n 0, 1) := by decide +kernel
theorem dX6_wrongly_136 : decode cX6_wrongly 136 = .ok (.invokevirtual 154, 3) := by decide +kernel
theorem dX6_wrongly_139 : decode cX6_wrongly 139 = .ok (.lsub, 1) := by decide +kernel
theorem dX6_wrongly_140 : decode cX6_wrongly 140 = .ok (.lreturn, 1) := by decide +kernel
theorem dX6_asked_0 : decode cX6_asked 0 = .ok (.iload_n 1, 1) := by decide +kernel
theorem dX6_asked_1 : decode cX6_asked 1 = .ok (.ifCond .lt 14, 3) := by decide +kernel
theorem dX6_asked_4 : decode cX6_asked 4 = .ok (.iload_n 1, 1) := by decide +kernel
theorem dX6_asked_5 : decode cX6_asked 5 = .ok (.aload_n 0, 1) := by decide +kernel
theorem dX6_asked_6 : decode cX6_asked 6 = .ok (.getfield 12, 3) := by decide +kernel
theorem dX6_asked_9 : decode cX6_asked 9 = .ok (.getfield 96, 3) := by decide +kernel
theorem dX6_asked_12 : decode cX6_asked 12 = .ok (.if_icmp .lt 9, 3) := by decide +kernel
theorem dX6_asked_15 : decode cX6_asked 15 = .ok (.aload_n 0, 1) := by decide +kernel
theorem dX6_asked_16 : decode cX6_asked 16 = .ok (.iconst (-1), 1) := by decide +kernel
theorem dX6_asked_17 : decode cX6_asked 17 = .ok (.invokevirtual 127, 3) := by decide +kernel
theorem dX6_asked_20 : decode cX6_asked 20 = .ok (.lreturn, 1) := by decide +kernel
theorem dX6_asked_21 : decode cX6_asked 21 = .ok (.iload_n 2, 1) := by decide +kernel
theorem dX6_asked_22 : decode cX6_asked 22 = .ok (.ifCond .ge 10, 3) := by decide +kernel
theorem dX6_asked_25 : decode cX6_asked 25 = .ok (.aload_n 0, 1) := by decide +kernel
theorem dX6_asked_26 : decode cX6_asked 26 = .ok (.bipush (-4), 2) := by decide +kernel
theorem dX6_asked_28 : decode cX6_asked 28 = .ok (.invokevirtual 127, 3) := by decide +kernel
theorem dX6_asked_31 : decode cX6_asked 31 = .ok (.lreturn, 1) := by decide +kernel
theorem dX6_asked_32 : decode cX6_asked 32 = .ok (.iload_n 2, 1) := by decide +kernel
theorem dX6_asked_33 : decode cX6_asked 33 = .ok (.bipush 50, 2) := by decide +kernel
theorem dX6_asked_35 : decode cX6_asked 35 = .ok (.if_icmp .le 10, 3) := by decide +kernel
theorem dX6_asked_38 : decode cX6_asked 38 = .ok (.aload_n 0, 1) := by decide +kernel
theorem dX6_asked_39 : decode cX6_asked 39 = .ok (.bipush (-6), 2) := by decide +kernel
theorem dX6_asked_41 : decode cX6_asked 41 = .ok (.invokevirtual 127, 3) := by decide +kernel
theorem dX6_asked_44 : decode cX6_asked 44 = .ok (.lreturn, 1) := by decide +kernel
theorem dX6_asked_45 : decode cX6_asked 45 = .ok (.iload_n 1, 1) := by decide +kernel
theorem dX6_asked_46 : decode cX6_asked 46 = .ok (.aload_n 0, 1) := by decide +kernel
theorem dX6_asked_47 : decode cX6_asked 47 = .ok (.getfield 12, 3) := by decide +kernel
theorem dX6_asked_50 : decode cX6_asked 50 = .ok (.invokevirtual 150, 3) := by decide +kernel
theorem dX6_asked_53 : decode cX6_asked 53 = .ok (.if_icmp .lt 10, 3) := by decide +kernel
theorem dX6_asked_56 : decode cX6_asked 56 = .ok (.aload_n 0, 1) := by decide +kernel
theorem dX6_asked_57 : decode cX6_asked 57 = .ok (.bipush (-3), 2) := by decide +kernel
theorem dX6_asked_59 : decode cX6_asked 59 = .ok (.invokevirtual 127, 3) := by decide +kernel
theorem dX6_asked_62 : decode cX6_asked 62 = .ok (.lreturn, 1) := by decide +kernel
theorem dX6_asked_63 : decode cX6_asked 63 = .ok (.aload_n 0, 1) := by decide +kernel
theorem dX6_asked_64 : decode cX6_asked 64 = .ok (.iload_n 1, 1) := by decide +kernel
theorem dX6_asked_65 : decode cX6_asked 65 = .ok (.iload_n 2, 1) := by decide +kernel
theorem dX6_asked_66 : decode cX6_asked 66 = .ok (.invokevirtual 252, 3) := by decide +kernel
theorem dX6_asked_69 : decode cX6_asked 69 = .ok (.aload_n 0, 1) := by decide +kernel
theorem dX6_asked_70 : decode cX6_asked 70 = .ok (.iload_n 1, 1) := by decide +kernel
theorem dX6_asked_71 : decode cX6_asked 71 = .ok (.iload_n 2, 1) := by decide +kernel
theorem dX6_asked_72 : decode cX6_asked 72 = .ok (.ineg, 1) := by decide +kernel
theorem dX6_asked_73 : decode cX6_asked 73 = .ok (.invokevirtual 252, 3) := by decide +kernel
theorem dX6_asked_76 : decode cX6_asked 76 = .ok (.ladd, 1) := by decide +kernel
theorem dX6_asked_77 : decode cX6_asked 77 = .ok (.ldc2_w 255, 3) := by decide +kernel
theorem dX6_asked_80 : decode cX6_asked 80 = .ok (.aload_n 0, 1) := by decide +kernel
theorem dX6_asked_81 : decode cX6_asked 81 = .ok (.invokevirtual 154, 3) := by decide +kernel
theorem dX6_asked_84 : decode cX6_asked 84 = .ok (.lmul, 1) := by decide +kernel
theorem dX6_asked_85 : decode cX6_asked 85 = .ok (.lsub, 1) := by decide +kernel
theorem dX6_asked_86 : decode cX6_asked 86 = .ok (.lreturn, 1) := by decide +kernel
theorem dX6_image_0 : decode cX6_image 0 = .ok (.aload_n 0, 1) := by decide +kernel
theorem dX6_image_1 : decode cX6_image 1 = .ok (.getfield 16, 3) := by decide +kernel
theorem dX6_image_4 : decode cX6_image 4 = .ok (.aload_n 0, 1) := by decide +kernel
theorem dX6_image_5 : decode cX6_image 5 = .ok (.getfield 12, 3) := by decide +kernel
theorem dX6_image_8 : decode cX6_image 8 = .ok (.invokevirtual 257, 3) := by decide +kernel
theorem dX6_image_11 : decode cX6_image 11 = .ok (.aload_n 0, 1) := by decide +kernel
theorem dX6_image_12 : decode cX6_image 12 = .ok (.iconst 1, 1) := by decide +kernel
theorem dX6_image_13 : decode cX6_image 13 = .ok (.putfield 260, 3) := by decide +kernel
theorem dX6_image_16 : decode cX6_image 16 = .ok (.aload_n 0, 1) := by decide +kernel
theorem dX6_image_17 : decode cX6_image 17 = .ok (.getfield 12, 3) := by decide +kernel
theorem dX6_image_20 : decode cX6_image 20 = .ok (.getfield 96, 3) := by decide +kernel
theorem dX6_image_23 : decode cX6_image 23 = .ok (.ireturn, 1) := by decide +kernel
theorem dX6_restore_0 : decode cX6_restore 0 = .ok (.aload_n 0, 1) := by decide +kernel
theorem dX6_restore_1 : decode cX6_restore 1 = .ok (.getfield 260, 3) := by decide +kernel
theorem dX6_restore_4 : decode cX6_restore 4 = .ok (.ifCond .ne 10, 3) := by decide +kernel
theorem dX6_restore_7 : decode cX6_restore 7 = .ok (.aload_n 0, 1) := by decide +kernel
theorem dX6_restore_8 : decode cX6_restore 8 = .ok (.bipush (-3), 2) := by decide +kernel
theorem dX6_restore_10 : decode cX6_restore 10 = .ok (.invokevirtual 79, 3) := by decide +kernel
theorem dX6_restore_13 : decode cX6_restore 13 = .ok (.ireturn, 1) := by decide +kernel
theorem dX6_restore_14 : decode cX6_restore 14 = .ok (.aload_n 0, 1) := by decide +kernel
theorem dX6_restore_15 : decode cX6_restore 15 = .ok (.getfield 12, 3) := by decide +kernel
theorem dX6_restore_18 : decode cX6_restore 18 = .ok (.aload_n 0, 1) := by decide +kernel
theorem dX6_restore_19 : decode cX6_restore 19 = .ok (.getfield 16, 3) := by decide +kernel
theorem dX6_restore_22 : decode cX6_restore 22 = .ok (.invokevirtual 257, 3) := by decide +kernel
theorem dX6_restore_25 : decode cX6_restore 25 = .ok (.aload_n 0, 1) := by decide +kernel
theorem dX6_restore_26 : decode cX6_restore 26 = .ok (.invokevirtual 89, 3) := by decide +kernel
theorem dX6_restore_29 : decode cX6_restore 29 = .ok (.aload_n 0, 1) := by decide +kernel
theorem dX6_restore_30 : decode cX6_restore 30 = .ok (.getfield 12, 3) := by decide +kernel
theorem dX6_restore_33 : decode cX6_restore 33 = .ok (.getfield 96, 3) := by decide +kernel
theorem dX6_restore_36 : decode cX6_restore 36 = .ok (.ireturn, 1) := by decide +kernel
theorem dX6_count_0 : decode cX6_count 0 = .ok (.iload_n 1, 1) := by decide +kernel
theorem dX6_count_1 : decode cX6_count 1 = .ok (.iconst 4, 1) := by decide +kernel
theorem dX6_count_2 : decode cX6_count 2 = .ok (.if_icmp .lt 23, 3) := by decide +kernel
theorem dX6_count_5 : decode cX6_count 5 = .ok (.iload_n 1, 1) := by decide +kernel
theorem dX6_count_6 : decode cX6_count 6 = .ok (.bipush 9, 2) := by decide +kernel
theorem dX6_count_8 : decode cX6_count 8 = .ok (.if_icmp .gt 17, 3) := by decide +kernel
theorem dX6_count_11 : decode cX6_count 11 = .ok (.aload_n 0, 1) := by decide +kernel
theorem dX6_count_12 : decode cX6_count 12 = .ok (.getfield 12, 3) := by decide +kernel
theorem dX6_count_15 : decode cX6_count 15 = .ok (.iload_n 1, 1) := by decide +kernel
theorem dX6_count_16 : decode cX6_count 16 = .ok (.iconst 4, 1) := by decide +kernel
theorem dX6_count_17 : decode cX6_count 17 = .ok (.isub, 1) := by decide +kernel
theorem dX6_count_18 : decode cX6_count 18 = .ok (.invokevirtual 239, 3) := by decide +kernel
theorem dX6_count_21 : decode cX6_count 21 = .ok (.invokestatic 204, 3) := by decide +kernel
theorem dX6_count_24 : decode cX6_count 24 = .ok (.ireturn, 1) := by decide +kernel
theorem dX6_count_25 : decode cX6_count 25 = .ok (.iload_n 1, 1) := by decide +kernel
theorem dX6_count_26 : decode cX6_count 26 = .ok (.bipush 11, 2) := by decide +kernel
theorem dX6_count_28 : decode cX6_count 28 = .ok (.if_icmp .lt 19, 3) := by decide +kernel
theorem dX6_count_31 : decode cX6_count 31 = .ok (.iload_n 1, 1) := by decide +kernel
theorem dX6_count_32 : decode cX6_count 32 = .ok (.bipush 16, 2) := by decide +kernel
theorem dX6_count_34 : decode cX6_count 34 = .ok (.if_icmp .gt 13, 3) := by decide +kernel
theorem dX6_count_37 : decode cX6_count 37 = .ok (.aload_n 0, 1) := by decide +kernel
theorem dX6_count_38 : decode cX6_count 38 = .ok (.getfield 30, 3) := by decide +kernel
theorem dX6_count_41 : decode cX6_count 41 = .ok (.iload_n 1, 1) := by decide +kernel
theorem dX6_count_42 : decode cX6_count 42 = .ok (.bipush 10, 2) := by decide +kernel
theorem dX6_count_44 : decode cX6_count 44 = .ok (.isub, 1) := by decide +kernel
theorem dX6_count_45 : decode cX6_count 45 = .ok (.iaload, 1) := by decide +kernel
theorem dX6_count_46 : decode cX6_count 46 = .ok (.ireturn, 1) := by decide +kernel
theorem dX6_count_47 : decode cX6_count 47 = .ok (.iload_n 1, 1) := by decide +kernel
theorem dX6_count_48 : decode cX6_count 48 = .ok (.tableswitch 61 0 3 #[32, 40, 48, 56], 32) := by decide +kernel
theorem dX6_count_80 : decode cX6_count 80 = .ok (.aload_n 0, 1) := by decide +kernel
theorem dX6_count_81 : decode cX6_count 81 = .ok (.getfield 12, 3) := by decide +kernel
theorem dX6_count_84 : decode cX6_count 84 = .ok (.getfield 96, 3) := by decide +kernel
theorem dX6_count_87 : decode cX6_count 87 = .ok (.ireturn, 1) := by decide +kernel
theorem dX6_count_88 : decode cX6_count 88 = .ok (.aload_n 0, 1) := by decide +kernel
theorem dX6_count_89 : decode cX6_count 89 = .ok (.getfield 12, 3) := by decide +kernel
theorem dX6_count_92 : decode cX6_count 92 = .ok (.invokevirtual 150, 3) := by decide +kernel
theorem dX6_count_95 : decode cX6_count 95 = .ok (.ireturn, 1) := by decide +kernel
theorem dX6_count_96 : decode cX6_count 96 = .ok (.aload_n 0, 1) := by decide +kernel
theorem dX6_count_97 : decode cX6_count 97 = .ok (.getfield 22, 3) := by decide +kernel
theorem dX6_count_100 : decode cX6_count 100 = .ok (.getfield 113, 3) := by decide +kernel
theorem dX6_count_103 : decode cX6_count 103 = .ok (.ireturn, 1) := by decide +kernel
theorem dX6_count_104 : decode cX6_count 104 = .ok (.aload_n 0, 1) := by decide +kernel
theorem dX6_count_105 : decode cX6_count 105 = .ok (.getfield 167, 3) := by decide +kernel
theorem dX6_count_108 : decode cX6_count 108 = .ok (.ireturn, 1) := by decide +kernel
theorem dX6_count_109 : decode cX6_count 109 = .ok (.bipush (-9), 2) := by decide +kernel
theorem dX6_count_111 : decode cX6_count 111 = .ok (.ireturn, 1) := by decide +kernel
theorem dX6_refuse_0 : decode cX6_refuse 0 = .ok (.aload_n 0, 1) := by decide +kernel
theorem dX6_refuse_1 : decode cX6_refuse 1 = .ok (.getfield 30, 3) := by decide +kernel
theorem dX6_refuse_4 : decode cX6_refuse 4 = .ok (.iload_n 1, 1) := by decide +kernel
theorem dX6_refuse_5 : decode cX6_refuse 5 = .ok (.ineg, 1) := by decide +kernel
theorem dX6_refuse_6 : decode cX6_refuse 6 = .ok (.dup2, 1) := by decide +kernel
theorem dX6_refuse_7 : decode cX6_refuse 7 = .ok (.iaload, 1) := by decide +kernel
theorem dX6_refuse_8 : decode cX6_refuse 8 = .ok (.iconst 1, 1) := by decide +kernel
theorem dX6_refuse_9 : decode cX6_refuse 9 = .ok (.iadd, 1) := by decide +kernel
theorem dX6_refuse_10 : decode cX6_refuse 10 = .ok (.iastore, 1) := by decide +kernel
theorem dX6_refuse_11 : decode cX6_refuse 11 = .ok (.iload_n 1, 1) := by decide +kernel
theorem dX6_refuse_12 : decode cX6_refuse 12 = .ok (.ireturn, 1) := by decide +kernel
theorem dX6_refuseLong_0 : decode cX6_refuseLong 0 = .ok (.aload_n 0, 1) := by decide +kernel
theorem dX6_refuseLong_1 : decode cX6_refuseLong 1 = .ok (.iload_n 1, 1) := by decide +kernel
theorem dX6_refuseLong_2 : decode cX6_refuseLong 2 = .ok (.invokevirtual 79, 3) := by decide +kernel
theorem dX6_refuseLong_5 : decode cX6_refuseLong 5 = .ok (.i2l, 1) := by decide +kernel
theorem dX6_refuseLong_6 : decode cX6_refuseLong 6 = .ok (.ldc2_w 264, 3) := by decide +kernel
theorem dX6_refuseLong_9 : decode cX6_refuseLong 9 = .ok (.lsub, 1) := by decide +kernel
theorem dX6_refuseLong_10 : decode cX6_refuseLong 10 = .ok (.lreturn, 1) := by decide +kernel
theorem dX6_isSort_0 : decode cX6_isSort 0 = .ok (.iload_n 0, 1) := by decide +kernel
theorem dX6_isSort_1 : decode cX6_isSort 1 = .ok (.ifCond .lt 13, 3) := by decide +kernel
theorem dX6_isSort_4 : decode cX6_isSort 4 = .ok (.iload_n 0, 1) := by decide +kernel
theorem dX6_isSort_5 : decode cX6_isSort 5 = .ok (.bipush 6, 2) := by decide +kernel
theorem dX6_isSort_7 : decode cX6_isSort 7 = .ok (.if_icmp .ge 7, 3) := by decide +kernel
theorem dX6_isSort_10 : decode cX6_isSort 10 = .ok (.iconst 1, 1) := by decide +kernel
theorem dX6_isSort_11 : decode cX6_isSort 11 = .ok (.goto 4, 3) := by decide +kernel
theorem dX6_isSort_14 : decode cX6_isSort 14 = .ok (.iconst 0, 1) := by decide +kernel
theorem dX6_isSort_15 : decode cX6_isSort 15 = .ok (.ireturn, 1) := by decide +kernel
theorem dX6_isSide_0 : decode cX6_isSide 0 = .ok (.iload_n 0, 1) := by decide +kernel
theorem dX6_isSide_1 : decode cX6_isSide 1 = .ok (.ifCond .eq 8, 3) := by decide +kernel
theorem dX6_isSide_4 : decode cX6_isSide 4 = .ok (.iload_n 0, 1) := by decide +kernel
theorem dX6_isSide_5 : decode cX6_isSide 5 = .ok (.iconst 1, 1) := by decide +kernel
theorem dX6_isSide_6 : decode cX6_isSide 6 = .ok (.if_icmp .ne 7, 3) := by decide +kernel
theorem dX6_isSide_9 : decode cX6_isSide 9 = .ok (.iconst 1, 1) := by decide +kernel
theorem dX6_isSide_10 : decode cX6_isSide 10 = .ok (.goto 4, 3) := by decide +kernel
theorem dX6_isSide_13 : decode cX6_isSide 13 = .ok (.iconst 0, 1) := by decide +kernel
theorem dX6_isSide_14 : decode cX6_isSide 14 = .ok (.ireturn, 1) := by decide +kernel
theorem dX6_leansRefusal_0 : decode cX6_leansRefusal 0 = .ok (.iload_n 0, 1) := by decide +kernel
theorem dX6_leansRefusal_1 : decode cX6_leansRefusal 1 = .ok (.invokestatic 92, 3) := by decide +kernel
theorem dX6_leansRefusal_4 : decode cX6_leansRefusal 4 = .ok (.ifCond .ne 5, 3) := by decide +kernel
theorem dX6_leansRefusal_7 : decode cX6_leansRefusal 7 = .ok (.iconst (-1), 1) := by decide +kernel
theorem dX6_leansRefusal_8 : decode cX6_leansRefusal 8 = .ok (.ireturn, 1) := by decide +kernel
theorem dX6_leansRefusal_9 : decode cX6_leansRefusal 9 = .ok (.iload_n 1, 1) := by decide +kernel
theorem dX6_leansRefusal_10 : decode cX6_leansRefusal 10 = .ok (.ifCond .lt 7, 3) := by decide +kernel
theorem dX6_leansRefusal_13 : decode cX6_leansRefusal 13 = .ok (.iload_n 2, 1) := by decide +kernel
theorem dX6_leansRefusal_14 : decode cX6_leansRefusal 14 = .ok (.ifCond .ge 6, 3) := by decide +kernel
theorem dX6_leansRefusal_17 : decode cX6_leansRefusal 17 = .ok (.bipush (-4), 2) := by decide +kernel
theorem dX6_leansRefusal_19 : decode cX6_leansRefusal 19 = .ok (.ireturn, 1) := by decide +kernel
theorem dX6_leansRefusal_20 : decode cX6_leansRefusal 20 = .ok (.iload_n 1, 1) := by decide +kernel
theorem dX6_leansRefusal_21 : decode cX6_leansRefusal 21 = .ok (.bipush 100, 2) := by decide +kernel
theorem dX6_leansRefusal_23 : decode cX6_leansRefusal 23 = .ok (.if_icmp .gt 9, 3) := by decide +kernel
theorem dX6_leansRefusal_26 : decode cX6_leansRefusal 26 = .ok (.iload_n 2, 1) := by decide +kernel
theorem dX6_leansRefusal_27 : decode cX6_leansRefusal 27 = .ok (.bipush 100, 2) := by decide +kernel
theorem dX6_leansRefusal_29 : decode cX6_leansRefusal 29 = .ok (.if_icmp .le 8, 3) := by decide +kernel
theorem dX6_leansRefusal_32 : decode cX6_leansRefusal 32 = .ok (.bipush (-6), 2) := by decide +kernel
theorem dX6_leansRefusal_34 : decode cX6_leansRefusal 34 = .ok (.goto 4, 3) := by decide +kernel
theorem dX6_leansRefusal_37 : decode cX6_leansRefusal 37 = .ok (.iconst 0, 1) := by decide +kernel
theorem dX6_leansRefusal_38 : decode cX6_leansRefusal 38 = .ok (.ireturn, 1) := by decide +kernel
theorem dX6_juryRefusal_0 : decode cX6_juryRefusal 0 = .ok (.iload_n 1, 1) := by decide +kernel
theorem dX6_juryRefusal_1 : decode cX6_juryRefusal 1 = .ok (.aload_n 0, 1) := by decide +kernel
theorem dX6_juryRefusal_2 : decode cX6_juryRefusal 2 = .ok (.getfield 12, 3) := by decide +kernel
theorem dX6_juryRefusal_5 : decode cX6_juryRefusal 5 = .ok (.invokevirtual 266, 3) := by decide +kernel
theorem dX6_juryRefusal_8 : decode cX6_juryRefusal 8 = .ok (.iconst (-1), 1) := by decide +kernel
theorem dX6_juryRefusal_9 : decode cX6_juryRefusal 9 = .ok (.ixor, 1) := by decide +kernel
theorem dX6_juryRefusal_10 : decode cX6_juryRefusal 10 = .ok (.iand, 1) := by decide +kernel
theorem dX6_juryRefusal_11 : decode cX6_juryRefusal 11 = .ok (.ifCond .eq 5, 3) := by decide +kernel
theorem dX6_juryRefusal_14 : decode cX6_juryRefusal 14 = .ok (.iconst (-1), 1) := by decide +kernel
theorem dX6_juryRefusal_15 : decode cX6_juryRefusal 15 = .ok (.ireturn, 1) := by decide +kernel
theorem dX6_juryRefusal_16 : decode cX6_juryRefusal 16 = .ok (.iload_n 1, 1) := by decide +kernel
theorem dX6_juryRefusal_17 : decode cX6_juryRefusal 17 = .ok (.invokestatic 204, 3) := by decide +kernel
theorem dX6_juryRefusal_20 : decode cX6_juryRefusal 20 = .ok (.aload_n 0, 1) := by decide +kernel
theorem dX6_juryRefusal_21 : decode cX6_juryRefusal 21 = .ok (.getfield 12, 3) := by decide +kernel
theorem dX6_juryRefusal_24 : decode cX6_juryRefusal 24 = .ok (.invokevirtual 209, 3) := by decide +kernel
theorem dX6_juryRefusal_27 : decode cX6_juryRefusal 27 = .ok (.if_icmp .eq 8, 3) := by decide +kernel
theorem dX6_juryRefusal_30 : decode cX6_juryRefusal 30 = .ok (.bipush (-3), 2) := by decide +kernel
theorem dX6_juryRefusal_32 : decode cX6_juryRefusal 32 = .ok (.goto 4, 3) := by decide +kernel
theorem dX6_juryRefusal_35 : decode cX6_juryRefusal 35 = .ok (.iconst 0, 1) := by decide +kernel
theorem dX6_juryRefusal_36 : decode cX6_juryRefusal 36 = .ok (.ireturn, 1) := by decide +kernel
theorem dX6_leftRefusal_0 : decode cX6_leftRefusal 0 = .ok (.iload_n 3, 1) := by decide +kernel
theorem dX6_leftRefusal_1 : decode cX6_leftRefusal 1 = .ok (.invokestatic 189, 3) := by decide +kernel
theorem dX6_leftRefusal_4 : decode cX6_leftRefusal 4 = .ok (.ifCond .eq 17, 3) := by decide +kernel
theorem dX6_leftRefusal_7 : decode cX6_leftRefusal 7 = .ok (.iload_n 1, 1) := by decide +kernel
theorem dX6_leftRefusal_8 : decode cX6_leftRefusal 8 = .ok (.aload_n 0, 1) := by decide +kernel
theorem dX6_leftRefusal_9 : decode cX6_leftRefusal 9 = .ok (.getfield 12, 3) := by decide +kernel
theorem dX6_leftRefusal_12 : decode cX6_leftRefusal 12 = .ok (.invokevirtual 266, 3) := by decide +kernel
theorem dX6_leftRefusal_15 : decode cX6_leftRefusal 15 = .ok (.iconst (-1), 1) := by decide +kernel
theorem dX6_leftRefusal_16 : decode cX6_leftRefusal 16 = .ok (.ixor, 1) := by decide +kernel
theorem dX6_leftRefusal_17 : decode cX6_leftRefusal 17 = .ok (.iand, 1) := by decide +kernel
theorem dX6_leftRefusal_18 : decode cX6_leftRefusal 18 = .ok (.ifCond .eq 5, 3) := by decide +kernel
theorem dX6_leftRefusal_21 : decode cX6_leftRefusal 21 = .ok (.iconst (-1), 1) := by decide +kernel
theorem dX6_leftRefusal_22 : decode cX6_leftRefusal 22 = .ok (.ireturn, 1) := by decide +kernel
theorem dX6_leftRefusal_23 : decode cX6_leftRefusal 23 = .ok (.iload_n 2, 1) := by decide +kernel
theorem dX6_leftRefusal_24 : decode cX6_leftRefusal 24 = .ok (.ifCond .ge 6, 3) := by decide +kernel
theorem dX6_leftRefusal_27 : decode cX6_leftRefusal 27 = .ok (.bipush (-4), 2) := by decide +kernel
theorem dX6_leftRefusal_29 : decode cX6_leftRefusal 29 = .ok (.ireturn, 1) := by decide +kernel
theorem dX6_leftRefusal_30 : decode cX6_leftRefusal 30 = .ok (.iload_n 2, 1) := by decide +kernel
theorem dX6_leftRefusal_31 : decode cX6_leftRefusal 31 = .ok (.bipush 10, 2) := by decide +kernel
theorem dX6_leftRefusal_33 : decode cX6_leftRefusal 33 = .ok (.idiv, 1) := by decide +kernel
theorem dX6_leftRefusal_34 : decode cX6_leftRefusal 34 = .ok (.istore 4, 2) := by decide +kernel
theorem dX6_leftRefusal_36 : decode cX6_leftRefusal 36 = .ok (.iload_n 2, 1) := by decide +kernel
theorem dX6_leftRefusal_37 : decode cX6_leftRefusal 37 = .ok (.bipush 10, 2) := by decide +kernel
theorem dX6_leftRefusal_39 : decode cX6_leftRefusal 39 = .ok (.irem, 1) := by decide +kernel
theorem dX6_leftRefusal_40 : decode cX6_leftRefusal 40 = .ok (.istore 5, 2) := by decide +kernel
theorem dX6_leftRefusal_42 : decode cX6_leftRefusal 42 = .ok (.iload 4, 2) := by decide +kernel
theorem dX6_leftRefusal_44 : decode cX6_leftRefusal 44 = .ok (.iconst 3, 1) := by decide +kernel
theorem dX6_leftRefusal_45 : decode cX6_leftRefusal 45 = .ok (.if_icmp .gt 9, 3) := by decide +kernel
theorem dX6_leftRefusal_48 : decode cX6_leftRefusal 48 = .ok (.iload 5, 2) := by decide +kernel
theorem dX6_leftRefusal_50 : decode cX6_leftRefusal 50 = .ok (.iconst 3, 1) := by decide +kernel
theorem dX6_leftRefusal_51 : decode cX6_leftRefusal 51 = .ok (.if_icmp .le 6, 3) := by decide +kernel
theorem dX6_leftRefusal_54 : decode cX6_leftRefusal 54 = .ok (.bipush (-6), 2) := by decide +kernel
theorem dX6_leftRefusal_56 : decode cX6_leftRefusal 56 = .ok (.ireturn, 1) := by decide +kernel
theorem dX6_leftRefusal_57 : decode cX6_leftRefusal 57 = .ok (.iload_n 1, 1) := by decide +kernel
theorem dX6_leftRefusal_58 : decode cX6_leftRefusal 58 = .ok (.invokestatic 204, 3) := by decide +kernel
theorem dX6_leftRefusal_61 : decode cX6_leftRefusal 61 = .ok (.aload_n 0, 1) := by decide +kernel
theorem dX6_leftRefusal_62 : decode cX6_leftRefusal 62 = .ok (.getfield 12, 3) := by decide +kernel
theorem dX6_leftRefusal_65 : decode cX6_leftRefusal 65 = .ok (.invokevirtual 209, 3) := by decide +kernel
theorem dX6_leftRefusal_68 : decode cX6_leftRefusal 68 = .ok (.iload 4, 2) := by decide +kernel
theorem dX6_leftRefusal_70 : decode cX6_leftRefusal 70 = .ok (.iadd, 1) := by decide +kernel
theorem dX6_leftRefusal_71 : decode cX6_leftRefusal 71 = .ok (.iload 5, 2) := by decide +kernel
theorem dX6_leftRefusal_73 : decode cX6_leftRefusal 73 = .ok (.iadd, 1) := by decide +kernel
theorem dX6_leftRefusal_74 : decode cX6_leftRefusal 74 = .ok (.if_icmp .eq 8, 3) := by decide +kernel
theorem dX6_leftRefusal_77 : decode cX6_leftRefusal 77 = .ok (.bipush (-3), 2) := by decide +kernel
theorem dX6_leftRefusal_79 : decode cX6_leftRefusal 79 = .ok (.goto 4, 3) := by decide +kernel
theorem dX6_leftRefusal_82 : decode cX6_leftRefusal 82 = .ok (.iconst 0, 1) := by decide +kernel
theorem dX6_leftRefusal_83 : decode cX6_leftRefusal 83 = .ok (.ireturn, 1) := by decide +kernel
theorem dX6_changed_0 : decode cX6_changed 0 = .ok (.aload_n 0, 1) := by decide +kernel
theorem dX6_changed_1 : decode cX6_changed 1 = .ok (.getfield 36, 3) := by decide +kernel
theorem dX6_changed_4 : decode cX6_changed 4 = .ok (.aload_n 0, 1) := by decide +kernel
theorem dX6_changed_5 : decode cX6_changed 5 = .ok (.getfield 12, 3) := by decide +kernel
theorem dX6_changed_8 : decode cX6_changed 8 = .ok (.invokevirtual 71, 3) := by decide +kernel
theorem dX6_changed_11 : decode cX6_changed 11 = .ok (.aload_n 0, 1) := by decide +kernel
theorem dX6_changed_12 : decode cX6_changed 12 = .ok (.iconst 0, 1) := by decide +kernel
theorem dX6_changed_13 : decode cX6_changed 13 = .ok (.putfield 269, 3) := by decide +kernel
theorem dX6_changed_16 : decode cX6_changed 16 = .ok (.aload_n 0, 1) := by decide +kernel
theorem dX6_changed_17 : decode cX6_changed 17 = .ok (.iconst 0, 1) := by decide +kernel
theorem dX6_changed_18 : decode cX6_changed 18 = .ok (.putfield 272, 3) := by decide +kernel
theorem dX6_changed_21 : decode cX6_changed 21 = .ok (.aload_n 0, 1) := by decide +kernel
theorem dX6_changed_22 : decode cX6_changed 22 = .ok (.iconst 0, 1) := by decide +kernel
theorem dX6_changed_23 : decode cX6_changed 23 = .ok (.putfield 275, 3) := by decide +kernel
theorem dX6_changed_26 : decode cX6_changed 26 = .ok (.return_, 1) := by decide +kernel
theorem dX6_knowTurns_0 : decode cX6_knowTurns 0 = .ok (.aload_n 0, 1) := by decide +kernel
theorem dX6_knowTurns_1 : decode cX6_knowTurns 1 = .ok (.getfield 269, 3) := by decide +kernel
theorem dX6_knowTurns_4 : decode cX6_knowTurns 4 = .ok (.ifCond .ne 43, 3) := by decide +kernel
theorem dX6_knowTurns_7 : decode cX6_knowTurns 7 = .ok (.aload_n 0, 1) := by decide +kernel
theorem dX6_knowTurns_8 : decode cX6_knowTurns 8 = .ok (.getfield 48, 3) := by decide +kernel
theorem dX6_knowTurns_11 : decode cX6_knowTurns 11 = .ok (.aload_n 0, 1) := by decide +kernel
theorem dX6_knowTurns_12 : decode cX6_knowTurns 12 = .ok (.getfield 36, 3) := by decide +kernel
theorem dX6_knowTurns_15 : decode cX6_knowTurns 15 = .ok (.aload_n 0, 1) := by decide +kernel
theorem dX6_knowTurns_16 : decode cX6_knowTurns 16 = .ok (.getfield 12, 3) := by decide +kernel
theorem dX6_knowTurns_19 : decode cX6_knowTurns 19 = .ok (.invokevirtual 164, 3) := by decide +kernel
theorem dX6_knowTurns_22 : decode cX6_knowTurns 22 = .ok (.aload_n 0, 1) := by decide +kernel
theorem dX6_knowTurns_23 : decode cX6_knowTurns 23 = .ok (.getfield 12, 3) := by decide +kernel
theorem dX6_knowTurns_26 : decode cX6_knowTurns 26 = .ok (.iconst 0, 1) := by decide +kernel
theorem dX6_knowTurns_27 : decode cX6_knowTurns 27 = .ok (.invokevirtual 182, 3) := by decide +kernel
theorem dX6_knowTurns_30 : decode cX6_knowTurns 30 = .ok (.aload_n 0, 1) := by decide +kernel
theorem dX6_knowTurns_31 : decode cX6_knowTurns 31 = .ok (.getfield 12, 3) := by decide +kernel
theorem dX6_knowTurns_34 : decode cX6_knowTurns 34 = .ok (.iconst 1, 1) := by decide +kernel
theorem dX6_knowTurns_35 : decode cX6_knowTurns 35 = .ok (.invokevirtual 182, 3) := by decide +kernel
theorem dX6_knowTurns_38 : decode cX6_knowTurns 38 = .ok (.iconst 0, 1) := by decide +kernel
theorem dX6_knowTurns_39 : decode cX6_knowTurns 39 = .ok (.invokevirtual 140, 3) := by decide +kernel
theorem dX6_knowTurns_42 : decode cX6_knowTurns 42 = .ok (.aload_n 0, 1) := by decide +kernel
theorem dX6_knowTurns_43 : decode cX6_knowTurns 43 = .ok (.iconst 1, 1) := by decide +kernel
theorem dX6_knowTurns_44 : decode cX6_knowTurns 44 = .ok (.putfield 269, 3) := by decide +kernel
theorem dX6_knowTurns_47 : decode cX6_knowTurns 47 = .ok (.return_, 1) := by decide +kernel
theorem dX6_knowPaper_0 : decode cX6_knowPaper 0 = .ok (.aload_n 0, 1) := by decide +kernel
theorem dX6_knowPaper_1 : decode cX6_knowPaper 1 = .ok (.getfield 272, 3) := by decide +kernel
theorem dX6_knowPaper_4 : decode cX6_knowPaper 4 = .ok (.ifCond .ne 23, 3) := by decide +kernel
theorem dX6_knowPaper_7 : decode cX6_knowPaper 7 = .ok (.aload_n 0, 1) := by decide +kernel
theorem dX6_knowPaper_8 : decode cX6_knowPaper 8 = .ok (.invokevirtual 161, 3) := by decide +kernel
theorem dX6_knowPaper_11 : decode cX6_knowPaper 11 = .ok (.aload_n 0, 1) := by decide +kernel
theorem dX6_knowPaper_12 : decode cX6_knowPaper 12 = .ok (.getfield 60, 3) := by decide +kernel
theorem dX6_knowPaper_15 : decode cX6_knowPaper 15 = .ok (.aload_n 0, 1) := by decide +kernel
theorem dX6_knowPaper_16 : decode cX6_knowPaper 16 = .ok (.getfield 12, 3) := by decide +kernel
theorem dX6_knowPaper_19 : decode cX6_knowPaper 19 = .ok (.invokevirtual 278, 3) := by decide +kernel
theorem dX6_knowPaper_22 : decode cX6_knowPaper 22 = .ok (.aload_n 0, 1) := by decide +kernel
theorem dX6_knowPaper_23 : decode cX6_knowPaper 23 = .ok (.iconst 1, 1) := by decide +kernel
theorem dX6_knowPaper_24 : decode cX6_knowPaper 24 = .ok (.putfield 272, 3) := by decide +kernel
theorem dX6_knowPaper_27 : decode cX6_knowPaper 27 = .ok (.return_, 1) := by decide +kernel
theorem dX6_knowComing_0 : decode cX6_knowComing 0 = .ok (.aload_n 0, 1) := by decide +kernel
theorem dX6_knowComing_1 : decode cX6_knowComing 1 = .ok (.getfield 275, 3) := by decide +kernel
theorem dX6_knowComing_4 : decode cX6_knowComing 4 = .ok (.ifCond .ne 23, 3) := by decide +kernel
theorem dX6_knowComing_7 : decode cX6_knowComing 7 = .ok (.aload_n 0, 1) := by decide +kernel
theorem dX6_knowComing_8 : decode cX6_knowComing 8 = .ok (.invokevirtual 161, 3) := by decide +kernel
theorem dX6_knowComing_11 : decode cX6_knowComing 11 = .ok (.aload_n 0, 1) := by decide +kernel
theorem dX6_knowComing_12 : decode cX6_knowComing 12 = .ok (.getfield 67, 3) := by decide +kernel
theorem dX6_knowComing_15 : decode cX6_knowComing 15 = .ok (.aload_n 0, 1) := by decide +kernel
theorem dX6_knowComing_16 : decode cX6_knowComing 16 = .ok (.getfield 12, 3) := by decide +kernel
theorem dX6_knowComing_19 : decode cX6_knowComing 19 = .ok (.invokevirtual 281, 3) := by decide +kernel
theorem dX6_knowComing_22 : decode cX6_knowComing 22 = .ok (.aload_n 0, 1) := by decide +kernel
theorem dX6_knowComing_23 : decode cX6_knowComing 23 = .ok (.iconst 1, 1) := by decide +kernel
theorem dX6_knowComing_24 : decode cX6_knowComing 24 = .ok (.putfield 275, 3) := by decide +kernel
theorem dX6_knowComing_27 : decode cX6_knowComing 27 = .ok (.return_, 1) := by decide +kernel
theorem dX6_valueByTurns_0 : decode cX6_valueByTurns 0 = .ok (.aload_n 0, 1) := by decide +kernel
theorem dX6_valueByTurns_1 : decode cX6_valueByTurns 1 = .ok (.invokevirtual 161, 3) := by decide +kernel
theorem dX6_valueByTurns_4 : decode cX6_valueByTurns 4 = .ok (.aload_n 0, 1) := by decide +kernel
theorem dX6_valueByTurns_5 : decode cX6_valueByTurns 5 = .ok (.getfield 48, 3) := by decide +kernel
theorem dX6_valueByTurns_8 : decode cX6_valueByTurns 8 = .ok (.aload_n 0, 1) := by decide +kernel
theorem dX6_valueByTurns_9 : decode cX6_valueByTurns 9 = .ok (.getfield 12, 3) := by decide +kernel
theorem dX6_valueByTurns_12 : decode cX6_valueByTurns 12 = .ok (.invokevirtual 164, 3) := by decide +kernel
theorem dX6_valueByTurns_15 : decode cX6_valueByTurns 15 = .ok (.invokevirtual 144, 3) := by decide +kernel
theorem dX6_valueByTurns_18 : decode cX6_valueByTurns 18 = .ok (.lreturn, 1) := by decide +kernel
theorem dX6_valueWith_0 : decode cX6_valueWith 0 = .ok (.aload_n 0, 1) := by decide +kernel
theorem dX6_valueWith_1 : decode cX6_valueWith 1 = .ok (.getfield 12, 3) := by decide +kernel
theorem dX6_valueWith_4 : decode cX6_valueWith 4 = .ok (.invokevirtual 209, 3) := by decide +kernel
theorem dX6_valueWith_7 : decode cX6_valueWith 7 = .ok (.iload_n 2, 1) := by decide +kernel
theorem dX6_valueWith_8 : decode cX6_valueWith 8 = .ok (.iadd, 1) := by decide +kernel
theorem dX6_valueWith_9 : decode cX6_valueWith 9 = .ok (.iload_n 3, 1) := by decide +kernel
theorem dX6_valueWith_10 : decode cX6_valueWith 10 = .ok (.iadd, 1) := by decide +kernel
theorem dX6_valueWith_11 : decode cX6_valueWith 11 = .ok (.invokestatic 284, 3) := by decide +kernel
theorem dX6_valueWith_14 : decode cX6_valueWith 14 = .ok (.istore 5, 2) := by decide +kernel
theorem dX6_valueWith_16 : decode cX6_valueWith 16 = .ok (.aload_n 0, 1) := by decide +kernel
theorem dX6_valueWith_17 : decode cX6_valueWith 17 = .ok (.getfield 52, 3) := by decide +kernel
theorem dX6_valueWith_20 : decode cX6_valueWith 20 = .ok (.aload_n 1, 1) := by decide +kernel
theorem dX6_valueWith_21 : decode cX6_valueWith 21 = .ok (.iload 5, 2) := by decide +kernel
theorem dX6_valueWith_23 : decode cX6_valueWith 23 = .ok (.iload_n 2, 1) := by decide +kernel
theorem dX6_valueWith_24 : decode cX6_valueWith 24 = .ok (.iload_n 3, 1) := by decide +kernel
theorem dX6_valueWith_25 : decode cX6_valueWith 25 = .ok (.iload 4, 2) := by decide +kernel
theorem dX6_valueWith_27 : decode cX6_valueWith 27 = .ok (.invokevirtual 140, 3) := by decide +kernel
theorem dX6_valueWith_30 : decode cX6_valueWith 30 = .ok (.aload_n 0, 1) := by decide +kernel
theorem dX6_valueWith_31 : decode cX6_valueWith 31 = .ok (.getfield 52, 3) := by decide +kernel
theorem dX6_valueWith_34 : decode cX6_valueWith 34 = .ok (.iload 5, 2) := by decide +kernel
theorem dX6_valueWith_36 : decode cX6_valueWith 36 = .ok (.invokevirtual 144, 3) := by decide +kernel
theorem dX6_valueWith_39 : decode cX6_valueWith 39 = .ok (.lreturn, 1) := by decide +kernel
theorem dX6_valueLeaning_0 : decode cX6_valueLeaning 0 = .ok (.aload_n 0, 1) := by decide +kernel
theorem dX6_valueLeaning_1 : decode cX6_valueLeaning 1 = .ok (.getfield 12, 3) := by decide +kernel
theorem dX6_valueLeaning_4 : decode cX6_valueLeaning 4 = .ok (.getfield 242, 3) := by decide +kernel
theorem dX6_valueLeaning_7 : decode cX6_valueLeaning 7 = .ok (.iload_n 1, 1) := by decide +kernel
theorem dX6_valueLeaning_8 : decode cX6_valueLeaning 8 = .ok (.iaload, 1) := by decide +kernel
theorem dX6_valueLeaning_9 : decode cX6_valueLeaning 9 = .ok (.istore_n 3, 1) := by decide +kernel
theorem dX6_valueLeaning_10 : decode cX6_valueLeaning 10 = .ok (.aload_n 0, 1) := by decide +kernel
theorem dX6_valueLeaning_11 : decode cX6_valueLeaning 11 = .ok (.getfield 40, 3) := by decide +kernel
theorem dX6_valueLeaning_14 : decode cX6_valueLeaning 14 = .ok (.aload_n 0, 1) := by decide +kernel
theorem dX6_valueLeaning_15 : decode cX6_valueLeaning 15 = .ok (.getfield 12, 3) := by decide +kernel
theorem dX6_valueLeaning_18 : decode cX6_valueLeaning 18 = .ok (.invokevirtual 71, 3) := by decide +kernel
theorem dX6_valueLeaning_21 : decode cX6_valueLeaning 21 = .ok (.aload_n 0, 1) := by decide +kernel
theorem dX6_valueLeaning_22 : decode cX6_valueLeaning 22 = .ok (.getfield 40, 3) := by decide +kernel
theorem dX6_valueLeaning_25 : decode cX6_valueLeaning 25 = .ok (.iload_n 1, 1) := by decide +kernel
theorem dX6_valueLeaning_26 : decode cX6_valueLeaning 26 = .ok (.aload_n 0, 1) := by decide +kernel
theorem dX6_valueLeaning_27 : decode cX6_valueLeaning 27 = .ok (.getfield 12, 3) := by decide +kernel
theorem dX6_valueLeaning_30 : decode cX6_valueLeaning 30 = .ok (.getfield 83, 3) := by decide +kernel
theorem dX6_valueLeaning_33 : decode cX6_valueLeaning 33 = .ok (.iload_n 3, 1) := by decide +kernel
theorem dX6_valueLeaning_34 : decode cX6_valueLeaning 34 = .ok (.iaload, 1) := by decide +kernel
theorem dX6_valueLeaning_35 : decode cX6_valueLeaning 35 = .ok (.iload_n 2, 1) := by decide +kernel
theorem dX6_valueLeaning_36 : decode cX6_valueLeaning 36 = .ok (.iadd, 1) := by decide +kernel
theorem dX6_valueLeaning_37 : decode cX6_valueLeaning 37 = .ok (.invokestatic 287, 3) := by decide +kernel
theorem dX6_valueLeaning_40 : decode cX6_valueLeaning 40 = .ok (.aload_n 0, 1) := by decide +kernel
theorem dX6_valueLeaning_41 : decode cX6_valueLeaning 41 = .ok (.getfield 12, 3) := by decide +kernel
theorem dX6_valueLeaning_44 : decode cX6_valueLeaning 44 = .ok (.getfield 86, 3) := by decide +kernel
theorem dX6_valueLeaning_47 : decode cX6_valueLeaning 47 = .ok (.iload_n 3, 1) := by decide +kernel
theorem dX6_valueLeaning_48 : decode cX6_valueLeaning 48 = .ok (.iaload, 1) := by decide +kernel
theorem dX6_valueLeaning_49 : decode cX6_valueLeaning 49 = .ok (.iload_n 2, 1) := by decide +kernel
theorem dX6_valueLeaning_50 : decode cX6_valueLeaning 50 = .ok (.iadd, 1) := by decide +kernel
theorem dX6_valueLeaning_51 : decode cX6_valueLeaning 51 = .ok (.invokestatic 287, 3) := by decide +kernel
theorem dX6_valueLeaning_54 : decode cX6_valueLeaning 54 = .ok (.invokevirtual 245, 3) := by decide +kernel
theorem dX6_valueLeaning_57 : decode cX6_valueLeaning 57 = .ok (.aload_n 0, 1) := by decide +kernel
theorem dX6_valueLeaning_58 : decode cX6_valueLeaning 58 = .ok (.aload_n 0, 1) := by decide +kernel
theorem dX6_valueLeaning_59 : decode cX6_valueLeaning 59 = .ok (.getfield 40, 3) := by decide +kernel
theorem dX6_valueLeaning_62 : decode cX6_valueLeaning 62 = .ok (.aload_n 0, 1) := by decide +kernel
theorem dX6_valueLeaning_63 : decode cX6_valueLeaning 63 = .ok (.getfield 12, 3) := by decide +kernel
theorem dX6_valueLeaning_66 : decode cX6_valueLeaning 66 = .ok (.iconst 0, 1) := by decide +kernel
theorem dX6_valueLeaning_67 : decode cX6_valueLeaning 67 = .ok (.invokevirtual 182, 3) := by decide +kernel
theorem dX6_valueLeaning_70 : decode cX6_valueLeaning 70 = .ok (.aload_n 0, 1) := by decide +kernel
theorem dX6_valueLeaning_71 : decode cX6_valueLeaning 71 = .ok (.getfield 12, 3) := by decide +kernel
theorem dX6_valueLeaning_74 : decode cX6_valueLeaning 74 = .ok (.iconst 1, 1) := by decide +kernel
theorem dX6_valueLeaning_75 : decode cX6_valueLeaning 75 = .ok (.invokevirtual 182, 3) := by decide +kernel
theorem dX6_valueLeaning_78 : decode cX6_valueLeaning 78 = .ok (.iconst 0, 1) := by decide +kernel
theorem dX6_valueLeaning_79 : decode cX6_valueLeaning 79 = .ok (.invokevirtual 185, 3) := by decide +kernel
theorem dX6_valueLeaning_82 : decode cX6_valueLeaning 82 = .ok (.lreturn, 1) := by decide +kernel
theorem dX6_heldLean_0 : decode cX6_heldLean 0 = .ok (.iconst 0, 1) := by decide +kernel
theorem dX6_heldLean_1 : decode cX6_heldLean 1 = .ok (.bipush 100, 2) := by decide +kernel
theorem dX6_heldLean_3 : decode cX6_heldLean 3 = .ok (.iload_n 0, 1) := by decide +kernel
theorem dX6_heldLean_4 : decode cX6_heldLean 4 = .ok (.invokestatic 290, 3) := by decide +kernel
theorem dX6_heldLean_7 : decode cX6_heldLean 7 = .ok (.invokestatic 293, 3) := by decide +kernel
theorem dX6_heldLean_10 : decode cX6_heldLean 10 = .ok (.ireturn, 1) := by decide +kernel
theorem dX6_juryOfTwoMinds_0 : decode cX6_juryOfTwoMinds 0 = .ok (.aload_n 0, 1) := by decide +kernel
theorem dX6_juryOfTwoMinds_1 : decode cX6_juryOfTwoMinds 1 = .ok (.getfield 12, 3) := by decide +kernel
theorem dX6_juryOfTwoMinds_4 : decode cX6_juryOfTwoMinds 4 = .ok (.invokevirtual 164, 3) := by decide +kernel
theorem dX6_juryOfTwoMinds_7 : decode cX6_juryOfTwoMinds 7 = .ok (.istore_n 1, 1) := by decide +kernel
theorem dX6_juryOfTwoMinds_8 : decode cX6_juryOfTwoMinds 8 = .ok (.aload_n 0, 1) := by decide +kernel
theorem dX6_juryOfTwoMinds_9 : decode cX6_juryOfTwoMinds 9 = .ok (.getfield 12, 3) := by decide +kernel
theorem dX6_juryOfTwoMinds_12 : decode cX6_juryOfTwoMinds 12 = .ok (.invokevirtual 158, 3) := by decide +kernel
theorem dX6_juryOfTwoMinds_15 : decode cX6_juryOfTwoMinds 15 = .ok (.istore_n 2, 1) := by decide +kernel
theorem dX6_juryOfTwoMinds_16 : decode cX6_juryOfTwoMinds 16 = .ok (.iconst 0, 1) := by decide +kernel
theorem dX6_juryOfTwoMinds_17 : decode cX6_juryOfTwoMinds 17 = .ok (.istore_n 3, 1) := by decide +kernel
theorem dX6_juryOfTwoMinds_18 : decode cX6_juryOfTwoMinds 18 = .ok (.iload_n 3, 1) := by decide +kernel
theorem dX6_juryOfTwoMinds_19 : decode cX6_juryOfTwoMinds 19 = .ok (.iload_n 2, 1) := by decide +kernel
theorem dX6_juryOfTwoMinds_20 : decode cX6_juryOfTwoMinds 20 = .ok (.if_icmp .ge 62, 3) := by decide +kernel
theorem dX6_juryOfTwoMinds_23 : decode cX6_juryOfTwoMinds 23 = .ok (.aload_n 0, 1) := by decide +kernel
theorem dX6_juryOfTwoMinds_24 : decode cX6_juryOfTwoMinds 24 = .ok (.getfield 12, 3) := by decide +kernel
theorem dX6_juryOfTwoMinds_27 : decode cX6_juryOfTwoMinds 27 = .ok (.iload_n 3, 1) := by decide +kernel
theorem dX6_juryOfTwoMinds_28 : decode cX6_juryOfTwoMinds 28 = .ok (.invokevirtual 296, 3) := by decide +kernel
theorem dX6_juryOfTwoMinds_31 : decode cX6_juryOfTwoMinds 31 = .ok (.ifCond .ne 7, 3) := by decide +kernel
theorem dX6_juryOfTwoMinds_34 : decode cX6_juryOfTwoMinds 34 = .ok (.iconst 1, 1) := by decide +kernel
theorem dX6_juryOfTwoMinds_35 : decode cX6_juryOfTwoMinds 35 = .ok (.goto 4, 3) := by decide +kernel
theorem dX6_juryOfTwoMinds_38 : decode cX6_juryOfTwoMinds 38 = .ok (.iconst 0, 1) := by decide +kernel
theorem dX6_juryOfTwoMinds_39 : decode cX6_juryOfTwoMinds 39 = .ok (.istore 4, 2) := by decide +kernel
theorem dX6_juryOfTwoMinds_41 : decode cX6_juryOfTwoMinds 41 = .ok (.iload 4, 2) := by decide +kernel
theorem dX6_juryOfTwoMinds_43 : decode cX6_juryOfTwoMinds 43 = .ok (.ifCond .eq 14, 3) := by decide +kernel
theorem dX6_juryOfTwoMinds_46 : decode cX6_juryOfTwoMinds 46 = .ok (.aload_n 0, 1) := by decide +kernel
theorem dX6_juryOfTwoMinds_47 : decode cX6_juryOfTwoMinds 47 = .ok (.getfield 52, 3) := by decide +kernel
theorem dX6_juryOfTwoMinds_50 : decode cX6_juryOfTwoMinds 50 = .ok (.iload_n 1, 1) := by decide +kernel
theorem dX6_juryOfTwoMinds_51 : decode cX6_juryOfTwoMinds 51 = .ok (.invokevirtual 147, 3) := by decide +kernel
theorem dX6_juryOfTwoMinds_54 : decode cX6_juryOfTwoMinds 54 = .ok (.goto 11, 3) := by decide +kernel
theorem dX6_juryOfTwoMinds_57 : decode cX6_juryOfTwoMinds 57 = .ok (.aload_n 0, 1) := by decide +kernel
theorem dX6_juryOfTwoMinds_58 : decode cX6_juryOfTwoMinds 58 = .ok (.getfield 48, 3) := by decide +kernel
theorem dX6_juryOfTwoMinds_61 : decode cX6_juryOfTwoMinds 61 = .ok (.iload_n 1, 1) := by decide +kernel
theorem dX6_juryOfTwoMinds_62 : decode cX6_juryOfTwoMinds 62 = .ok (.invokevirtual 147, 3) := by decide +kernel
theorem dX6_juryOfTwoMinds_65 : decode cX6_juryOfTwoMinds 65 = .ok (.istore 5, 2) := by decide +kernel
theorem dX6_juryOfTwoMinds_67 : decode cX6_juryOfTwoMinds 67 = .ok (.iload_n 1, 1) := by decide +kernel
theorem dX6_juryOfTwoMinds_68 : decode cX6_juryOfTwoMinds 68 = .ok (.iconst 1, 1) := by decide +kernel
theorem dX6_juryOfTwoMinds_69 : decode cX6_juryOfTwoMinds 69 = .ok (.iload 5, 2) := by decide +kernel
theorem dX6_juryOfTwoMinds_71 : decode cX6_juryOfTwoMinds 71 = .ok (.ishl, 1) := by decide +kernel
theorem dX6_juryOfTwoMinds_72 : decode cX6_juryOfTwoMinds 72 = .ok (.iconst (-1), 1) := by decide +kernel
theorem dX6_juryOfTwoMinds_73 : decode cX6_juryOfTwoMinds 73 = .ok (.ixor, 1) := by decide +kernel
theorem dX6_juryOfTwoMinds_74 : decode cX6_juryOfTwoMinds 74 = .ok (.iand, 1) := by decide +kernel
theorem dX6_juryOfTwoMinds_75 : decode cX6_juryOfTwoMinds 75 = .ok (.istore_n 1, 1) := by decide +kernel
theorem dX6_juryOfTwoMinds_76 : decode cX6_juryOfTwoMinds 76 = .ok (.iinc 3 1, 3) := by decide +kernel
theorem dX6_juryOfTwoMinds_79 : decode cX6_juryOfTwoMinds 79 = .ok (.goto (-61), 3) := by decide +kernel
theorem dX6_juryOfTwoMinds_82 : decode cX6_juryOfTwoMinds 82 = .ok (.iload_n 1, 1) := by decide +kernel
theorem dX6_juryOfTwoMinds_83 : decode cX6_juryOfTwoMinds 83 = .ok (.ireturn, 1) := by decide +kernel
theorem dX6_rowIsLawful_0 : decode cX6_rowIsLawful 0 = .ok (.aload_n 0, 1) := by decide +kernel
theorem dX6_rowIsLawful_1 : decode cX6_rowIsLawful 1 = .ok (.getfield 12, 3) := by decide +kernel
theorem dX6_rowIsLawful_4 : decode cX6_rowIsLawful 4 = .ok (.invokevirtual 150, 3) := by decide +kernel
theorem dX6_rowIsLawful_7 : decode cX6_rowIsLawful 7 = .ok (.ifCond .eq 17, 3) := by decide +kernel
theorem dX6_rowIsLawful_10 : decode cX6_rowIsLawful 10 = .ok (.aload_n 0, 1) := by decide +kernel
theorem dX6_rowIsLawful_11 : decode cX6_rowIsLawful 11 = .ok (.getfield 167, 3) := by decide +kernel
theorem dX6_rowIsLawful_14 : decode cX6_rowIsLawful 14 = .ok (.aload_n 0, 1) := by decide +kernel
theorem dX6_rowIsLawful_15 : decode cX6_rowIsLawful 15 = .ok (.getfield 12, 3) := by decide +kernel
theorem dX6_rowIsLawful_18 : decode cX6_rowIsLawful 18 = .ok (.invokevirtual 158, 3) := by decide +kernel
theorem dX6_rowIsLawful_21 : decode cX6_rowIsLawful 21 = .ok (.if_icmp .eq 5, 3) := by decide +kernel
theorem dX6_rowIsLawful_24 : decode cX6_rowIsLawful 24 = .ok (.iconst 0, 1) := by decide +kernel
theorem dX6_rowIsLawful_25 : decode cX6_rowIsLawful 25 = .ok (.ireturn, 1) := by decide +kernel
theorem dX6_rowIsLawful_26 : decode cX6_rowIsLawful 26 = .ok (.aload_n 0, 1) := by decide +kernel
theorem dX6_rowIsLawful_27 : decode cX6_rowIsLawful 27 = .ok (.getfield 12, 3) := by decide +kernel
theorem dX6_rowIsLawful_30 : decode cX6_rowIsLawful 30 = .ok (.invokevirtual 164, 3) := by decide +kernel
theorem dX6_rowIsLawful_33 : decode cX6_rowIsLawful 33 = .ok (.istore_n 1, 1) := by decide +kernel
theorem dX6_rowIsLawful_34 : decode cX6_rowIsLawful 34 = .ok (.iconst 0, 1) := by decide +kernel
theorem dX6_rowIsLawful_35 : decode cX6_rowIsLawful 35 = .ok (.istore_n 2, 1) := by decide +kernel
theorem dX6_rowIsLawful_36 : decode cX6_rowIsLawful 36 = .ok (.iload_n 2, 1) := by decide +kernel
theorem dX6_rowIsLawful_37 : decode cX6_rowIsLawful 37 = .ok (.aload_n 0, 1) := by decide +kernel
theorem dX6_rowIsLawful_38 : decode cX6_rowIsLawful 38 = .ok (.getfield 167, 3) := by decide +kernel
theorem dX6_rowIsLawful_41 : decode cX6_rowIsLawful 41 = .ok (.if_icmp .ge 30, 3) := by decide +kernel
theorem dX6_rowIsLawful_44 : decode cX6_rowIsLawful 44 = .ok (.iconst 1, 1) := by decide +kernel
theorem dX6_rowIsLawful_45 : decode cX6_rowIsLawful 45 = .ok (.aload_n 0, 1) := by decide +kernel
theorem dX6_rowIsLawful_46 : decode cX6_rowIsLawful 46 = .ok (.getfield 26, 3) := by decide +kernel
theorem dX6_rowIsLawful_49 : decode cX6_rowIsLawful 49 = .ok (.iload_n 2, 1) := by decide +kernel
theorem dX6_rowIsLawful_50 : decode cX6_rowIsLawful 50 = .ok (.iaload, 1) := by decide +kernel
theorem dX6_rowIsLawful_51 : decode cX6_rowIsLawful 51 = .ok (.ishl, 1) := by decide +kernel
theorem dX6_rowIsLawful_52 : decode cX6_rowIsLawful 52 = .ok (.istore_n 3, 1) := by decide +kernel
theorem dX6_rowIsLawful_53 : decode cX6_rowIsLawful 53 = .ok (.iload_n 1, 1) := by decide +kernel
theorem dX6_rowIsLawful_54 : decode cX6_rowIsLawful 54 = .ok (.iload_n 3, 1) := by decide +kernel
theorem dX6_rowIsLawful_55 : decode cX6_rowIsLawful 55 = .ok (.iand, 1) := by decide +kernel
theorem dX6_rowIsLawful_56 : decode cX6_rowIsLawful 56 = .ok (.ifCond .ne 5, 3) := by decide +kernel
theorem dX6_rowIsLawful_59 : decode cX6_rowIsLawful 59 = .ok (.iconst 0, 1) := by decide +kernel
theorem dX6_rowIsLawful_60 : decode cX6_rowIsLawful 60 = .ok (.ireturn, 1) := by decide +kernel
theorem dX6_rowIsLawful_61 : decode cX6_rowIsLawful 61 = .ok (.iload_n 1, 1) := by decide +kernel
theorem dX6_rowIsLawful_62 : decode cX6_rowIsLawful 62 = .ok (.iload_n 3, 1) := by decide +kernel
theorem dX6_rowIsLawful_63 : decode cX6_rowIsLawful 63 = .ok (.ixor, 1) := by decide +kernel
theorem dX6_rowIsLawful_64 : decode cX6_rowIsLawful 64 = .ok (.istore_n 1, 1) := by decide +kernel
theorem dX6_rowIsLawful_65 : decode cX6_rowIsLawful 65 = .ok (.iinc 2 1, 3) := by decide +kernel
theorem dX6_rowIsLawful_68 : decode cX6_rowIsLawful 68 = .ok (.goto (-32), 3) := by decide +kernel
theorem dX6_rowIsLawful_71 : decode cX6_rowIsLawful 71 = .ok (.iconst 1, 1) := by decide +kernel
theorem dX6_rowIsLawful_72 : decode cX6_rowIsLawful 72 = .ok (.ireturn, 1) := by decide +kernel
theorem dX6_setsAsStruck_0 : decode cX6_setsAsStruck 0 = .ok (.aload_n 0, 1) := by decide +kernel
theorem dX6_setsAsStruck_1 : decode cX6_setsAsStruck 1 = .ok (.getfield 12, 3) := by decide +kernel
theorem dX6_setsAsStruck_4 : decode cX6_setsAsStruck 4 = .ok (.iload_n 3, 1) := by decide +kernel
theorem dX6_setsAsStruck_5 : decode cX6_setsAsStruck 5 = .ok (.invokevirtual 239, 3) := by decide +kernel
theorem dX6_setsAsStruck_8 : decode cX6_setsAsStruck 8 = .ok (.aload_n 0, 1) := by decide +kernel
theorem dX6_setsAsStruck_9 : decode cX6_setsAsStruck 9 = .ok (.getfield 12, 3) := by decide +kernel
theorem dX6_setsAsStruck_12 : decode cX6_setsAsStruck 12 = .ok (.invokevirtual 164, 3) := by decide +kernel
theorem dX6_setsAsStruck_15 : decode cX6_setsAsStruck 15 = .ok (.iand, 1) := by decide +kernel
theorem dX6_setsAsStruck_16 : decode cX6_setsAsStruck 16 = .ok (.istore 4, 2) := by decide +kernel
theorem dX6_setsAsStruck_18 : decode cX6_setsAsStruck 18 = .ok (.iconst 0, 1) := by decide +kernel
theorem dX6_setsAsStruck_19 : decode cX6_setsAsStruck 19 = .ok (.istore 5, 2) := by decide +kernel
theorem dX6_setsAsStruck_21 : decode cX6_setsAsStruck 21 = .ok (.iconst 0, 1) := by decide +kernel
theorem dX6_setsAsStruck_22 : decode cX6_setsAsStruck 22 = .ok (.istore 6, 2) := by decide +kernel
theorem dX6_setsAsStruck_24 : decode cX6_setsAsStruck 24 = .ok (.iload 6, 2) := by decide +kernel
theorem dX6_setsAsStruck_26 : decode cX6_setsAsStruck 26 = .ok (.aload_n 0, 1) := by decide +kernel
theorem dX6_setsAsStruck_27 : decode cX6_setsAsStruck 27 = .ok (.getfield 167, 3) := by decide +kernel
theorem dX6_setsAsStruck_30 : decode cX6_setsAsStruck 30 = .ok (.if_icmp .ge 39, 3) := by decide +kernel
theorem dX6_setsAsStruck_33 : decode cX6_setsAsStruck 33 = .ok (.aload_n 0, 1) := by decide +kernel
theorem dX6_setsAsStruck_34 : decode cX6_setsAsStruck 34 = .ok (.getfield 12, 3) := by decide +kernel
theorem dX6_setsAsStruck_37 : decode cX6_setsAsStruck 37 = .ok (.iload 6, 2) := by decide +kernel
theorem dX6_setsAsStruck_39 : decode cX6_setsAsStruck 39 = .ok (.invokevirtual 296, 3) := by decide +kernel
theorem dX6_setsAsStruck_42 : decode cX6_setsAsStruck 42 = .ok (.ifCond .ne 21, 3) := by decide +kernel
theorem dX6_setsAsStruck_45 : decode cX6_setsAsStruck 45 = .ok (.iload 4, 2) := by decide +kernel
theorem dX6_setsAsStruck_47 : decode cX6_setsAsStruck 47 = .ok (.iconst 1, 1) := by decide +kernel
theorem dX6_setsAsStruck_48 : decode cX6_setsAsStruck 48 = .ok (.aload_n 0, 1) := by decide +kernel
theorem dX6_setsAsStruck_49 : decode cX6_setsAsStruck 49 = .ok (.getfield 26, 3) := by decide +kernel
theorem dX6_setsAsStruck_52 : decode cX6_setsAsStruck 52 = .ok (.iload 6, 2) := by decide +kernel
theorem dX6_setsAsStruck_54 : decode cX6_setsAsStruck 54 = .ok (.iaload, 1) := by decide +kernel
theorem dX6_setsAsStruck_55 : decode cX6_setsAsStruck 55 = .ok (.ishl, 1) := by decide +kernel
theorem dX6_setsAsStruck_56 : decode cX6_setsAsStruck 56 = .ok (.iand, 1) := by decide +kernel
theorem dX6_setsAsStruck_57 : decode cX6_setsAsStruck 57 = .ok (.ifCond .eq 6, 3) := by decide +kernel
theorem dX6_setsAsStruck_60 : decode cX6_setsAsStruck 60 = .ok (.iinc 5 1, 3) := by decide +kernel
theorem dX6_setsAsStruck_63 : decode cX6_setsAsStruck 63 = .ok (.iinc 6 1, 3) := by decide +kernel
theorem dX6_setsAsStruck_66 : decode cX6_setsAsStruck 66 = .ok (.goto (-42), 3) := by decide +kernel
theorem dX6_setsAsStruck_69 : decode cX6_setsAsStruck 69 = .ok (.iload 4, 2) := by decide +kernel
theorem dX6_setsAsStruck_71 : decode cX6_setsAsStruck 71 = .ok (.invokestatic 204, 3) := by decide +kernel
theorem dX6_setsAsStruck_74 : decode cX6_setsAsStruck 74 = .ok (.istore 6, 2) := by decide +kernel
theorem dX6_setsAsStruck_76 : decode cX6_setsAsStruck 76 = .ok (.lconst 0, 1) := by decide +kernel
theorem dX6_setsAsStruck_77 : decode cX6_setsAsStruck 77 = .ok (.lstore 7, 2) := by decide +kernel
theorem dX6_setsAsStruck_79 : decode cX6_setsAsStruck 79 = .ok (.iload 5, 2) := by decide +kernel
theorem dX6_setsAsStruck_81 : decode cX6_setsAsStruck 81 = .ok (.istore 9, 2) := by decide +kernel
theorem dX6_setsAsStruck_83 : decode cX6_setsAsStruck 83 = .ok (.iload 9, 2) := by decide +kernel
theorem dX6_setsAsStruck_85 : decode cX6_setsAsStruck 85 = .ok (.iload_n 2, 1) := by decide +kernel
theorem dX6_setsAsStruck_86 : decode cX6_setsAsStruck 86 = .ok (.if_icmp .gt 33, 3) := by decide +kernel
theorem dX6_setsAsStruck_89 : decode cX6_setsAsStruck 89 = .ok (.lload 7, 2) := by decide +kernel
theorem dX6_setsAsStruck_91 : decode cX6_setsAsStruck 91 = .ok (.iload 6, 2) := by decide +kernel
theorem dX6_setsAsStruck_93 : decode cX6_setsAsStruck 93 = .ok (.iload 9, 2) := by decide +kernel
theorem dX6_setsAsStruck_95 : decode cX6_setsAsStruck 95 = .ok (.invokestatic 225, 3) := by decide +kernel
theorem dX6_setsAsStruck_98 : decode cX6_setsAsStruck 98 = .ok (.iload_n 1, 1) := by decide +kernel
theorem dX6_setsAsStruck_99 : decode cX6_setsAsStruck 99 = .ok (.iload 6, 2) := by decide +kernel
theorem dX6_setsAsStruck_101 : decode cX6_setsAsStruck 101 = .ok (.isub, 1) := by decide +kernel
theorem dX6_setsAsStruck_102 : decode cX6_setsAsStruck 102 = .ok (.iload_n 2, 1) := by decide +kernel
theorem dX6_setsAsStruck_103 : decode cX6_setsAsStruck 103 = .ok (.iload 9, 2) := by decide +kernel
theorem dX6_setsAsStruck_105 : decode cX6_setsAsStruck 105 = .ok (.isub, 1) := by decide +kernel
theorem dX6_setsAsStruck_106 : decode cX6_setsAsStruck 106 = .ok (.invokestatic 225, 3) := by decide +kernel
theorem dX6_setsAsStruck_109 : decode cX6_setsAsStruck 109 = .ok (.lmul, 1) := by decide +kernel
theorem dX6_setsAsStruck_110 : decode cX6_setsAsStruck 110 = .ok (.ladd, 1) := by decide +kernel
theorem dX6_setsAsStruck_111 : decode cX6_setsAsStruck 111 = .ok (.lstore 7, 2) := by decide +kernel
theorem dX6_setsAsStruck_113 : decode cX6_setsAsStruck 113 = .ok (.iinc 9 1, 3) := by decide +kernel
theorem dX6_setsAsStruck_116 : decode cX6_setsAsStruck 116 = .ok (.goto (-33), 3) := by decide +kernel
theorem dX6_setsAsStruck_119 : decode cX6_setsAsStruck 119 = .ok (.lload 7, 2) := by decide +kernel
theorem dX6_setsAsStruck_121 : decode cX6_setsAsStruck 121 = .ok (.lreturn, 1) := by decide +kernel
theorem dX6_ways_0 : decode cX6_ways 0 = .ok (.iload_n 1, 1) := by decide +kernel
theorem dX6_ways_1 : decode cX6_ways 1 = .ok (.ifCond .lt 8, 3) := by decide +kernel
theorem dX6_ways_4 : decode cX6_ways 4 = .ok (.iload_n 1, 1) := by decide +kernel
theorem dX6_ways_5 : decode cX6_ways 5 = .ok (.iload_n 0, 1) := by decide +kernel
theorem dX6_ways_6 : decode cX6_ways 6 = .ok (.if_icmp .le 5, 3) := by decide +kernel
theorem dX6_ways_9 : decode cX6_ways 9 = .ok (.lconst 0, 1) := by decide +kernel
theorem dX6_ways_10 : decode cX6_ways 10 = .ok (.lreturn, 1) := by decide +kernel
theorem dX6_ways_11 : decode cX6_ways 11 = .ok (.lconst 1, 1) := by decide +kernel
theorem dX6_ways_12 : decode cX6_ways 12 = .ok (.lstore_n 2, 1) := by decide +kernel
theorem dX6_ways_13 : decode cX6_ways 13 = .ok (.iconst 1, 1) := by decide +kernel
theorem dX6_ways_14 : decode cX6_ways 14 = .ok (.istore 4, 2) := by decide +kernel
theorem dX6_ways_16 : decode cX6_ways 16 = .ok (.iload 4, 2) := by decide +kernel
theorem dX6_ways_18 : decode cX6_ways 18 = .ok (.iload_n 1, 1) := by decide +kernel
theorem dX6_ways_19 : decode cX6_ways 19 = .ok (.if_icmp .gt 23, 3) := by decide +kernel
theorem dX6_ways_22 : decode cX6_ways 22 = .ok (.lload_n 2, 1) := by decide +kernel
theorem dX6_ways_23 : decode cX6_ways 23 = .ok (.iload_n 0, 1) := by decide +kernel
theorem dX6_ways_24 : decode cX6_ways 24 = .ok (.iload_n 1, 1) := by decide +kernel
theorem dX6_ways_25 : decode cX6_ways 25 = .ok (.isub, 1) := by decide +kernel
theorem dX6_ways_26 : decode cX6_ways 26 = .ok (.iload 4, 2) := by decide +kernel
theorem dX6_ways_28 : decode cX6_ways 28 = .ok (.iadd, 1) := by decide +kernel
theorem dX6_ways_29 : decode cX6_ways 29 = .ok (.i2l, 1) := by decide +kernel
theorem dX6_ways_30 : decode cX6_ways 30 = .ok (.lmul, 1) := by decide +kernel
theorem dX6_ways_31 : decode cX6_ways 31 = .ok (.iload 4, 2) := by decide +kernel
theorem dX6_ways_33 : decode cX6_ways 33 = .ok (.i2l, 1) := by decide +kernel
theorem dX6_ways_34 : decode cX6_ways 34 = .ok (.ldiv, 1) := by decide +kernel
theorem dX6_ways_35 : decode cX6_ways 35 = .ok (.lstore_n 2, 1) := by decide +kernel
theorem dX6_ways_36 : decode cX6_ways 36 = .ok (.iinc 4 1, 3) := by decide +kernel
theorem dX6_ways_39 : decode cX6_ways 39 = .ok (.goto (-23), 3) := by decide +kernel
theorem dX6_ways_42 : decode cX6_ways 42 = .ok (.lload_n 2, 1) := by decide +kernel
theorem dX6_ways_43 : decode cX6_ways 43 = .ok (.lreturn, 1) := by decide +kernel
theorem dX6_setOfFirst_0 : decode cX6_setOfFirst 0 = .ok (.iconst 1, 1) := by decide +kernel
theorem dX6_setOfFirst_1 : decode cX6_setOfFirst 1 = .ok (.iload_n 0, 1) := by decide +kernel
theorem dX6_setOfFirst_2 : decode cX6_setOfFirst 2 = .ok (.ishl, 1) := by decide +kernel
theorem dX6_setOfFirst_3 : decode cX6_setOfFirst 3 = .ok (.iconst 1, 1) := by decide +kernel
theorem dX6_setOfFirst_4 : decode cX6_setOfFirst 4 = .ok (.isub, 1) := by decide +kernel
theorem dX6_setOfFirst_5 : decode cX6_setOfFirst 5 = .ok (.ireturn, 1) := by decide +kernel
theorem dX6_firstOf_0 : decode cX6_firstOf 0 = .ok (.iconst 0, 1) := by decide +kernel
theorem dX6_firstOf_1 : decode cX6_firstOf 1 = .ok (.istore_n 2, 1) := by decide +kernel
theorem dX6_firstOf_2 : decode cX6_firstOf 2 = .ok (.iload_n 0, 1) := by decide +kernel
theorem dX6_firstOf_3 : decode cX6_firstOf 3 = .ok (.istore_n 3, 1) := by decide +kernel
theorem dX6_firstOf_4 : decode cX6_firstOf 4 = .ok (.iconst 0, 1) := by decide +kernel
theorem dX6_firstOf_5 : decode cX6_firstOf 5 = .ok (.istore 4, 2) := by decide +kernel
theorem dX6_firstOf_7 : decode cX6_firstOf 7 = .ok (.iload 4, 2) := by decide +kernel
theorem dX6_firstOf_9 : decode cX6_firstOf 9 = .ok (.iload_n 1, 1) := by decide +kernel
theorem dX6_firstOf_10 : decode cX6_firstOf 10 = .ok (.if_icmp .ge 22, 3) := by decide +kernel
theorem dX6_firstOf_13 : decode cX6_firstOf 13 = .ok (.iload_n 2, 1) := by decide +kernel
theorem dX6_firstOf_14 : decode cX6_firstOf 14 = .ok (.iload_n 3, 1) := by decide +kernel
theorem dX6_firstOf_15 : decode cX6_firstOf 15 = .ok (.iload_n 3, 1) := by decide +kernel
theorem dX6_firstOf_16 : decode cX6_firstOf 16 = .ok (.ineg, 1) := by decide +kernel
theorem dX6_firstOf_17 : decode cX6_firstOf 17 = .ok (.iand, 1) := by decide +kernel
theorem dX6_firstOf_18 : decode cX6_firstOf 18 = .ok (.ior, 1) := by decide +kernel
theorem dX6_firstOf_19 : decode cX6_firstOf 19 = .ok (.istore_n 2, 1) := by decide +kernel
theorem dX6_firstOf_20 : decode cX6_firstOf 20 = .ok (.iload_n 3, 1) := by decide +kernel
theorem dX6_firstOf_21 : decode cX6_firstOf 21 = .ok (.iload_n 3, 1) := by decide +kernel
theorem dX6_firstOf_22 : decode cX6_firstOf 22 = .ok (.iconst 1, 1) := by decide +kernel
theorem dX6_firstOf_23 : decode cX6_firstOf 23 = .ok (.isub, 1) := by decide +kernel
theorem dX6_firstOf_24 : decode cX6_firstOf 24 = .ok (.iand, 1) := by decide +kernel
theorem dX6_firstOf_25 : decode cX6_firstOf 25 = .ok (.istore_n 3, 1) := by decide +kernel
theorem dX6_firstOf_26 : decode cX6_firstOf 26 = .ok (.iinc 4 1, 3) := by decide +kernel
theorem dX6_firstOf_29 : decode cX6_firstOf 29 = .ok (.goto (-22), 3) := by decide +kernel
theorem dX6_firstOf_32 : decode cX6_firstOf 32 = .ok (.iload_n 2, 1) := by decide +kernel
theorem dX6_firstOf_33 : decode cX6_firstOf 33 = .ok (.ireturn, 1) := by decide +kernel
