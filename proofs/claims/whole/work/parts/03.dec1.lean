theorem dX0_init_0 : decode cX0_init 0 = .ok (.aload_n 0, 1) := by decide +kernel
theorem dX0_init_1 : decode cX0_init 1 = .ok (.invokespecial 3, 3) := by decide +kernel
theorem dX0_init_4 : decode cX0_init 4 = .ok (.aload_n 0, 1) := by decide +kernel
theorem dX0_init_5 : decode cX0_init 5 = .ok (.bipush 6, 2) := by decide +kernel
theorem dX0_init_7 : decode cX0_init 7 = .ok (.newarray .int, 2) := by decide +kernel
theorem dX0_init_9 : decode cX0_init 9 = .ok (.putfield 9, 3) := by decide +kernel
theorem dX0_init_12 : decode cX0_init 12 = .ok (.aload_n 0, 1) := by decide +kernel
theorem dX0_init_13 : decode cX0_init 13 = .ok (.bipush 6, 2) := by decide +kernel
theorem dX0_init_15 : decode cX0_init 15 = .ok (.newarray .int, 2) := by decide +kernel
theorem dX0_init_17 : decode cX0_init 17 = .ok (.putfield 15, 3) := by decide +kernel
theorem dX0_init_20 : decode cX0_init 20 = .ok (.aload_n 0, 1) := by decide +kernel
theorem dX0_init_21 : decode cX0_init 21 = .ok (.bipush 12, 2) := by decide +kernel
theorem dX0_init_23 : decode cX0_init 23 = .ok (.newarray .int, 2) := by decide +kernel
theorem dX0_init_25 : decode cX0_init 25 = .ok (.putfield 18, 3) := by decide +kernel
theorem dX0_init_28 : decode cX0_init 28 = .ok (.aload_n 0, 1) := by decide +kernel
theorem dX0_init_29 : decode cX0_init 29 = .ok (.iconst 5, 1) := by decide +kernel
theorem dX0_init_30 : decode cX0_init 30 = .ok (.newarray .int, 2) := by decide +kernel
theorem dX0_init_32 : decode cX0_init 32 = .ok (.dup, 1) := by decide +kernel
theorem dX0_init_33 : decode cX0_init 33 = .ok (.iconst 0, 1) := by decide +kernel
theorem dX0_init_34 : decode cX0_init 34 = .ok (.iconst 3, 1) := by decide +kernel
theorem dX0_init_35 : decode cX0_init 35 = .ok (.iastore, 1) := by decide +kernel
theorem dX0_init_36 : decode cX0_init 36 = .ok (.dup, 1) := by decide +kernel
theorem dX0_init_37 : decode cX0_init 37 = .ok (.iconst 1, 1) := by decide +kernel
theorem dX0_init_38 : decode cX0_init 38 = .ok (.iconst 1, 1) := by decide +kernel
theorem dX0_init_39 : decode cX0_init 39 = .ok (.iastore, 1) := by decide +kernel
theorem dX0_init_40 : decode cX0_init 40 = .ok (.dup, 1) := by decide +kernel
theorem dX0_init_41 : decode cX0_init 41 = .ok (.iconst 2, 1) := by decide +kernel
theorem dX0_init_42 : decode cX0_init 42 = .ok (.iconst 1, 1) := by decide +kernel
theorem dX0_init_43 : decode cX0_init 43 = .ok (.iastore, 1) := by decide +kernel
theorem dX0_init_44 : decode cX0_init 44 = .ok (.dup, 1) := by decide +kernel
theorem dX0_init_45 : decode cX0_init 45 = .ok (.iconst 3, 1) := by decide +kernel
theorem dX0_init_46 : decode cX0_init 46 = .ok (.iconst 0, 1) := by decide +kernel
theorem dX0_init_47 : decode cX0_init 47 = .ok (.iastore, 1) := by decide +kernel
theorem dX0_init_48 : decode cX0_init 48 = .ok (.dup, 1) := by decide +kernel
theorem dX0_init_49 : decode cX0_init 49 = .ok (.iconst 4, 1) := by decide +kernel
theorem dX0_init_50 : decode cX0_init 50 = .ok (.bipush 50, 2) := by decide +kernel
theorem dX0_init_52 : decode cX0_init 52 = .ok (.iastore, 1) := by decide +kernel
theorem dX0_init_53 : decode cX0_init 53 = .ok (.putfield 21, 3) := by decide +kernel
theorem dX0_init_56 : decode cX0_init 56 = .ok (.iconst 0, 1) := by decide +kernel
theorem dX0_init_57 : decode cX0_init 57 = .ok (.istore_n 1, 1) := by decide +kernel
theorem dX0_init_58 : decode cX0_init 58 = .ok (.iload_n 1, 1) := by decide +kernel
theorem dX0_init_59 : decode cX0_init 59 = .ok (.bipush 6, 2) := by decide +kernel
theorem dX0_init_61 : decode cX0_init 61 = .ok (.if_icmp .ge 25, 3) := by decide +kernel
theorem dX0_init_64 : decode cX0_init 64 = .ok (.aload_n 0, 1) := by decide +kernel
theorem dX0_init_65 : decode cX0_init 65 = .ok (.getfield 9, 3) := by decide +kernel
theorem dX0_init_68 : decode cX0_init 68 = .ok (.iload_n 1, 1) := by decide +kernel
theorem dX0_init_69 : decode cX0_init 69 = .ok (.bipush 50, 2) := by decide +kernel
theorem dX0_init_71 : decode cX0_init 71 = .ok (.iastore, 1) := by decide +kernel
theorem dX0_init_72 : decode cX0_init 72 = .ok (.aload_n 0, 1) := by decide +kernel
theorem dX0_init_73 : decode cX0_init 73 = .ok (.getfield 15, 3) := by decide +kernel
theorem dX0_init_76 : decode cX0_init 76 = .ok (.iload_n 1, 1) := by decide +kernel
theorem dX0_init_77 : decode cX0_init 77 = .ok (.bipush 50, 2) := by decide +kernel
theorem dX0_init_79 : decode cX0_init 79 = .ok (.iastore, 1) := by decide +kernel
theorem dX0_init_80 : decode cX0_init 80 = .ok (.iinc 1 1, 3) := by decide +kernel
theorem dX0_init_83 : decode cX0_init 83 = .ok (.goto (-25), 3) := by decide +kernel
theorem dX0_init_86 : decode cX0_init 86 = .ok (.return_, 1) := by decide +kernel
theorem dX0_copy_0 : decode cX0_copy 0 = .ok (.aload_n 1, 1) := by decide +kernel
theorem dX0_copy_1 : decode cX0_copy 1 = .ok (.getfield 9, 3) := by decide +kernel
theorem dX0_copy_4 : decode cX0_copy 4 = .ok (.iconst 0, 1) := by decide +kernel
theorem dX0_copy_5 : decode cX0_copy 5 = .ok (.aload_n 0, 1) := by decide +kernel
theorem dX0_copy_6 : decode cX0_copy 6 = .ok (.getfield 9, 3) := by decide +kernel
theorem dX0_copy_9 : decode cX0_copy 9 = .ok (.iconst 0, 1) := by decide +kernel
theorem dX0_copy_10 : decode cX0_copy 10 = .ok (.bipush 6, 2) := by decide +kernel
theorem dX0_copy_12 : decode cX0_copy 12 = .ok (.invokestatic 24, 3) := by decide +kernel
theorem dX0_copy_15 : decode cX0_copy 15 = .ok (.aload_n 1, 1) := by decide +kernel
theorem dX0_copy_16 : decode cX0_copy 16 = .ok (.getfield 15, 3) := by decide +kernel
theorem dX0_copy_19 : decode cX0_copy 19 = .ok (.iconst 0, 1) := by decide +kernel
theorem dX0_copy_20 : decode cX0_copy 20 = .ok (.aload_n 0, 1) := by decide +kernel
theorem dX0_copy_21 : decode cX0_copy 21 = .ok (.getfield 15, 3) := by decide +kernel
theorem dX0_copy_24 : decode cX0_copy 24 = .ok (.iconst 0, 1) := by decide +kernel
theorem dX0_copy_25 : decode cX0_copy 25 = .ok (.bipush 6, 2) := by decide +kernel
theorem dX0_copy_27 : decode cX0_copy 27 = .ok (.invokestatic 24, 3) := by decide +kernel
theorem dX0_copy_30 : decode cX0_copy 30 = .ok (.aload_n 1, 1) := by decide +kernel
theorem dX0_copy_31 : decode cX0_copy 31 = .ok (.getfield 18, 3) := by decide +kernel
theorem dX0_copy_34 : decode cX0_copy 34 = .ok (.iconst 0, 1) := by decide +kernel
theorem dX0_copy_35 : decode cX0_copy 35 = .ok (.aload_n 0, 1) := by decide +kernel
theorem dX0_copy_36 : decode cX0_copy 36 = .ok (.getfield 18, 3) := by decide +kernel
theorem dX0_copy_39 : decode cX0_copy 39 = .ok (.iconst 0, 1) := by decide +kernel
theorem dX0_copy_40 : decode cX0_copy 40 = .ok (.bipush 12, 2) := by decide +kernel
theorem dX0_copy_42 : decode cX0_copy 42 = .ok (.invokestatic 24, 3) := by decide +kernel
theorem dX0_copy_45 : decode cX0_copy 45 = .ok (.aload_n 1, 1) := by decide +kernel
theorem dX0_copy_46 : decode cX0_copy 46 = .ok (.getfield 21, 3) := by decide +kernel
theorem dX0_copy_49 : decode cX0_copy 49 = .ok (.iconst 0, 1) := by decide +kernel
theorem dX0_copy_50 : decode cX0_copy 50 = .ok (.aload_n 0, 1) := by decide +kernel
theorem dX0_copy_51 : decode cX0_copy 51 = .ok (.getfield 21, 3) := by decide +kernel
theorem dX0_copy_54 : decode cX0_copy 54 = .ok (.iconst 0, 1) := by decide +kernel
theorem dX0_copy_55 : decode cX0_copy 55 = .ok (.iconst 5, 1) := by decide +kernel
theorem dX0_copy_56 : decode cX0_copy 56 = .ok (.invokestatic 24, 3) := by decide +kernel
theorem dX0_copy_59 : decode cX0_copy 59 = .ok (.aload_n 0, 1) := by decide +kernel
theorem dX0_copy_60 : decode cX0_copy 60 = .ok (.aload_n 1, 1) := by decide +kernel
theorem dX0_copy_61 : decode cX0_copy 61 = .ok (.getfield 30, 3) := by decide +kernel
theorem dX0_copy_64 : decode cX0_copy 64 = .ok (.putfield 30, 3) := by decide +kernel
theorem dX0_copy_67 : decode cX0_copy 67 = .ok (.return_, 1) := by decide +kernel
theorem dX0_add_0 : decode cX0_add 0 = .ok (.aload_n 0, 1) := by decide +kernel
theorem dX0_add_1 : decode cX0_add 1 = .ok (.getfield 30, 3) := by decide +kernel
theorem dX0_add_4 : decode cX0_add 4 = .ok (.bipush 12, 2) := by decide +kernel
theorem dX0_add_6 : decode cX0_add 6 = .ok (.if_icmp .ge 23, 3) := by decide +kernel
theorem dX0_add_9 : decode cX0_add 9 = .ok (.aload_n 0, 1) := by decide +kernel
theorem dX0_add_10 : decode cX0_add 10 = .ok (.getfield 18, 3) := by decide +kernel
theorem dX0_add_13 : decode cX0_add 13 = .ok (.aload_n 0, 1) := by decide +kernel
theorem dX0_add_14 : decode cX0_add 14 = .ok (.getfield 30, 3) := by decide +kernel
theorem dX0_add_17 : decode cX0_add 17 = .ok (.iload_n 1, 1) := by decide +kernel
theorem dX0_add_18 : decode cX0_add 18 = .ok (.iastore, 1) := by decide +kernel
theorem dX0_add_19 : decode cX0_add 19 = .ok (.aload_n 0, 1) := by decide +kernel
theorem dX0_add_20 : decode cX0_add 20 = .ok (.dup, 1) := by decide +kernel
theorem dX0_add_21 : decode cX0_add 21 = .ok (.getfield 30, 3) := by decide +kernel
theorem dX0_add_24 : decode cX0_add 24 = .ok (.iconst 1, 1) := by decide +kernel
theorem dX0_add_25 : decode cX0_add 25 = .ok (.iadd, 1) := by decide +kernel
theorem dX0_add_26 : decode cX0_add 26 = .ok (.putfield 30, 3) := by decide +kernel
theorem dX0_add_29 : decode cX0_add 29 = .ok (.return_, 1) := by decide +kernel
theorem dX0_needed_0 : decode cX0_needed 0 = .ok (.aload_n 0, 1) := by decide +kernel
theorem dX0_needed_1 : decode cX0_needed 1 = .ok (.getfield 21, 3) := by decide +kernel
theorem dX0_needed_4 : decode cX0_needed 4 = .ok (.iconst 0, 1) := by decide +kernel
theorem dX0_needed_5 : decode cX0_needed 5 = .ok (.iaload, 1) := by decide +kernel
theorem dX0_needed_6 : decode cX0_needed 6 = .ok (.ireturn, 1) := by decide +kernel
theorem dX0_strikesOf_0 : decode cX0_strikesOf 0 = .ok (.iload_n 1, 1) := by decide +kernel
theorem dX0_strikesOf_1 : decode cX0_strikesOf 1 = .ok (.ifCond .ne 12, 3) := by decide +kernel
theorem dX0_strikesOf_4 : decode cX0_strikesOf 4 = .ok (.aload_n 0, 1) := by decide +kernel
theorem dX0_strikesOf_5 : decode cX0_strikesOf 5 = .ok (.getfield 21, 3) := by decide +kernel
theorem dX0_strikesOf_8 : decode cX0_strikesOf 8 = .ok (.iconst 1, 1) := by decide +kernel
theorem dX0_strikesOf_9 : decode cX0_strikesOf 9 = .ok (.iaload, 1) := by decide +kernel
theorem dX0_strikesOf_10 : decode cX0_strikesOf 10 = .ok (.goto 9, 3) := by decide +kernel
theorem dX0_strikesOf_13 : decode cX0_strikesOf 13 = .ok (.aload_n 0, 1) := by decide +kernel
theorem dX0_strikesOf_14 : decode cX0_strikesOf 14 = .ok (.getfield 21, 3) := by decide +kernel
theorem dX0_strikesOf_17 : decode cX0_strikesOf 17 = .ok (.iconst 2, 1) := by decide +kernel
theorem dX0_strikesOf_18 : decode cX0_strikesOf 18 = .ok (.iaload, 1) := by decide +kernel
theorem dX0_strikesOf_19 : decode cX0_strikesOf 19 = .ok (.ireturn, 1) := by decide +kernel
theorem dX0_strikes_0 : decode cX0_strikes 0 = .ok (.aload_n 0, 1) := by decide +kernel
theorem dX0_strikes_1 : decode cX0_strikes 1 = .ok (.getfield 21, 3) := by decide +kernel
theorem dX0_strikes_4 : decode cX0_strikes 4 = .ok (.iconst 1, 1) := by decide +kernel
theorem dX0_strikes_5 : decode cX0_strikes 5 = .ok (.iaload, 1) := by decide +kernel
theorem dX0_strikes_6 : decode cX0_strikes 6 = .ok (.aload_n 0, 1) := by decide +kernel
theorem dX0_strikes_7 : decode cX0_strikes 7 = .ok (.getfield 21, 3) := by decide +kernel
theorem dX0_strikes_10 : decode cX0_strikes 10 = .ok (.iconst 2, 1) := by decide +kernel
theorem dX0_strikes_11 : decode cX0_strikes 11 = .ok (.iaload, 1) := by decide +kernel
theorem dX0_strikes_12 : decode cX0_strikes 12 = .ok (.iadd, 1) := by decide +kernel
theorem dX0_strikes_13 : decode cX0_strikes 13 = .ok (.ireturn, 1) := by decide +kernel
theorem dX0_called_0 : decode cX0_called 0 = .ok (.aload_n 0, 1) := by decide +kernel
theorem dX0_called_1 : decode cX0_called 1 = .ok (.invokevirtual 34, 3) := by decide +kernel
theorem dX0_called_4 : decode cX0_called 4 = .ok (.aload_n 0, 1) := by decide +kernel
theorem dX0_called_5 : decode cX0_called 5 = .ok (.invokevirtual 38, 3) := by decide +kernel
theorem dX0_called_8 : decode cX0_called 8 = .ok (.iadd, 1) := by decide +kernel
theorem dX0_called_9 : decode cX0_called 9 = .ok (.istore_n 1, 1) := by decide +kernel
theorem dX0_called_10 : decode cX0_called 10 = .ok (.iload_n 1, 1) := by decide +kernel
theorem dX0_called_11 : decode cX0_called 11 = .ok (.aload_n 0, 1) := by decide +kernel
theorem dX0_called_12 : decode cX0_called 12 = .ok (.getfield 30, 3) := by decide +kernel
theorem dX0_called_15 : decode cX0_called 15 = .ok (.if_icmp .gt 7, 3) := by decide +kernel
theorem dX0_called_18 : decode cX0_called 18 = .ok (.iload_n 1, 1) := by decide +kernel
theorem dX0_called_19 : decode cX0_called 19 = .ok (.goto 4, 3) := by decide +kernel
theorem dX0_called_22 : decode cX0_called 22 = .ok (.iconst 0, 1) := by decide +kernel
theorem dX0_called_23 : decode cX0_called 23 = .ok (.ireturn, 1) := by decide +kernel
theorem dX0_calledSet_0 : decode cX0_calledSet 0 = .ok (.aload_n 0, 1) := by decide +kernel
theorem dX0_calledSet_1 : decode cX0_calledSet 1 = .ok (.invokevirtual 41, 3) := by decide +kernel
theorem dX0_calledSet_4 : decode cX0_calledSet 4 = .ok (.invokestatic 44, 3) := by decide +kernel
theorem dX0_calledSet_7 : decode cX0_calledSet 7 = .ok (.ireturn, 1) := by decide +kernel
theorem dX0_everyone_0 : decode cX0_everyone 0 = .ok (.aload_n 0, 1) := by decide +kernel
theorem dX0_everyone_1 : decode cX0_everyone 1 = .ok (.getfield 30, 3) := by decide +kernel
theorem dX0_everyone_4 : decode cX0_everyone 4 = .ok (.invokestatic 44, 3) := by decide +kernel
theorem dX0_everyone_7 : decode cX0_everyone 7 = .ok (.ireturn, 1) := by decide +kernel
theorem dX0_ofSort_0 : decode cX0_ofSort 0 = .ok (.iconst 0, 1) := by decide +kernel
theorem dX0_ofSort_1 : decode cX0_ofSort 1 = .ok (.istore_n 2, 1) := by decide +kernel
theorem dX0_ofSort_2 : decode cX0_ofSort 2 = .ok (.iconst 0, 1) := by decide +kernel
theorem dX0_ofSort_3 : decode cX0_ofSort 3 = .ok (.istore_n 3, 1) := by decide +kernel
theorem dX0_ofSort_4 : decode cX0_ofSort 4 = .ok (.iload_n 3, 1) := by decide +kernel
theorem dX0_ofSort_5 : decode cX0_ofSort 5 = .ok (.aload_n 0, 1) := by decide +kernel
theorem dX0_ofSort_6 : decode cX0_ofSort 6 = .ok (.getfield 30, 3) := by decide +kernel
theorem dX0_ofSort_9 : decode cX0_ofSort 9 = .ok (.if_icmp .ge 25, 3) := by decide +kernel
theorem dX0_ofSort_12 : decode cX0_ofSort 12 = .ok (.aload_n 0, 1) := by decide +kernel
theorem dX0_ofSort_13 : decode cX0_ofSort 13 = .ok (.getfield 18, 3) := by decide +kernel
theorem dX0_ofSort_16 : decode cX0_ofSort 16 = .ok (.iload_n 3, 1) := by decide +kernel
theorem dX0_ofSort_17 : decode cX0_ofSort 17 = .ok (.iaload, 1) := by decide +kernel
theorem dX0_ofSort_18 : decode cX0_ofSort 18 = .ok (.iload_n 1, 1) := by decide +kernel
theorem dX0_ofSort_19 : decode cX0_ofSort 19 = .ok (.if_icmp .ne 9, 3) := by decide +kernel
theorem dX0_ofSort_22 : decode cX0_ofSort 22 = .ok (.iload_n 2, 1) := by decide +kernel
theorem dX0_ofSort_23 : decode cX0_ofSort 23 = .ok (.iconst 1, 1) := by decide +kernel
theorem dX0_ofSort_24 : decode cX0_ofSort 24 = .ok (.iload_n 3, 1) := by decide +kernel
theorem dX0_ofSort_25 : decode cX0_ofSort 25 = .ok (.ishl, 1) := by decide +kernel
theorem dX0_ofSort_26 : decode cX0_ofSort 26 = .ok (.ior, 1) := by decide +kernel
theorem dX0_ofSort_27 : decode cX0_ofSort 27 = .ok (.istore_n 2, 1) := by decide +kernel
theorem dX0_ofSort_28 : decode cX0_ofSort 28 = .ok (.iinc 3 1, 3) := by decide +kernel
theorem dX0_ofSort_31 : decode cX0_ofSort 31 = .ok (.goto (-27), 3) := by decide +kernel
theorem dX0_ofSort_34 : decode cX0_ofSort 34 = .ok (.iload_n 2, 1) := by decide +kernel
theorem dX0_ofSort_35 : decode cX0_ofSort 35 = .ok (.ireturn, 1) := by decide +kernel
theorem dX0_sideAt_0 : decode cX0_sideAt 0 = .ok (.iload_n 1, 1) := by decide +kernel
theorem dX0_sideAt_1 : decode cX0_sideAt 1 = .ok (.aload_n 0, 1) := by decide +kernel
theorem dX0_sideAt_2 : decode cX0_sideAt 2 = .ok (.iconst 0, 1) := by decide +kernel
theorem dX0_sideAt_3 : decode cX0_sideAt 3 = .ok (.invokevirtual 48, 3) := by decide +kernel
theorem dX0_sideAt_6 : decode cX0_sideAt 6 = .ok (.aload_n 0, 1) := by decide +kernel
theorem dX0_sideAt_7 : decode cX0_sideAt 7 = .ok (.iconst 1, 1) := by decide +kernel
theorem dX0_sideAt_8 : decode cX0_sideAt 8 = .ok (.invokevirtual 48, 3) := by decide +kernel
theorem dX0_sideAt_11 : decode cX0_sideAt 11 = .ok (.iconst 0, 1) := by decide +kernel
theorem dX0_sideAt_12 : decode cX0_sideAt 12 = .ok (.invokestatic 51, 3) := by decide +kernel
theorem dX0_sideAt_15 : decode cX0_sideAt 15 = .ok (.ireturn, 1) := by decide +kernel
theorem dX1_init_0 : decode cX1_init 0 = .ok (.aload_n 0, 1) := by decide +kernel
theorem dX1_init_1 : decode cX1_init 1 = .ok (.invokespecial 5, 3) := by decide +kernel
theorem dX1_init_4 : decode cX1_init 4 = .ok (.aload_n 0, 1) := by decide +kernel
theorem dX1_init_5 : decode cX1_init 5 = .ok (.aload_n 1, 1) := by decide +kernel
theorem dX1_init_6 : decode cX1_init 6 = .ok (.putfield 11, 3) := by decide +kernel
theorem dX1_init_9 : decode cX1_init 9 = .ok (.aload_n 0, 1) := by decide +kernel
theorem dX1_init_10 : decode cX1_init 10 = .ok (.aload_n 2, 1) := by decide +kernel
theorem dX1_init_11 : decode cX1_init 11 = .ok (.putfield 15, 3) := by decide +kernel
theorem dX1_init_14 : decode cX1_init 14 = .ok (.return_, 1) := by decide +kernel
theorem dX1_goBack_0 : decode cX1_goBack 0 = .ok (.aload_n 0, 1) := by decide +kernel
theorem dX1_goBack_1 : decode cX1_goBack 1 = .ok (.aload_n 1, 1) := by decide +kernel
theorem dX1_goBack_2 : decode cX1_goBack 2 = .ok (.invokevirtual 19, 3) := by decide +kernel
theorem dX1_goBack_5 : decode cX1_goBack 5 = .ok (.putfield 25, 3) := by decide +kernel
theorem dX1_goBack_8 : decode cX1_goBack 8 = .ok (.aload_n 0, 1) := by decide +kernel
theorem dX1_goBack_9 : decode cX1_goBack 9 = .ok (.aload_n 1, 1) := by decide +kernel
theorem dX1_goBack_10 : decode cX1_goBack 10 = .ok (.invokevirtual 28, 3) := by decide +kernel
theorem dX1_goBack_13 : decode cX1_goBack 13 = .ok (.putfield 31, 3) := by decide +kernel
theorem dX1_goBack_16 : decode cX1_goBack 16 = .ok (.aload_n 0, 1) := by decide +kernel
theorem dX1_goBack_17 : decode cX1_goBack 17 = .ok (.aload_n 1, 1) := by decide +kernel
theorem dX1_goBack_18 : decode cX1_goBack 18 = .ok (.iconst 0, 1) := by decide +kernel
theorem dX1_goBack_19 : decode cX1_goBack 19 = .ok (.invokevirtual 33, 3) := by decide +kernel
theorem dX1_goBack_22 : decode cX1_goBack 22 = .ok (.putfield 37, 3) := by decide +kernel
theorem dX1_goBack_25 : decode cX1_goBack 25 = .ok (.aload_n 0, 1) := by decide +kernel
theorem dX1_goBack_26 : decode cX1_goBack 26 = .ok (.aload_n 1, 1) := by decide +kernel
theorem dX1_goBack_27 : decode cX1_goBack 27 = .ok (.iconst 1, 1) := by decide +kernel
theorem dX1_goBack_28 : decode cX1_goBack 28 = .ok (.invokevirtual 33, 3) := by decide +kernel
theorem dX1_goBack_31 : decode cX1_goBack 31 = .ok (.putfield 40, 3) := by decide +kernel
theorem dX1_goBack_34 : decode cX1_goBack 34 = .ok (.aload_n 0, 1) := by decide +kernel
theorem dX1_goBack_35 : decode cX1_goBack 35 = .ok (.getfield 25, 3) := by decide +kernel
theorem dX1_goBack_38 : decode cX1_goBack 38 = .ok (.iconst 1, 1) := by decide +kernel
theorem dX1_goBack_39 : decode cX1_goBack 39 = .ok (.isub, 1) := by decide +kernel
theorem dX1_goBack_40 : decode cX1_goBack 40 = .ok (.istore_n 2, 1) := by decide +kernel
theorem dX1_goBack_41 : decode cX1_goBack 41 = .ok (.iload_n 2, 1) := by decide +kernel
theorem dX1_goBack_42 : decode cX1_goBack 42 = .ok (.ifCond .lt 30, 3) := by decide +kernel
theorem dX1_goBack_45 : decode cX1_goBack 45 = .ok (.iconst 0, 1) := by decide +kernel
theorem dX1_goBack_46 : decode cX1_goBack 46 = .ok (.istore_n 3, 1) := by decide +kernel
theorem dX1_goBack_47 : decode cX1_goBack 47 = .ok (.iload_n 3, 1) := by decide +kernel
theorem dX1_goBack_48 : decode cX1_goBack 48 = .ok (.iconst 1, 1) := by decide +kernel
theorem dX1_goBack_49 : decode cX1_goBack 49 = .ok (.iload_n 2, 1) := by decide +kernel
theorem dX1_goBack_50 : decode cX1_goBack 50 = .ok (.ishl, 1) := by decide +kernel
theorem dX1_goBack_51 : decode cX1_goBack 51 = .ok (.if_icmp .ge 15, 3) := by decide +kernel
theorem dX1_goBack_54 : decode cX1_goBack 54 = .ok (.aload_n 0, 1) := by decide +kernel
theorem dX1_goBack_55 : decode cX1_goBack 55 = .ok (.iload_n 2, 1) := by decide +kernel
theorem dX1_goBack_56 : decode cX1_goBack 56 = .ok (.iload_n 3, 1) := by decide +kernel
theorem dX1_goBack_57 : decode cX1_goBack 57 = .ok (.invokevirtual 43, 3) := by decide +kernel
theorem dX1_goBack_60 : decode cX1_goBack 60 = .ok (.iinc 3 1, 3) := by decide +kernel
theorem dX1_goBack_63 : decode cX1_goBack 63 = .ok (.goto (-16), 3) := by decide +kernel
theorem dX1_goBack_66 : decode cX1_goBack 66 = .ok (.iinc 2 (-1), 3) := by decide +kernel
theorem dX1_goBack_69 : decode cX1_goBack 69 = .ok (.goto (-28), 3) := by decide +kernel
theorem dX1_goBack_72 : decode cX1_goBack 72 = .ok (.aload_n 0, 1) := by decide +kernel
theorem dX1_goBack_73 : decode cX1_goBack 73 = .ok (.aload_n 0, 1) := by decide +kernel
theorem dX1_goBack_74 : decode cX1_goBack 74 = .ok (.iconst 0, 1) := by decide +kernel
theorem dX1_goBack_75 : decode cX1_goBack 75 = .ok (.iconst 0, 1) := by decide +kernel
theorem dX1_goBack_76 : decode cX1_goBack 76 = .ok (.iconst 0, 1) := by decide +kernel
theorem dX1_goBack_77 : decode cX1_goBack 77 = .ok (.invokevirtual 47, 3) := by decide +kernel
theorem dX1_goBack_80 : decode cX1_goBack 80 = .ok (.putfield 51, 3) := by decide +kernel
theorem dX1_goBack_83 : decode cX1_goBack 83 = .ok (.return_, 1) := by decide +kernel
theorem dX1_decideAll_0 : decode cX1_decideAll 0 = .ok (.iload_n 1, 1) := by decide +kernel
theorem dX1_decideAll_1 : decode cX1_decideAll 1 = .ok (.iload_n 2, 1) := by decide +kernel
theorem dX1_decideAll_2 : decode cX1_decideAll 2 = .ok (.invokestatic 54, 3) := by decide +kernel
theorem dX1_decideAll_5 : decode cX1_decideAll 5 = .ok (.isub, 1) := by decide +kernel
theorem dX1_decideAll_6 : decode cX1_decideAll 6 = .ok (.istore_n 3, 1) := by decide +kernel
theorem dX1_decideAll_7 : decode cX1_decideAll 7 = .ok (.iload_n 2, 1) := by decide +kernel
theorem dX1_decideAll_8 : decode cX1_decideAll 8 = .ok (.invokestatic 54, 3) := by decide +kernel
theorem dX1_decideAll_11 : decode cX1_decideAll 11 = .ok (.aload_n 0, 1) := by decide +kernel
theorem dX1_decideAll_12 : decode cX1_decideAll 12 = .ok (.getfield 31, 3) := by decide +kernel
theorem dX1_decideAll_15 : decode cX1_decideAll 15 = .ok (.if_icmp .ge 16, 3) := by decide +kernel
theorem dX1_decideAll_18 : decode cX1_decideAll 18 = .ok (.iload_n 3, 1) := by decide +kernel
theorem dX1_decideAll_19 : decode cX1_decideAll 19 = .ok (.aload_n 0, 1) := by decide +kernel
theorem dX1_decideAll_20 : decode cX1_decideAll 20 = .ok (.getfield 37, 3) := by decide +kernel
theorem dX1_decideAll_23 : decode cX1_decideAll 23 = .ok (.aload_n 0, 1) := by decide +kernel
theorem dX1_decideAll_24 : decode cX1_decideAll 24 = .ok (.getfield 40, 3) := by decide +kernel
theorem dX1_decideAll_27 : decode cX1_decideAll 27 = .ok (.iadd, 1) := by decide +kernel
theorem dX1_decideAll_28 : decode cX1_decideAll 28 = .ok (.if_icmp .lt 4, 3) := by decide +kernel
theorem dX1_decideAll_31 : decode cX1_decideAll 31 = .ok (.return_, 1) := by decide +kernel
theorem dX1_decideAll_32 : decode cX1_decideAll 32 = .ok (.iload_n 3, 1) := by decide +kernel
theorem dX1_decideAll_33 : decode cX1_decideAll 33 = .ok (.aload_n 0, 1) := by decide +kernel
theorem dX1_decideAll_34 : decode cX1_decideAll 34 = .ok (.getfield 37, 3) := by decide +kernel
theorem dX1_decideAll_37 : decode cX1_decideAll 37 = .ok (.invokestatic 59, 3) := by decide +kernel
theorem dX1_decideAll_40 : decode cX1_decideAll 40 = .ok (.istore 4, 2) := by decide +kernel
theorem dX1_decideAll_42 : decode cX1_decideAll 42 = .ok (.iconst 0, 1) := by decide +kernel
theorem dX1_decideAll_43 : decode cX1_decideAll 43 = .ok (.iload_n 3, 1) := by decide +kernel
theorem dX1_decideAll_44 : decode cX1_decideAll 44 = .ok (.aload_n 0, 1) := by decide +kernel
theorem dX1_decideAll_45 : decode cX1_decideAll 45 = .ok (.getfield 40, 3) := by decide +kernel
theorem dX1_decideAll_48 : decode cX1_decideAll 48 = .ok (.isub, 1) := by decide +kernel
theorem dX1_decideAll_49 : decode cX1_decideAll 49 = .ok (.invokestatic 65, 3) := by decide +kernel
theorem dX1_decideAll_52 : decode cX1_decideAll 52 = .ok (.istore 5, 2) := by decide +kernel
theorem dX1_decideAll_54 : decode cX1_decideAll 54 = .ok (.iload 5, 2) := by decide +kernel
theorem dX1_decideAll_56 : decode cX1_decideAll 56 = .ok (.iload 4, 2) := by decide +kernel
theorem dX1_decideAll_58 : decode cX1_decideAll 58 = .ok (.if_icmp .gt 56, 3) := by decide +kernel
theorem dX1_decideAll_61 : decode cX1_decideAll 61 = .ok (.aload_n 0, 1) := by decide +kernel
theorem dX1_decideAll_62 : decode cX1_decideAll 62 = .ok (.iload_n 1, 1) := by decide +kernel
theorem dX1_decideAll_63 : decode cX1_decideAll 63 = .ok (.iload_n 2, 1) := by decide +kernel
theorem dX1_decideAll_64 : decode cX1_decideAll 64 = .ok (.iload 5, 2) := by decide +kernel
theorem dX1_decideAll_66 : decode cX1_decideAll 66 = .ok (.invokevirtual 68, 3) := by decide +kernel
theorem dX1_decideAll_69 : decode cX1_decideAll 69 = .ok (.i2l, 1) := by decide +kernel
theorem dX1_decideAll_70 : decode cX1_decideAll 70 = .ok (.lstore 6, 2) := by decide +kernel
theorem dX1_decideAll_72 : decode cX1_decideAll 72 = .ok (.bipush 16, 2) := by decide +kernel
theorem dX1_decideAll_74 : decode cX1_decideAll 74 = .ok (.iload 5, 2) := by decide +kernel
theorem dX1_decideAll_76 : decode cX1_decideAll 76 = .ok (.imul, 1) := by decide +kernel
theorem dX1_decideAll_77 : decode cX1_decideAll 77 = .ok (.istore 8, 2) := by decide +kernel
theorem dX1_decideAll_79 : decode cX1_decideAll 79 = .ok (.aload_n 0, 1) := by decide +kernel
theorem dX1_decideAll_80 : decode cX1_decideAll 80 = .ok (.getfield 15, 3) := by decide +kernel
theorem dX1_decideAll_83 : decode cX1_decideAll 83 = .ok (.iload_n 2, 1) := by decide +kernel
theorem dX1_decideAll_84 : decode cX1_decideAll 84 = .ok (.aload_n 0, 1) := by decide +kernel
theorem dX1_decideAll_85 : decode cX1_decideAll 85 = .ok (.getfield 15, 3) := by decide +kernel
theorem dX1_decideAll_88 : decode cX1_decideAll 88 = .ok (.iload_n 2, 1) := by decide +kernel
theorem dX1_decideAll_89 : decode cX1_decideAll 89 = .ok (.laload, 1) := by decide +kernel
theorem dX1_decideAll_90 : decode cX1_decideAll 90 = .ok (.ldc2_w 71, 3) := by decide +kernel
theorem dX1_decideAll_93 : decode cX1_decideAll 93 = .ok (.iload 8, 2) := by decide +kernel
theorem dX1_decideAll_95 : decode cX1_decideAll 95 = .ok (.lshl, 1) := by decide +kernel
theorem dX1_decideAll_96 : decode cX1_decideAll 96 = .ok (.ldc2_w 73, 3) := by decide +kernel
theorem dX1_decideAll_99 : decode cX1_decideAll 99 = .ok (.lxor, 1) := by decide +kernel
theorem dX1_decideAll_100 : decode cX1_decideAll 100 = .ok (.land, 1) := by decide +kernel
theorem dX1_decideAll_101 : decode cX1_decideAll 101 = .ok (.lload 6, 2) := by decide +kernel
theorem dX1_decideAll_103 : decode cX1_decideAll 103 = .ok (.iload 8, 2) := by decide +kernel
theorem dX1_decideAll_105 : decode cX1_decideAll 105 = .ok (.lshl, 1) := by decide +kernel
theorem dX1_decideAll_106 : decode cX1_decideAll 106 = .ok (.lor, 1) := by decide +kernel
theorem dX1_decideAll_107 : decode cX1_decideAll 107 = .ok (.lastore, 1) := by decide +kernel
theorem dX1_decideAll_108 : decode cX1_decideAll 108 = .ok (.iinc 5 1, 3) := by decide +kernel
theorem dX1_decideAll_111 : decode cX1_decideAll 111 = .ok (.goto (-57), 3) := by decide +kernel
theorem dX1_decideAll_114 : decode cX1_decideAll 114 = .ok (.return_, 1) := by decide +kernel
theorem dX1_decide_0 : decode cX1_decide 0 = .ok (.iload_n 1, 1) := by decide +kernel
theorem dX1_decide_1 : decode cX1_decide 1 = .ok (.iload_n 2, 1) := by decide +kernel
theorem dX1_decide_2 : decode cX1_decide 2 = .ok (.invokestatic 54, 3) := by decide +kernel
theorem dX1_decide_5 : decode cX1_decide 5 = .ok (.isub, 1) := by decide +kernel
theorem dX1_decide_6 : decode cX1_decide 6 = .ok (.iload_n 3, 1) := by decide +kernel
theorem dX1_decide_7 : decode cX1_decide 7 = .ok (.isub, 1) := by decide +kernel
theorem dX1_decide_8 : decode cX1_decide 8 = .ok (.istore 4, 2) := by decide +kernel
theorem dX1_decide_10 : decode cX1_decide 10 = .ok (.aload_n 0, 1) := by decide +kernel
theorem dX1_decide_11 : decode cX1_decide 11 = .ok (.iload_n 1, 1) := by decide +kernel
theorem dX1_decide_12 : decode cX1_decide 12 = .ok (.iconst 1, 1) := by decide +kernel
theorem dX1_decide_13 : decode cX1_decide 13 = .ok (.iadd, 1) := by decide +kernel
theorem dX1_decide_14 : decode cX1_decide 14 = .ok (.iload_n 2, 1) := by decide +kernel
theorem dX1_decide_15 : decode cX1_decide 15 = .ok (.iconst 1, 1) := by decide +kernel
theorem dX1_decide_16 : decode cX1_decide 16 = .ok (.iload_n 1, 1) := by decide +kernel
theorem dX1_decide_17 : decode cX1_decide 17 = .ok (.ishl, 1) := by decide +kernel
theorem dX1_decide_18 : decode cX1_decide 18 = .ok (.ior, 1) := by decide +kernel
theorem dX1_decide_19 : decode cX1_decide 19 = .ok (.iload_n 3, 1) := by decide +kernel
theorem dX1_decide_20 : decode cX1_decide 20 = .ok (.invokevirtual 47, 3) := by decide +kernel
theorem dX1_decide_23 : decode cX1_decide 23 = .ok (.istore 5, 2) := by decide +kernel
theorem dX1_decide_25 : decode cX1_decide 25 = .ok (.iload 4, 2) := by decide +kernel
theorem dX1_decide_27 : decode cX1_decide 27 = .ok (.aload_n 0, 1) := by decide +kernel
theorem dX1_decide_28 : decode cX1_decide 28 = .ok (.getfield 40, 3) := by decide +kernel
theorem dX1_decide_31 : decode cX1_decide 31 = .ok (.if_icmp .ge 39, 3) := by decide +kernel
theorem dX1_decide_34 : decode cX1_decide 34 = .ok (.aload_n 0, 1) := by decide +kernel
theorem dX1_decide_35 : decode cX1_decide 35 = .ok (.iload_n 1, 1) := by decide +kernel
theorem dX1_decide_36 : decode cX1_decide 36 = .ok (.iconst 1, 1) := by decide +kernel
theorem dX1_decide_37 : decode cX1_decide 37 = .ok (.iadd, 1) := by decide +kernel
theorem dX1_decide_38 : decode cX1_decide 38 = .ok (.iload_n 2, 1) := by decide +kernel
theorem dX1_decide_39 : decode cX1_decide 39 = .ok (.iload_n 3, 1) := by decide +kernel
theorem dX1_decide_40 : decode cX1_decide 40 = .ok (.invokevirtual 47, 3) := by decide +kernel
theorem dX1_decide_43 : decode cX1_decide 43 = .ok (.istore 6, 2) := by decide +kernel
theorem dX1_decide_45 : decode cX1_decide 45 = .ok (.aload_n 0, 1) := by decide +kernel
theorem dX1_decide_46 : decode cX1_decide 46 = .ok (.iload 6, 2) := by decide +kernel
theorem dX1_decide_48 : decode cX1_decide 48 = .ok (.invokevirtual 75, 3) := by decide +kernel
theorem dX1_decide_51 : decode cX1_decide 51 = .ok (.aload_n 0, 1) := by decide +kernel
theorem dX1_decide_52 : decode cX1_decide 52 = .ok (.iload 5, 2) := by decide +kernel
theorem dX1_decide_54 : decode cX1_decide 54 = .ok (.invokevirtual 75, 3) := by decide +kernel
theorem dX1_decide_57 : decode cX1_decide 57 = .ok (.lcmp, 1) := by decide +kernel
theorem dX1_decide_58 : decode cX1_decide 58 = .ok (.ifCond .ge 8, 3) := by decide +kernel
theorem dX1_decide_61 : decode cX1_decide 61 = .ok (.iload 6, 2) := by decide +kernel
theorem dX1_decide_63 : decode cX1_decide 63 = .ok (.goto 5, 3) := by decide +kernel
theorem dX1_decide_66 : decode cX1_decide 66 = .ok (.iload 5, 2) := by decide +kernel
theorem dX1_decide_68 : decode cX1_decide 68 = .ok (.istore 5, 2) := by decide +kernel
theorem dX1_decide_70 : decode cX1_decide 70 = .ok (.iload_n 3, 1) := by decide +kernel
theorem dX1_decide_71 : decode cX1_decide 71 = .ok (.aload_n 0, 1) := by decide +kernel
theorem dX1_decide_72 : decode cX1_decide 72 = .ok (.getfield 37, 3) := by decide +kernel
theorem dX1_decide_75 : decode cX1_decide 75 = .ok (.if_icmp .ge 41, 3) := by decide +kernel
theorem dX1_decide_78 : decode cX1_decide 78 = .ok (.aload_n 0, 1) := by decide +kernel
theorem dX1_decide_79 : decode cX1_decide 79 = .ok (.iload_n 1, 1) := by decide +kernel
theorem dX1_decide_80 : decode cX1_decide 80 = .ok (.iconst 1, 1) := by decide +kernel
theorem dX1_decide_81 : decode cX1_decide 81 = .ok (.iadd, 1) := by decide +kernel
theorem dX1_decide_82 : decode cX1_decide 82 = .ok (.iload_n 2, 1) := by decide +kernel
theorem dX1_decide_83 : decode cX1_decide 83 = .ok (.iload_n 3, 1) := by decide +kernel
theorem dX1_decide_84 : decode cX1_decide 84 = .ok (.iconst 1, 1) := by decide +kernel
theorem dX1_decide_85 : decode cX1_decide 85 = .ok (.iadd, 1) := by decide +kernel
theorem dX1_decide_86 : decode cX1_decide 86 = .ok (.invokevirtual 47, 3) := by decide +kernel
theorem dX1_decide_89 : decode cX1_decide 89 = .ok (.istore 6, 2) := by decide +kernel
theorem dX1_decide_91 : decode cX1_decide 91 = .ok (.aload_n 0, 1) := by decide +kernel
theorem dX1_decide_92 : decode cX1_decide 92 = .ok (.iload 6, 2) := by decide +kernel
theorem dX1_decide_94 : decode cX1_decide 94 = .ok (.invokevirtual 75, 3) := by decide +kernel
theorem dX1_decide_97 : decode cX1_decide 97 = .ok (.aload_n 0, 1) := by decide +kernel
theorem dX1_decide_98 : decode cX1_decide 98 = .ok (.iload 5, 2) := by decide +kernel
theorem dX1_decide_100 : decode cX1_decide 100 = .ok (.invokevirtual 75, 3) := by decide +kernel
theorem dX1_decide_103 : decode cX1_decide 103 = .ok (.lcmp, 1) := by decide +kernel
theorem dX1_decide_104 : decode cX1_decide 104 = .ok (.ifCond .le 8, 3) := by decide +kernel
theorem dX1_decide_107 : decode cX1_decide 107 = .ok (.iload 6, 2) := by decide +kernel
theorem dX1_decide_109 : decode cX1_decide 109 = .ok (.goto 5, 3) := by decide +kernel
theorem dX1_decide_112 : decode cX1_decide 112 = .ok (.iload 5, 2) := by decide +kernel
theorem dX1_decide_114 : decode cX1_decide 114 = .ok (.istore 5, 2) := by decide +kernel
theorem dX1_decide_116 : decode cX1_decide 116 = .ok (.iload 5, 2) := by decide +kernel
theorem dX1_decide_118 : decode cX1_decide 118 = .ok (.ireturn, 1) := by decide +kernel
theorem dX1_endFrom_0 : decode cX1_endFrom 0 = .ok (.iload_n 2, 1) := by decide +kernel
theorem dX1_endFrom_1 : decode cX1_endFrom 1 = .ok (.invokestatic 54, 3) := by decide +kernel
theorem dX1_endFrom_4 : decode cX1_endFrom 4 = .ok (.istore 4, 2) := by decide +kernel
theorem dX1_endFrom_6 : decode cX1_endFrom 6 = .ok (.iload_n 1, 1) := by decide +kernel
theorem dX1_endFrom_7 : decode cX1_endFrom 7 = .ok (.iload 4, 2) := by decide +kernel
theorem dX1_endFrom_9 : decode cX1_endFrom 9 = .ok (.isub, 1) := by decide +kernel
theorem dX1_endFrom_10 : decode cX1_endFrom 10 = .ok (.istore 5, 2) := by decide +kernel
theorem dX1_endFrom_12 : decode cX1_endFrom 12 = .ok (.iload 4, 2) := by decide +kernel
theorem dX1_endFrom_14 : decode cX1_endFrom 14 = .ok (.aload_n 0, 1) := by decide +kernel
theorem dX1_endFrom_15 : decode cX1_endFrom 15 = .ok (.getfield 31, 3) := by decide +kernel
theorem dX1_endFrom_18 : decode cX1_endFrom 18 = .ok (.if_icmp .ne 36, 3) := by decide +kernel
theorem dX1_endFrom_21 : decode cX1_endFrom 21 = .ok (.aload_n 0, 1) := by decide +kernel
theorem dX1_endFrom_22 : decode cX1_endFrom 22 = .ok (.getfield 37, 3) := by decide +kernel
theorem dX1_endFrom_25 : decode cX1_endFrom 25 = .ok (.iload_n 3, 1) := by decide +kernel
theorem dX1_endFrom_26 : decode cX1_endFrom 26 = .ok (.isub, 1) := by decide +kernel
theorem dX1_endFrom_27 : decode cX1_endFrom 27 = .ok (.istore 6, 2) := by decide +kernel
theorem dX1_endFrom_29 : decode cX1_endFrom 29 = .ok (.aload_n 0, 1) := by decide +kernel
theorem dX1_endFrom_30 : decode cX1_endFrom 30 = .ok (.getfield 40, 3) := by decide +kernel
theorem dX1_endFrom_33 : decode cX1_endFrom 33 = .ok (.iload 5, 2) := by decide +kernel
theorem dX1_endFrom_35 : decode cX1_endFrom 35 = .ok (.iload_n 3, 1) := by decide +kernel
theorem dX1_endFrom_36 : decode cX1_endFrom 36 = .ok (.isub, 1) := by decide +kernel
theorem dX1_endFrom_37 : decode cX1_endFrom 37 = .ok (.isub, 1) := by decide +kernel
theorem dX1_endFrom_38 : decode cX1_endFrom 38 = .ok (.istore 7, 2) := by decide +kernel
theorem dX1_endFrom_40 : decode cX1_endFrom 40 = .ok (.iload_n 2, 1) := by decide +kernel
theorem dX1_endFrom_41 : decode cX1_endFrom 41 = .ok (.iload 6, 2) := by decide +kernel
theorem dX1_endFrom_43 : decode cX1_endFrom 43 = .ok (.bipush 12, 2) := by decide +kernel
theorem dX1_endFrom_45 : decode cX1_endFrom 45 = .ok (.ishl, 1) := by decide +kernel
theorem dX1_endFrom_46 : decode cX1_endFrom 46 = .ok (.ior, 1) := by decide +kernel
theorem dX1_endFrom_47 : decode cX1_endFrom 47 = .ok (.iload 7, 2) := by decide +kernel
theorem dX1_endFrom_49 : decode cX1_endFrom 49 = .ok (.bipush 14, 2) := by decide +kernel
theorem dX1_endFrom_51 : decode cX1_endFrom 51 = .ok (.ishl, 1) := by decide +kernel
theorem dX1_endFrom_52 : decode cX1_endFrom 52 = .ok (.ior, 1) := by decide +kernel
theorem dX1_endFrom_53 : decode cX1_endFrom 53 = .ok (.ireturn, 1) := by decide +kernel
theorem dX1_endFrom_54 : decode cX1_endFrom 54 = .ok (.iload 5, 2) := by decide +kernel
theorem dX1_endFrom_56 : decode cX1_endFrom 56 = .ok (.aload_n 0, 1) := by decide +kernel
theorem dX1_endFrom_57 : decode cX1_endFrom 57 = .ok (.getfield 37, 3) := by decide +kernel
theorem dX1_endFrom_60 : decode cX1_endFrom 60 = .ok (.aload_n 0, 1) := by decide +kernel
theorem dX1_endFrom_61 : decode cX1_endFrom 61 = .ok (.getfield 40, 3) := by decide +kernel
theorem dX1_endFrom_64 : decode cX1_endFrom 64 = .ok (.iadd, 1) := by decide +kernel
theorem dX1_endFrom_65 : decode cX1_endFrom 65 = .ok (.if_icmp .ne 20, 3) := by decide +kernel
theorem dX1_endFrom_68 : decode cX1_endFrom 68 = .ok (.iload_n 2, 1) := by decide +kernel
theorem dX1_endFrom_69 : decode cX1_endFrom 69 = .ok (.aload_n 0, 1) := by decide +kernel
theorem dX1_endFrom_70 : decode cX1_endFrom 70 = .ok (.getfield 25, 3) := by decide +kernel
theorem dX1_endFrom_73 : decode cX1_endFrom 73 = .ok (.invokestatic 79, 3) := by decide +kernel
theorem dX1_endFrom_76 : decode cX1_endFrom 76 = .ok (.iload_n 1, 1) := by decide +kernel
theorem dX1_endFrom_77 : decode cX1_endFrom 77 = .ok (.invokestatic 79, 3) := by decide +kernel
theorem dX1_endFrom_80 : decode cX1_endFrom 80 = .ok (.iconst (-1), 1) := by decide +kernel
theorem dX1_endFrom_81 : decode cX1_endFrom 81 = .ok (.ixor, 1) := by decide +kernel
theorem dX1_endFrom_82 : decode cX1_endFrom 82 = .ok (.iand, 1) := by decide +kernel
theorem dX1_endFrom_83 : decode cX1_endFrom 83 = .ok (.ior, 1) := by decide +kernel
theorem dX1_endFrom_84 : decode cX1_endFrom 84 = .ok (.ireturn, 1) := by decide +kernel
theorem dX1_endFrom_85 : decode cX1_endFrom 85 = .ok (.aload_n 0, 1) := by decide +kernel
theorem dX1_endFrom_86 : decode cX1_endFrom 86 = .ok (.getfield 15, 3) := by decide +kernel
theorem dX1_endFrom_89 : decode cX1_endFrom 89 = .ok (.iload_n 2, 1) := by decide +kernel
theorem dX1_endFrom_90 : decode cX1_endFrom 90 = .ok (.laload, 1) := by decide +kernel
theorem dX1_endFrom_91 : decode cX1_endFrom 91 = .ok (.bipush 16, 2) := by decide +kernel
theorem dX1_endFrom_93 : decode cX1_endFrom 93 = .ok (.iload_n 3, 1) := by decide +kernel
theorem dX1_endFrom_94 : decode cX1_endFrom 94 = .ok (.imul, 1) := by decide +kernel
theorem dX1_endFrom_95 : decode cX1_endFrom 95 = .ok (.lushr, 1) := by decide +kernel
theorem dX1_endFrom_96 : decode cX1_endFrom 96 = .ok (.ldc2_w 71, 3) := by decide +kernel
theorem dX1_endFrom_99 : decode cX1_endFrom 99 = .ok (.land, 1) := by decide +kernel
theorem dX1_endFrom_100 : decode cX1_endFrom 100 = .ok (.l2i, 1) := by decide +kernel
theorem dX1_endFrom_101 : decode cX1_endFrom 101 = .ok (.ireturn, 1) := by decide +kernel
theorem dX1_valueOfEnd_0 : decode cX1_valueOfEnd 0 = .ok (.aload_n 0, 1) := by decide +kernel
theorem dX1_valueOfEnd_1 : decode cX1_valueOfEnd 1 = .ok (.getfield 11, 3) := by decide +kernel
theorem dX1_valueOfEnd_4 : decode cX1_valueOfEnd 4 = .ok (.iload_n 1, 1) := by decide +kernel
theorem dX1_valueOfEnd_5 : decode cX1_valueOfEnd 5 = .ok (.sipush 4095, 3) := by decide +kernel
theorem dX1_valueOfEnd_8 : decode cX1_valueOfEnd 8 = .ok (.iand, 1) := by decide +kernel
theorem dX1_valueOfEnd_9 : decode cX1_valueOfEnd 9 = .ok (.invokevirtual 82, 3) := by decide +kernel
theorem dX1_valueOfEnd_12 : decode cX1_valueOfEnd 12 = .ok (.lreturn, 1) := by decide +kernel
theorem dX1_jury_0 : decode cX1_jury 0 = .ok (.aload_n 0, 1) := by decide +kernel
theorem dX1_jury_1 : decode cX1_jury 1 = .ok (.getfield 51, 3) := by decide +kernel
theorem dX1_jury_4 : decode cX1_jury 4 = .ok (.sipush 4095, 3) := by decide +kernel
theorem dX1_jury_7 : decode cX1_jury 7 = .ok (.iand, 1) := by decide +kernel
theorem dX1_jury_8 : decode cX1_jury 8 = .ok (.ireturn, 1) := by decide +kernel
theorem dX1_keptBack_0 : decode cX1_keptBack 0 = .ok (.aload_n 0, 1) := by decide +kernel
theorem dX1_keptBack_1 : decode cX1_keptBack 1 = .ok (.getfield 51, 3) := by decide +kernel
theorem dX1_keptBack_4 : decode cX1_keptBack 4 = .ok (.iload_n 1, 1) := by decide +kernel
theorem dX1_keptBack_5 : decode cX1_keptBack 5 = .ok (.ifCond .ne 8, 3) := by decide +kernel
theorem dX1_keptBack_8 : decode cX1_keptBack 8 = .ok (.bipush 12, 2) := by decide +kernel
theorem dX1_keptBack_10 : decode cX1_keptBack 10 = .ok (.goto 5, 3) := by decide +kernel
theorem dX1_keptBack_13 : decode cX1_keptBack 13 = .ok (.bipush 14, 2) := by decide +kernel
theorem dX1_keptBack_15 : decode cX1_keptBack 15 = .ok (.ishr, 1) := by decide +kernel
theorem dX1_keptBack_16 : decode cX1_keptBack 16 = .ok (.iconst 3, 1) := by decide +kernel
theorem dX1_keptBack_17 : decode cX1_keptBack 17 = .ok (.iand, 1) := by decide +kernel
theorem dX1_keptBack_18 : decode cX1_keptBack 18 = .ok (.ireturn, 1) := by decide +kernel
theorem dX2_init_0 : decode cX2_init 0 = .ok (.aload_n 0, 1) := by decide +kernel
theorem dX2_init_1 : decode cX2_init 1 = .ok (.invokespecial 3, 3) := by decide +kernel
theorem dX2_init_4 : decode cX2_init 4 = .ok (.aload_n 0, 1) := by decide +kernel
theorem dX2_init_5 : decode cX2_init 5 = .ok (.bipush 12, 2) := by decide +kernel
theorem dX2_init_7 : decode cX2_init 7 = .ok (.newarray .int, 2) := by decide +kernel
theorem dX2_init_9 : decode cX2_init 9 = .ok (.putfield 9, 3) := by decide +kernel
theorem dX2_init_12 : decode cX2_init 12 = .ok (.aload_n 0, 1) := by decide +kernel
theorem dX2_init_13 : decode cX2_init 13 = .ok (.bipush 12, 2) := by decide +kernel
theorem dX2_init_15 : decode cX2_init 15 = .ok (.newarray .int, 2) := by decide +kernel
theorem dX2_init_17 : decode cX2_init 17 = .ok (.putfield 15, 3) := by decide +kernel
theorem dX2_init_20 : decode cX2_init 20 = .ok (.aload_n 0, 1) := by decide +kernel
theorem dX2_init_21 : decode cX2_init 21 = .ok (.bipush 8, 2) := by decide +kernel
theorem dX2_init_23 : decode cX2_init 23 = .ok (.newarray .long, 2) := by decide +kernel
theorem dX2_init_25 : decode cX2_init 25 = .ok (.putfield 18, 3) := by decide +kernel
theorem dX2_init_28 : decode cX2_init 28 = .ok (.aload_n 0, 1) := by decide +kernel
theorem dX2_init_29 : decode cX2_init 29 = .ok (.bipush 8, 2) := by decide +kernel
theorem dX2_init_31 : decode cX2_init 31 = .ok (.bipush 8, 2) := by decide +kernel
theorem dX2_init_33 : decode cX2_init 33 = .ok (.multianewarray 22 2, 4) := by decide +kernel
theorem dX2_init_37 : decode cX2_init 37 = .ok (.putfield 24, 3) := by decide +kernel
theorem dX2_init_40 : decode cX2_init 40 = .ok (.return_, 1) := by decide +kernel
theorem dX2_take_0 : decode cX2_take 0 = .ok (.iconst 0, 1) := by decide +kernel
theorem dX2_take_1 : decode cX2_take 1 = .ok (.istore_n 2, 1) := by decide +kernel
theorem dX2_take_2 : decode cX2_take 2 = .ok (.iload_n 2, 1) := by decide +kernel
theorem dX2_take_3 : decode cX2_take 3 = .ok (.aload_n 1, 1) := by decide +kernel
theorem dX2_take_4 : decode cX2_take 4 = .ok (.getfield 27, 3) := by decide +kernel
theorem dX2_take_7 : decode cX2_take 7 = .ok (.if_icmp .ge 40, 3) := by decide +kernel
theorem dX2_take_10 : decode cX2_take 10 = .ok (.aload_n 1, 1) := by decide +kernel
theorem dX2_take_11 : decode cX2_take 11 = .ok (.getfield 33, 3) := by decide +kernel
theorem dX2_take_14 : decode cX2_take 14 = .ok (.iload_n 2, 1) := by decide +kernel
theorem dX2_take_15 : decode cX2_take 15 = .ok (.iaload, 1) := by decide +kernel
theorem dX2_take_16 : decode cX2_take 16 = .ok (.istore_n 3, 1) := by decide +kernel
theorem dX2_take_17 : decode cX2_take 17 = .ok (.aload_n 0, 1) := by decide +kernel
theorem dX2_take_18 : decode cX2_take 18 = .ok (.getfield 9, 3) := by decide +kernel
theorem dX2_take_21 : decode cX2_take 21 = .ok (.iload_n 2, 1) := by decide +kernel
theorem dX2_take_22 : decode cX2_take 22 = .ok (.aload_n 1, 1) := by decide +kernel
theorem dX2_take_23 : decode cX2_take 23 = .ok (.getfield 36, 3) := by decide +kernel
theorem dX2_take_26 : decode cX2_take 26 = .ok (.iload_n 3, 1) := by decide +kernel
theorem dX2_take_27 : decode cX2_take 27 = .ok (.iaload, 1) := by decide +kernel
theorem dX2_take_28 : decode cX2_take 28 = .ok (.iastore, 1) := by decide +kernel
theorem dX2_take_29 : decode cX2_take 29 = .ok (.aload_n 0, 1) := by decide +kernel
theorem dX2_take_30 : decode cX2_take 30 = .ok (.getfield 15, 3) := by decide +kernel
theorem dX2_take_33 : decode cX2_take 33 = .ok (.iload_n 2, 1) := by decide +kernel
theorem dX2_take_34 : decode cX2_take 34 = .ok (.aload_n 1, 1) := by decide +kernel
theorem dX2_take_35 : decode cX2_take 35 = .ok (.getfield 37, 3) := by decide +kernel
theorem dX2_take_38 : decode cX2_take 38 = .ok (.iload_n 3, 1) := by decide +kernel
theorem dX2_take_39 : decode cX2_take 39 = .ok (.iaload, 1) := by decide +kernel
theorem dX2_take_40 : decode cX2_take 40 = .ok (.iastore, 1) := by decide +kernel
theorem dX2_take_41 : decode cX2_take 41 = .ok (.iinc 2 1, 3) := by decide +kernel
theorem dX2_take_44 : decode cX2_take 44 = .ok (.goto (-42), 3) := by decide +kernel
theorem dX2_take_47 : decode cX2_take 47 = .ok (.aload_n 0, 1) := by decide +kernel
theorem dX2_take_48 : decode cX2_take 48 = .ok (.aload_n 1, 1) := by decide +kernel
theorem dX2_take_49 : decode cX2_take 49 = .ok (.invokevirtual 38, 3) := by decide +kernel
theorem dX2_take_52 : decode cX2_take 52 = .ok (.putfield 42, 3) := by decide +kernel
theorem dX2_take_55 : decode cX2_take 55 = .ok (.aload_n 0, 1) := by decide +kernel
theorem dX2_take_56 : decode cX2_take 56 = .ok (.aload_n 1, 1) := by decide +kernel
theorem dX2_take_57 : decode cX2_take 57 = .ok (.getfield 44, 3) := by decide +kernel
theorem dX2_take_60 : decode cX2_take 60 = .ok (.iconst 3, 1) := by decide +kernel
theorem dX2_take_61 : decode cX2_take 61 = .ok (.iaload, 1) := by decide +kernel
theorem dX2_take_62 : decode cX2_take 62 = .ok (.iconst 1, 1) := by decide +kernel
theorem dX2_take_63 : decode cX2_take 63 = .ok (.if_icmp .ne 7, 3) := by decide +kernel
theorem dX2_take_66 : decode cX2_take 66 = .ok (.iconst 1, 1) := by decide +kernel
theorem dX2_take_67 : decode cX2_take 67 = .ok (.goto 4, 3) := by decide +kernel
theorem dX2_take_70 : decode cX2_take 70 = .ok (.iconst 0, 1) := by decide +kernel
theorem dX2_take_71 : decode cX2_take 71 = .ok (.putfield 47, 3) := by decide +kernel
theorem dX2_take_74 : decode cX2_take 74 = .ok (.aload_n 0, 1) := by decide +kernel
theorem dX2_take_75 : decode cX2_take 75 = .ok (.aload_n 1, 1) := by decide +kernel
theorem dX2_take_76 : decode cX2_take 76 = .ok (.getfield 44, 3) := by decide +kernel
theorem dX2_take_79 : decode cX2_take 79 = .ok (.iconst 4, 1) := by decide +kernel
theorem dX2_take_80 : decode cX2_take 80 = .ok (.iaload, 1) := by decide +kernel
theorem dX2_take_81 : decode cX2_take 81 = .ok (.putfield 51, 3) := by decide +kernel
theorem dX2_take_84 : decode cX2_take 84 = .ok (.return_, 1) := by decide +kernel
theorem dX2_lean_0 : decode cX2_lean 0 = .ok (.aload_n 0, 1) := by decide +kernel
theorem dX2_lean_1 : decode cX2_lean 1 = .ok (.getfield 9, 3) := by decide +kernel
theorem dX2_lean_4 : decode cX2_lean 4 = .ok (.iload_n 1, 1) := by decide +kernel
theorem dX2_lean_5 : decode cX2_lean 5 = .ok (.iload_n 2, 1) := by decide +kernel
theorem dX2_lean_6 : decode cX2_lean 6 = .ok (.iastore, 1) := by decide +kernel
theorem dX2_lean_7 : decode cX2_lean 7 = .ok (.aload_n 0, 1) := by decide +kernel
theorem dX2_lean_8 : decode cX2_lean 8 = .ok (.getfield 15, 3) := by decide +kernel
theorem dX2_lean_11 : decode cX2_lean 11 = .ok (.iload_n 1, 1) := by decide +kernel
theorem dX2_lean_12 : decode cX2_lean 12 = .ok (.iload_n 3, 1) := by decide +kernel
theorem dX2_lean_13 : decode cX2_lean 13 = .ok (.iastore, 1) := by decide +kernel
theorem dX2_lean_14 : decode cX2_lean 14 = .ok (.return_, 1) := by decide +kernel
theorem dX2_chanceOf_0 : decode cX2_chanceOf 0 = .ok (.aload_n 0, 1) := by decide +kernel
theorem dX2_chanceOf_1 : decode cX2_chanceOf 1 = .ok (.aload_n 0, 1) := by decide +kernel
theorem dX2_chanceOf_2 : decode cX2_chanceOf 2 = .ok (.getfield 9, 3) := by decide +kernel
theorem dX2_chanceOf_5 : decode cX2_chanceOf 5 = .ok (.iload_n 1, 1) := by decide +kernel
theorem dX2_chanceOf_6 : decode cX2_chanceOf 6 = .ok (.invokevirtual 54, 3) := by decide +kernel
theorem dX2_chanceOf_9 : decode cX2_chanceOf 9 = .ok (.aload_n 0, 1) := by decide +kernel
theorem dX2_chanceOf_10 : decode cX2_chanceOf 10 = .ok (.invokevirtual 58, 3) := by decide +kernel
theorem dX2_chanceOf_13 : decode cX2_chanceOf 13 = .ok (.lstore_n 2, 1) := by decide +kernel
theorem dX2_chanceOf_14 : decode cX2_chanceOf 14 = .ok (.aload_n 0, 1) := by decide +kernel
theorem dX2_chanceOf_15 : decode cX2_chanceOf 15 = .ok (.aload_n 0, 1) := by decide +kernel
theorem dX2_chanceOf_16 : decode cX2_chanceOf 16 = .ok (.getfield 15, 3) := by decide +kernel
theorem dX2_chanceOf_19 : decode cX2_chanceOf 19 = .ok (.iload_n 1, 1) := by decide +kernel
theorem dX2_chanceOf_20 : decode cX2_chanceOf 20 = .ok (.invokevirtual 54, 3) := by decide +kernel
theorem dX2_chanceOf_23 : decode cX2_chanceOf 23 = .ok (.aload_n 0, 1) := by decide +kernel
theorem dX2_chanceOf_24 : decode cX2_chanceOf 24 = .ok (.getfield 51, 3) := by decide +kernel
theorem dX2_chanceOf_27 : decode cX2_chanceOf 27 = .ok (.i2l, 1) := by decide +kernel
theorem dX2_chanceOf_28 : decode cX2_chanceOf 28 = .ok (.lload_n 2, 1) := by decide +kernel
theorem dX2_chanceOf_29 : decode cX2_chanceOf 29 = .ok (.lmul, 1) := by decide +kernel
theorem dX2_chanceOf_30 : decode cX2_chanceOf 30 = .ok (.bipush 100, 2) := by decide +kernel
theorem dX2_chanceOf_32 : decode cX2_chanceOf 32 = .ok (.aload_n 0, 1) := by decide +kernel
theorem dX2_chanceOf_33 : decode cX2_chanceOf 33 = .ok (.getfield 51, 3) := by decide +kernel
theorem dX2_chanceOf_36 : decode cX2_chanceOf 36 = .ok (.isub, 1) := by decide +kernel
theorem dX2_chanceOf_37 : decode cX2_chanceOf 37 = .ok (.i2l, 1) := by decide +kernel
theorem dX2_chanceOf_38 : decode cX2_chanceOf 38 = .ok (.aload_n 0, 1) := by decide +kernel
theorem dX2_chanceOf_39 : decode cX2_chanceOf 39 = .ok (.invokevirtual 58, 3) := by decide +kernel
theorem dX2_chanceOf_42 : decode cX2_chanceOf 42 = .ok (.lmul, 1) := by decide +kernel
theorem dX2_chanceOf_43 : decode cX2_chanceOf 43 = .ok (.ladd, 1) := by decide +kernel
theorem dX2_chanceOf_44 : decode cX2_chanceOf 44 = .ok (.lreturn, 1) := by decide +kernel
theorem dX2_rightOf_0 : decode cX2_rightOf 0 = .ok (.aload_n 0, 1) := by decide +kernel
theorem dX2_rightOf_1 : decode cX2_rightOf 1 = .ok (.aload_n 0, 1) := by decide +kernel
theorem dX2_rightOf_2 : decode cX2_rightOf 2 = .ok (.getfield 9, 3) := by decide +kernel
theorem dX2_rightOf_5 : decode cX2_rightOf 5 = .ok (.iload_n 1, 1) := by decide +kernel
theorem dX2_rightOf_6 : decode cX2_rightOf 6 = .ok (.invokevirtual 54, 3) := by decide +kernel
theorem dX2_rightOf_9 : decode cX2_rightOf 9 = .ok (.aload_n 0, 1) := by decide +kernel
theorem dX2_rightOf_10 : decode cX2_rightOf 10 = .ok (.invokevirtual 58, 3) := by decide +kernel
theorem dX2_rightOf_13 : decode cX2_rightOf 13 = .ok (.lstore_n 2, 1) := by decide +kernel
theorem dX2_rightOf_14 : decode cX2_rightOf 14 = .ok (.aload_n 0, 1) := by decide +kernel
theorem dX2_rightOf_15 : decode cX2_rightOf 15 = .ok (.aload_n 0, 1) := by decide +kernel
theorem dX2_rightOf_16 : decode cX2_rightOf 16 = .ok (.getfield 15, 3) := by decide +kernel
theorem dX2_rightOf_19 : decode cX2_rightOf 19 = .ok (.iload_n 1, 1) := by decide +kernel
theorem dX2_rightOf_20 : decode cX2_rightOf 20 = .ok (.invokevirtual 54, 3) := by decide +kernel
theorem dX2_rightOf_23 : decode cX2_rightOf 23 = .ok (.aload_n 0, 1) := by decide +kernel
theorem dX2_rightOf_24 : decode cX2_rightOf 24 = .ok (.getfield 51, 3) := by decide +kernel
theorem dX2_rightOf_27 : decode cX2_rightOf 27 = .ok (.i2l, 1) := by decide +kernel
theorem dX2_rightOf_28 : decode cX2_rightOf 28 = .ok (.lload_n 2, 1) := by decide +kernel
theorem dX2_rightOf_29 : decode cX2_rightOf 29 = .ok (.lmul, 1) := by decide +kernel
theorem dX2_rightOf_30 : decode cX2_rightOf 30 = .ok (.bipush 100, 2) := by decide +kernel
theorem dX2_rightOf_32 : decode cX2_rightOf 32 = .ok (.aload_n 0, 1) := by decide +kernel
theorem dX2_rightOf_33 : decode cX2_rightOf 33 = .ok (.getfield 51, 3) := by decide +kernel
theorem dX2_rightOf_36 : decode cX2_rightOf 36 = .ok (.isub, 1) := by decide +kernel
theorem dX2_rightOf_37 : decode cX2_rightOf 37 = .ok (.i2l, 1) := by decide +kernel
theorem dX2_rightOf_38 : decode cX2_rightOf 38 = .ok (.aload_n 0, 1) := by decide +kernel
theorem dX2_rightOf_39 : decode cX2_rightOf 39 = .ok (.invokevirtual 62, 3) := by decide +kernel
theorem dX2_rightOf_42 : decode cX2_rightOf 42 = .ok (.lmul, 1) := by decide +kernel
theorem dX2_rightOf_43 : decode cX2_rightOf 43 = .ok (.ladd, 1) := by decide +kernel
theorem dX2_rightOf_44 : decode cX2_rightOf 44 = .ok (.lreturn, 1) := by decide +kernel
theorem dX2_spreadOut_0 : decode cX2_spreadOut 0 = .ok (.iconst 0, 1) := by decide +kernel
theorem dX2_spreadOut_1 : decode cX2_spreadOut 1 = .ok (.istore_n 3, 1) := by decide +kernel
theorem dX2_spreadOut_2 : decode cX2_spreadOut 2 = .ok (.aload_n 0, 1) := by decide +kernel
theorem dX2_spreadOut_3 : decode cX2_spreadOut 3 = .ok (.getfield 18, 3) := by decide +kernel
theorem dX2_spreadOut_6 : decode cX2_spreadOut 6 = .ok (.iconst 0, 1) := by decide +kernel
theorem dX2_spreadOut_7 : decode cX2_spreadOut 7 = .ok (.lconst 1, 1) := by decide +kernel
theorem dX2_spreadOut_8 : decode cX2_spreadOut 8 = .ok (.lastore, 1) := by decide +kernel
theorem dX2_spreadOut_9 : decode cX2_spreadOut 9 = .ok (.iconst 0, 1) := by decide +kernel
theorem dX2_spreadOut_10 : decode cX2_spreadOut 10 = .ok (.istore 4, 2) := by decide +kernel
theorem dX2_spreadOut_12 : decode cX2_spreadOut 12 = .ok (.iload 4, 2) := by decide +kernel
theorem dX2_spreadOut_14 : decode cX2_spreadOut 14 = .ok (.bipush 12, 2) := by decide +kernel
theorem dX2_spreadOut_16 : decode cX2_spreadOut 16 = .ok (.if_icmp .ge 121, 3) := by decide +kernel
theorem dX2_spreadOut_19 : decode cX2_spreadOut 19 = .ok (.iload_n 3, 1) := by decide +kernel
theorem dX2_spreadOut_20 : decode cX2_spreadOut 20 = .ok (.aload_n 0, 1) := by decide +kernel
theorem dX2_spreadOut_21 : decode cX2_spreadOut 21 = .ok (.getfield 42, 3) := by decide +kernel
theorem dX2_spreadOut_24 : decode cX2_spreadOut 24 = .ok (.if_icmp .ge 113, 3) := by decide +kernel
theorem dX2_spreadOut_27 : decode cX2_spreadOut 27 = .ok (.iload_n 2, 1) := by decide +kernel
theorem dX2_spreadOut_28 : decode cX2_spreadOut 28 = .ok (.iconst 1, 1) := by decide +kernel
theorem dX2_spreadOut_29 : decode cX2_spreadOut 29 = .ok (.iload 4, 2) := by decide +kernel
theorem dX2_spreadOut_31 : decode cX2_spreadOut 31 = .ok (.ishl, 1) := by decide +kernel
theorem dX2_spreadOut_32 : decode cX2_spreadOut 32 = .ok (.iand, 1) := by decide +kernel
theorem dX2_spreadOut_33 : decode cX2_spreadOut 33 = .ok (.ifCond .ne 6, 3) := by decide +kernel
theorem dX2_spreadOut_36 : decode cX2_spreadOut 36 = .ok (.goto 95, 3) := by decide +kernel
theorem dX2_spreadOut_39 : decode cX2_spreadOut 39 = .ok (.aload_n 1, 1) := by decide +kernel
theorem dX2_spreadOut_40 : decode cX2_spreadOut 40 = .ok (.iload 4, 2) := by decide +kernel
theorem dX2_spreadOut_42 : decode cX2_spreadOut 42 = .ok (.iaload, 1) := by decide +kernel
theorem dX2_spreadOut_43 : decode cX2_spreadOut 43 = .ok (.i2l, 1) := by decide +kernel
theorem dX2_spreadOut_44 : decode cX2_spreadOut 44 = .ok (.lstore 5, 2) := by decide +kernel
theorem dX2_spreadOut_46 : decode cX2_spreadOut 46 = .ok (.ldc2_w 65, 3) := by decide +kernel
theorem dX2_spreadOut_49 : decode cX2_spreadOut 49 = .ok (.lload 5, 2) := by decide +kernel
theorem dX2_spreadOut_51 : decode cX2_spreadOut 51 = .ok (.lsub, 1) := by decide +kernel
theorem dX2_spreadOut_52 : decode cX2_spreadOut 52 = .ok (.lstore 7, 2) := by decide +kernel
theorem dX2_spreadOut_54 : decode cX2_spreadOut 54 = .ok (.iinc 3 1, 3) := by decide +kernel
theorem dX2_spreadOut_57 : decode cX2_spreadOut 57 = .ok (.aload_n 0, 1) := by decide +kernel
theorem dX2_spreadOut_58 : decode cX2_spreadOut 58 = .ok (.getfield 18, 3) := by decide +kernel
theorem dX2_spreadOut_61 : decode cX2_spreadOut 61 = .ok (.iload_n 3, 1) := by decide +kernel
theorem dX2_spreadOut_62 : decode cX2_spreadOut 62 = .ok (.aload_n 0, 1) := by decide +kernel
theorem dX2_spreadOut_63 : decode cX2_spreadOut 63 = .ok (.getfield 18, 3) := by decide +kernel
theorem dX2_spreadOut_66 : decode cX2_spreadOut 66 = .ok (.iload_n 3, 1) := by decide +kernel
theorem dX2_spreadOut_67 : decode cX2_spreadOut 67 = .ok (.iconst 1, 1) := by decide +kernel
theorem dX2_spreadOut_68 : decode cX2_spreadOut 68 = .ok (.isub, 1) := by decide +kernel
theorem dX2_spreadOut_69 : decode cX2_spreadOut 69 = .ok (.laload, 1) := by decide +kernel
theorem dX2_spreadOut_70 : decode cX2_spreadOut 70 = .ok (.lload 5, 2) := by decide +kernel
theorem dX2_spreadOut_72 : decode cX2_spreadOut 72 = .ok (.lmul, 1) := by decide +kernel
theorem dX2_spreadOut_73 : decode cX2_spreadOut 73 = .ok (.lastore, 1) := by decide +kernel
theorem dX2_spreadOut_74 : decode cX2_spreadOut 74 = .ok (.iload_n 3, 1) := by decide +kernel
theorem dX2_spreadOut_75 : decode cX2_spreadOut 75 = .ok (.iconst 1, 1) := by decide +kernel
theorem dX2_spreadOut_76 : decode cX2_spreadOut 76 = .ok (.isub, 1) := by decide +kernel
theorem dX2_spreadOut_77 : decode cX2_spreadOut 77 = .ok (.istore 9, 2) := by decide +kernel
theorem dX2_spreadOut_79 : decode cX2_spreadOut 79 = .ok (.iload 9, 2) := by decide +kernel
theorem dX2_spreadOut_81 : decode cX2_spreadOut 81 = .ok (.ifCond .le 39, 3) := by decide +kernel
theorem dX2_spreadOut_84 : decode cX2_spreadOut 84 = .ok (.aload_n 0, 1) := by decide +kernel
theorem dX2_spreadOut_85 : decode cX2_spreadOut 85 = .ok (.getfield 18, 3) := by decide +kernel
theorem dX2_spreadOut_88 : decode cX2_spreadOut 88 = .ok (.iload 9, 2) := by decide +kernel
theorem dX2_spreadOut_90 : decode cX2_spreadOut 90 = .ok (.aload_n 0, 1) := by decide +kernel
theorem dX2_spreadOut_91 : decode cX2_spreadOut 91 = .ok (.getfield 18, 3) := by decide +kernel
theorem dX2_spreadOut_94 : decode cX2_spreadOut 94 = .ok (.iload 9, 2) := by decide +kernel
theorem dX2_spreadOut_96 : decode cX2_spreadOut 96 = .ok (.laload, 1) := by decide +kernel
theorem dX2_spreadOut_97 : decode cX2_spreadOut 97 = .ok (.lload 7, 2) := by decide +kernel
theorem dX2_spreadOut_99 : decode cX2_spreadOut 99 = .ok (.lmul, 1) := by decide +kernel
theorem dX2_spreadOut_100 : decode cX2_spreadOut 100 = .ok (.aload_n 0, 1) := by decide +kernel
theorem dX2_spreadOut_101 : decode cX2_spreadOut 101 = .ok (.getfield 18, 3) := by decide +kernel
theorem dX2_spreadOut_104 : decode cX2_spreadOut 104 = .ok (.iload 9, 2) := by decide +kernel
theorem dX2_spreadOut_106 : decode cX2_spreadOut 106 = .ok (.iconst 1, 1) := by decide +kernel
theorem dX2_spreadOut_107 : decode cX2_spreadOut 107 = .ok (.isub, 1) := by decide +kernel
theorem dX2_spreadOut_108 : decode cX2_spreadOut 108 = .ok (.laload, 1) := by decide +kernel
theorem dX2_spreadOut_109 : decode cX2_spreadOut 109 = .ok (.lload 5, 2) := by decide +kernel
theorem dX2_spreadOut_111 : decode cX2_spreadOut 111 = .ok (.lmul, 1) := by decide +kernel
theorem dX2_spreadOut_112 : decode cX2_spreadOut 112 = .ok (.ladd, 1) := by decide +kernel
theorem dX2_spreadOut_113 : decode cX2_spreadOut 113 = .ok (.lastore, 1) := by decide +kernel
theorem dX2_spreadOut_114 : decode cX2_spreadOut 114 = .ok (.iinc 9 (-1), 3) := by decide +kernel
theorem dX2_spreadOut_117 : decode cX2_spreadOut 117 = .ok (.goto (-38), 3) := by decide +kernel
theorem dX2_spreadOut_120 : decode cX2_spreadOut 120 = .ok (.aload_n 0, 1) := by decide +kernel
theorem dX2_spreadOut_121 : decode cX2_spreadOut 121 = .ok (.getfield 18, 3) := by decide +kernel
theorem dX2_spreadOut_124 : decode cX2_spreadOut 124 = .ok (.iconst 0, 1) := by decide +kernel
theorem dX2_spreadOut_125 : decode cX2_spreadOut 125 = .ok (.dup2, 1) := by decide +kernel
theorem dX2_spreadOut_126 : decode cX2_spreadOut 126 = .ok (.laload, 1) := by decide +kernel
theorem dX2_spreadOut_127 : decode cX2_spreadOut 127 = .ok (.lload 7, 2) := by decide +kernel
theorem dX2_spreadOut_129 : decode cX2_spreadOut 129 = .ok (.lmul, 1) := by decide +kernel
theorem dX2_spreadOut_130 : decode cX2_spreadOut 130 = .ok (.lastore, 1) := by decide +kernel
theorem dX2_spreadOut_131 : decode cX2_spreadOut 131 = .ok (.iinc 4 1, 3) := by decide +kernel
theorem dX2_spreadOut_134 : decode cX2_spreadOut 134 = .ok (.goto (-122), 3) := by decide +kernel
theorem dX2_spreadOut_137 : decode cX2_spreadOut 137 = .ok (.return_, 1) := by decide +kernel
theorem dX2_rightOfAll_0 : decode cX2_rightOfAll 0 = .ok (.aload_n 0, 1) := by decide +kernel
theorem dX2_rightOfAll_1 : decode cX2_rightOfAll 1 = .ok (.aload_n 0, 1) := by decide +kernel
theorem dX2_rightOfAll_2 : decode cX2_rightOfAll 2 = .ok (.getfield 9, 3) := by decide +kernel
theorem dX2_rightOfAll_5 : decode cX2_rightOfAll 5 = .ok (.iload_n 1, 1) := by decide +kernel
theorem dX2_rightOfAll_6 : decode cX2_rightOfAll 6 = .ok (.invokevirtual 67, 3) := by decide +kernel
theorem dX2_rightOfAll_9 : decode cX2_rightOfAll 9 = .ok (.aload_n 0, 1) := by decide +kernel
theorem dX2_rightOfAll_10 : decode cX2_rightOfAll 10 = .ok (.invokevirtual 58, 3) := by decide +kernel
theorem dX2_rightOfAll_13 : decode cX2_rightOfAll 13 = .ok (.lstore_n 2, 1) := by decide +kernel
theorem dX2_rightOfAll_14 : decode cX2_rightOfAll 14 = .ok (.aload_n 0, 1) := by decide +kernel
theorem dX2_rightOfAll_15 : decode cX2_rightOfAll 15 = .ok (.aload_n 0, 1) := by decide +kernel
theorem dX2_rightOfAll_16 : decode cX2_rightOfAll 16 = .ok (.getfield 15, 3) := by decide +kernel
theorem dX2_rightOfAll_19 : decode cX2_rightOfAll 19 = .ok (.iload_n 1, 1) := by decide +kernel
theorem dX2_rightOfAll_20 : decode cX2_rightOfAll 20 = .ok (.invokevirtual 67, 3) := by decide +kernel
theorem dX2_rightOfAll_23 : decode cX2_rightOfAll 23 = .ok (.aload_n 0, 1) := by decide +kernel
theorem dX2_rightOfAll_24 : decode cX2_rightOfAll 24 = .ok (.getfield 51, 3) := by decide +kernel
theorem dX2_rightOfAll_27 : decode cX2_rightOfAll 27 = .ok (.i2l, 1) := by decide +kernel
theorem dX2_rightOfAll_28 : decode cX2_rightOfAll 28 = .ok (.lload_n 2, 1) := by decide +kernel
theorem dX2_rightOfAll_29 : decode cX2_rightOfAll 29 = .ok (.lmul, 1) := by decide +kernel
theorem dX2_rightOfAll_30 : decode cX2_rightOfAll 30 = .ok (.bipush 100, 2) := by decide +kernel
theorem dX2_rightOfAll_32 : decode cX2_rightOfAll 32 = .ok (.aload_n 0, 1) := by decide +kernel
theorem dX2_rightOfAll_33 : decode cX2_rightOfAll 33 = .ok (.getfield 51, 3) := by decide +kernel
theorem dX2_rightOfAll_36 : decode cX2_rightOfAll 36 = .ok (.isub, 1) := by decide +kernel
theorem dX2_rightOfAll_37 : decode cX2_rightOfAll 37 = .ok (.i2l, 1) := by decide +kernel
theorem dX2_rightOfAll_38 : decode cX2_rightOfAll 38 = .ok (.aload_n 0, 1) := by decide +kernel
theorem dX2_rightOfAll_39 : decode cX2_rightOfAll 39 = .ok (.invokevirtual 62, 3) := by decide +kernel
theorem dX2_rightOfAll_42 : decode cX2_rightOfAll 42 = .ok (.lmul, 1) := by decide +kernel
theorem dX2_rightOfAll_43 : decode cX2_rightOfAll 43 = .ok (.ladd, 1) := by decide +kernel
theorem dX2_rightOfAll_44 : decode cX2_rightOfAll 44 = .ok (.lreturn, 1) := by decide +kernel
theorem dX2_spreadOutAll_0 : decode cX2_spreadOutAll 0 = .ok (.iconst 0, 1) := by decide +kernel
theorem dX2_spreadOutAll_1 : decode cX2_spreadOutAll 1 = .ok (.istore_n 3, 1) := by decide +kernel
theorem dX2_spreadOutAll_2 : decode cX2_spreadOutAll 2 = .ok (.iload_n 3, 1) := by decide +kernel
theorem dX2_spreadOutAll_3 : decode cX2_spreadOutAll 3 = .ok (.aload_n 0, 1) := by decide +kernel
theorem dX2_spreadOutAll_4 : decode cX2_spreadOutAll 4 = .ok (.getfield 42, 3) := by decide +kernel
theorem dX2_spreadOutAll_7 : decode cX2_spreadOutAll 7 = .ok (.if_icmp .gt 34, 3) := by decide +kernel
theorem dX2_spreadOutAll_10 : decode cX2_spreadOutAll 10 = .ok (.iconst 0, 1) := by decide +kernel
theorem dX2_spreadOutAll_11 : decode cX2_spreadOutAll 11 = .ok (.istore 4, 2) := by decide +kernel
theorem dX2_spreadOutAll_13 : decode cX2_spreadOutAll 13 = .ok (.iload 4, 2) := by decide +kernel
theorem dX2_spreadOutAll_15 : decode cX2_spreadOutAll 15 = .ok (.iload_n 3, 1) := by decide +kernel
theorem dX2_spreadOutAll_16 : decode cX2_spreadOutAll 16 = .ok (.if_icmp .gt 19, 3) := by decide +kernel
theorem dX2_spreadOutAll_19 : decode cX2_spreadOutAll 19 = .ok (.aload_n 0, 1) := by decide +kernel
theorem dX2_spreadOutAll_20 : decode cX2_spreadOutAll 20 = .ok (.getfield 24, 3) := by decide +kernel
theorem dX2_spreadOutAll_23 : decode cX2_spreadOutAll 23 = .ok (.iload_n 3, 1) := by decide +kernel
theorem dX2_spreadOutAll_24 : decode cX2_spreadOutAll 24 = .ok (.aaload, 1) := by decide +kernel
theorem dX2_spreadOutAll_25 : decode cX2_spreadOutAll 25 = .ok (.iload 4, 2) := by decide +kernel
theorem dX2_spreadOutAll_27 : decode cX2_spreadOutAll 27 = .ok (.lconst 0, 1) := by decide +kernel
theorem dX2_spreadOutAll_28 : decode cX2_spreadOutAll 28 = .ok (.lastore, 1) := by decide +kernel
theorem dX2_spreadOutAll_29 : decode cX2_spreadOutAll 29 = .ok (.iinc 4 1, 3) := by decide +kernel
theorem dX2_spreadOutAll_32 : decode cX2_spreadOutAll 32 = .ok (.goto (-19), 3) := by decide +kernel
theorem dX2_spreadOutAll_35 : decode cX2_spreadOutAll 35 = .ok (.iinc 3 1, 3) := by decide +kernel
theorem dX2_spreadOutAll_38 : decode cX2_spreadOutAll 38 = .ok (.goto (-36), 3) := by decide +kernel
theorem dX2_spreadOutAll_41 : decode cX2_spreadOutAll 41 = .ok (.aload_n 0, 1) := by decide +kernel
theorem dX2_spreadOutAll_42 : decode cX2_spreadOutAll 42 = .ok (.getfield 24, 3) := by decide +kernel
theorem dX2_spreadOutAll_45 : decode cX2_spreadOutAll 45 = .ok (.iconst 0, 1) := by decide +kernel
theorem dX2_spreadOutAll_46 : decode cX2_spreadOutAll 46 = .ok (.aaload, 1) := by decide +kernel
theorem dX2_spreadOutAll_47 : decode cX2_spreadOutAll 47 = .ok (.iconst 0, 1) := by decide +kernel
theorem dX2_spreadOutAll_48 : decode cX2_spreadOutAll 48 = .ok (.lconst 1, 1) := by decide +kernel
theorem dX2_spreadOutAll_49 : decode cX2_spreadOutAll 49 = .ok (.lastore, 1) := by decide +kernel
theorem dX2_spreadOutAll_50 : decode cX2_spreadOutAll 50 = .ok (.iconst 0, 1) := by decide +kernel
theorem dX2_spreadOutAll_51 : decode cX2_spreadOutAll 51 = .ok (.istore_n 3, 1) := by decide +kernel
theorem dX2_spreadOutAll_52 : decode cX2_spreadOutAll 52 = .ok (.iload_n 3, 1) := by decide +kernel
theorem dX2_spreadOutAll_53 : decode cX2_spreadOutAll 53 = .ok (.iload_n 2, 1) := by decide +kernel
theorem dX2_spreadOutAll_54 : decode cX2_spreadOutAll 54 = .ok (.if_icmp .ge 112, 3) := by decide +kernel
theorem dX2_spreadOutAll_57 : decode cX2_spreadOutAll 57 = .ok (.aload_n 1, 1) := by decide +kernel
theorem dX2_spreadOutAll_58 : decode cX2_spreadOutAll 58 = .ok (.iload_n 3, 1) := by decide +kernel
theorem dX2_spreadOutAll_59 : decode cX2_spreadOutAll 59 = .ok (.iaload, 1) := by decide +kernel
theorem dX2_spreadOutAll_60 : decode cX2_spreadOutAll 60 = .ok (.i2l, 1) := by decide +kernel
theorem dX2_spreadOutAll_61 : decode cX2_spreadOutAll 61 = .ok (.lstore 4, 2) := by decide +kernel
theorem dX2_spreadOutAll_63 : decode cX2_spreadOutAll 63 = .ok (.aload_n 0, 1) := by decide +kernel
theorem dX2_spreadOutAll_64 : decode cX2_spreadOutAll 64 = .ok (.getfield 42, 3) := by decide +kernel
theorem dX2_spreadOutAll_67 : decode cX2_spreadOutAll 67 = .ok (.iconst 1, 1) := by decide +kernel
theorem dX2_spreadOutAll_68 : decode cX2_spreadOutAll 68 = .ok (.isub, 1) := by decide +kernel
theorem dX2_spreadOutAll_69 : decode cX2_spreadOutAll 69 = .ok (.istore 6, 2) := by decide +kernel
theorem dX2_spreadOutAll_71 : decode cX2_spreadOutAll 71 = .ok (.iload 6, 2) := by decide +kernel
theorem dX2_spreadOutAll_73 : decode cX2_spreadOutAll 73 = .ok (.ifCond .lt 87, 3) := by decide +kernel
theorem dX2_spreadOutAll_76 : decode cX2_spreadOutAll 76 = .ok (.iconst 0, 1) := by decide +kernel
theorem dX2_spreadOutAll_77 : decode cX2_spreadOutAll 77 = .ok (.istore 7, 2) := by decide +kernel
theorem dX2_spreadOutAll_79 : decode cX2_spreadOutAll 79 = .ok (.iload 7, 2) := by decide +kernel
theorem dX2_spreadOutAll_81 : decode cX2_spreadOutAll 81 = .ok (.iload 6, 2) := by decide +kernel
theorem dX2_spreadOutAll_83 : decode cX2_spreadOutAll 83 = .ok (.if_icmp .gt 71, 3) := by decide +kernel
theorem dX2_spreadOutAll_86 : decode cX2_spreadOutAll 86 = .ok (.aload_n 0, 1) := by decide +kernel
theorem dX2_spreadOutAll_87 : decode cX2_spreadOutAll 87 = .ok (.getfield 24, 3) := by decide +kernel
theorem dX2_spreadOutAll_90 : decode cX2_spreadOutAll 90 = .ok (.iload 6, 2) := by decide +kernel
theorem dX2_spreadOutAll_92 : decode cX2_spreadOutAll 92 = .ok (.iconst 1, 1) := by decide +kernel
theorem dX2_spreadOutAll_93 : decode cX2_spreadOutAll 93 = .ok (.iadd, 1) := by decide +kernel
theorem dX2_spreadOutAll_94 : decode cX2_spreadOutAll 94 = .ok (.aaload, 1) := by decide +kernel
theorem dX2_spreadOutAll_95 : decode cX2_spreadOutAll 95 = .ok (.iload 7, 2) := by decide +kernel
theorem dX2_spreadOutAll_97 : decode cX2_spreadOutAll 97 = .ok (.iconst 1, 1) := by decide +kernel
theorem dX2_spreadOutAll_98 : decode cX2_spreadOutAll 98 = .ok (.iadd, 1) := by decide +kernel
theorem dX2_spreadOutAll_99 : decode cX2_spreadOutAll 99 = .ok (.dup2, 1) := by decide +kernel
theorem dX2_spreadOutAll_100 : decode cX2_spreadOutAll 100 = .ok (.laload, 1) := by decide +kernel
theorem dX2_spreadOutAll_101 : decode cX2_spreadOutAll 101 = .ok (.aload_n 0, 1) := by decide +kernel
theorem dX2_spreadOutAll_102 : decode cX2_spreadOutAll 102 = .ok (.getfield 24, 3) := by decide +kernel
theorem dX2_spreadOutAll_105 : decode cX2_spreadOutAll 105 = .ok (.iload 6, 2) := by decide +kernel
theorem dX2_spreadOutAll_107 : decode cX2_spreadOutAll 107 = .ok (.aaload, 1) := by decide +kernel
theorem dX2_spreadOutAll_108 : decode cX2_spreadOutAll 108 = .ok (.iload 7, 2) := by decide +kernel
theorem dX2_spreadOutAll_110 : decode cX2_spreadOutAll 110 = .ok (.laload, 1) := by decide +kernel
theorem dX2_spreadOutAll_111 : decode cX2_spreadOutAll 111 = .ok (.lload 4, 2) := by decide +kernel
theorem dX2_spreadOutAll_113 : decode cX2_spreadOutAll 113 = .ok (.lmul, 1) := by decide +kernel
theorem dX2_spreadOutAll_114 : decode cX2_spreadOutAll 114 = .ok (.ladd, 1) := by decide +kernel
theorem dX2_spreadOutAll_115 : decode cX2_spreadOutAll 115 = .ok (.lastore, 1) := by decide +kernel
theorem dX2_spreadOutAll_116 : decode cX2_spreadOutAll 116 = .ok (.aload_n 0, 1) := by decide +kernel
theorem dX2_spreadOutAll_117 : decode cX2_spreadOutAll 117 = .ok (.getfield 24, 3) := by decide +kernel
theorem dX2_spreadOutAll_120 : decode cX2_spreadOutAll 120 = .ok (.iload 6, 2) := by decide +kernel
theorem dX2_spreadOutAll_122 : decode cX2_spreadOutAll 122 = .ok (.iconst 1, 1) := by decide +kernel
theorem dX2_spreadOutAll_123 : decode cX2_spreadOutAll 123 = .ok (.iadd, 1) := by decide +kernel
theorem dX2_spreadOutAll_124 : decode cX2_spreadOutAll 124 = .ok (.aaload, 1) := by decide +kernel
theorem dX2_spreadOutAll_125 : decode cX2_spreadOutAll 125 = .ok (.iload 7, 2) := by decide +kernel
theorem dX2_spreadOutAll_127 : decode cX2_spreadOutAll 127 = .ok (.dup2, 1) := by decide +kernel
theorem dX2_spreadOutAll_128 : decode cX2_spreadOutAll 128 = .ok (.laload, 1) := by decide +kernel
theorem dX2_spreadOutAll_129 : decode cX2_spreadOutAll 129 = .ok (.aload_n 0, 1) := by decide +kernel
theorem dX2_spreadOutAll_130 : decode cX2_spreadOutAll 130 = .ok (.getfield 24, 3) := by decide +kernel
theorem dX2_spreadOutAll_133 : decode cX2_spreadOutAll 133 = .ok (.iload 6, 2) := by decide +kernel
theorem dX2_spreadOutAll_135 : decode cX2_spreadOutAll 135 = .ok (.aaload, 1) := by decide +kernel
theorem dX2_spreadOutAll_136 : decode cX2_spreadOutAll 136 = .ok (.iload 7, 2) := by decide +kernel
theorem dX2_spreadOutAll_138 : decode cX2_spreadOutAll 138 = .ok (.laload, 1) := by decide +kernel
theorem dX2_spreadOutAll_139 : decode cX2_spreadOutAll 139 = .ok (.ldc2_w 65, 3) := by decide +kernel
theorem dX2_spreadOutAll_142 : decode cX2_spreadOutAll 142 = .ok (.lload 4, 2) := by decide +kernel
theorem dX2_spreadOutAll_144 : decode cX2_spreadOutAll 144 = .ok (.lsub, 1) := by decide +kernel
theorem dX2_spreadOutAll_145 : decode cX2_spreadOutAll 145 = .ok (.lmul, 1) := by decide +kernel
theorem dX2_spreadOutAll_146 : decode cX2_spreadOutAll 146 = .ok (.ladd, 1) := by decide +kernel
theorem dX2_spreadOutAll_147 : decode cX2_spreadOutAll 147 = .ok (.lastore, 1) := by decide +kernel
theorem dX2_spreadOutAll_148 : decode cX2_spreadOutAll 148 = .ok (.iinc 7 1, 3) := by decide +kernel
theorem dX2_spreadOutAll_151 : decode cX2_spreadOutAll 151 = .ok (.goto (-72), 3) := by decide +kernel
theorem dX2_spreadOutAll_154 : decode cX2_spreadOutAll 154 = .ok (.iinc 6 (-1), 3) := by decide +kernel
theorem dX2_spreadOutAll_157 : decode cX2_spreadOutAll 157 = .ok (.goto (-86), 3) := by decide +kernel
theorem dX2_spreadOutAll_160 : decode cX2_spreadOutAll 160 = .ok (.iinc 3 1, 3) := by decide +kernel
theorem dX2_spreadOutAll_163 : decode cX2_spreadOutAll 163 = .ok (.goto (-111), 3) := by decide +kernel
theorem dX2_spreadOutAll_166 : decode cX2_spreadOutAll 166 = .ok (.iconst 0, 1) := by decide +kernel
theorem dX2_spreadOutAll_167 : decode cX2_spreadOutAll 167 = .ok (.istore_n 3, 1) := by decide +kernel
theorem dX2_spreadOutAll_168 : decode cX2_spreadOutAll 168 = .ok (.iload_n 3, 1) := by decide +kernel
theorem dX2_spreadOutAll_169 : decode cX2_spreadOutAll 169 = .ok (.aload_n 0, 1) := by decide +kernel
theorem dX2_spreadOutAll_170 : decode cX2_spreadOutAll 170 = .ok (.getfield 42, 3) := by decide +kernel
theorem dX2_spreadOutAll_173 : decode cX2_spreadOutAll 173 = .ok (.if_icmp .gt 26, 3) := by decide +kernel
theorem dX2_spreadOutAll_176 : decode cX2_spreadOutAll 176 = .ok (.aload_n 0, 1) := by decide +kernel
theorem dX2_spreadOutAll_177 : decode cX2_spreadOutAll 177 = .ok (.getfield 18, 3) := by decide +kernel
theorem dX2_spreadOutAll_180 : decode cX2_spreadOutAll 180 = .ok (.iload_n 3, 1) := by decide +kernel
theorem dX2_spreadOutAll_181 : decode cX2_spreadOutAll 181 = .ok (.aload_n 0, 1) := by decide +kernel
theorem dX2_spreadOutAll_182 : decode cX2_spreadOutAll 182 = .ok (.getfield 24, 3) := by decide +kernel
theorem dX2_spreadOutAll_185 : decode cX2_spreadOutAll 185 = .ok (.aload_n 0, 1) := by decide +kernel
theorem dX2_spreadOutAll_186 : decode cX2_spreadOutAll 186 = .ok (.getfield 42, 3) := by decide +kernel
theorem dX2_spreadOutAll_189 : decode cX2_spreadOutAll 189 = .ok (.aaload, 1) := by decide +kernel
theorem dX2_spreadOutAll_190 : decode cX2_spreadOutAll 190 = .ok (.iload_n 3, 1) := by decide +kernel
theorem dX2_spreadOutAll_191 : decode cX2_spreadOutAll 191 = .ok (.laload, 1) := by decide +kernel
theorem dX2_spreadOutAll_192 : decode cX2_spreadOutAll 192 = .ok (.lastore, 1) := by decide +kernel
theorem dX2_spreadOutAll_193 : decode cX2_spreadOutAll 193 = .ok (.iinc 3 1, 3) := by decide +kernel
theorem dX2_spreadOutAll_196 : decode cX2_spreadOutAll 196 = .ok (.goto (-28), 3) := by decide +kernel
theorem dX2_spreadOutAll_199 : decode cX2_spreadOutAll 199 = .ok (.return_, 1) := by decide +kernel
theorem dX2_areAlike_0 : decode cX2_areAlike 0 = .ok (.aload_n 0, 1) := by decide +kernel
theorem dX2_areAlike_1 : decode cX2_areAlike 1 = .ok (.getfield 9, 3) := by decide +kernel
theorem dX2_areAlike_4 : decode cX2_areAlike 4 = .ok (.iload_n 1, 1) := by decide +kernel
theorem dX2_areAlike_5 : decode cX2_areAlike 5 = .ok (.iaload, 1) := by decide +kernel
theorem dX2_areAlike_6 : decode cX2_areAlike 6 = .ok (.aload_n 0, 1) := by decide +kernel
theorem dX2_areAlike_7 : decode cX2_areAlike 7 = .ok (.getfield 9, 3) := by decide +kernel
theorem dX2_areAlike_10 : decode cX2_areAlike 10 = .ok (.iload_n 2, 1) := by decide +kernel
theorem dX2_areAlike_11 : decode cX2_areAlike 11 = .ok (.iaload, 1) := by decide +kernel
theorem dX2_areAlike_12 : decode cX2_areAlike 12 = .ok (.if_icmp .ne 22, 3) := by decide +kernel
theorem dX2_areAlike_15 : decode cX2_areAlike 15 = .ok (.aload_n 0, 1) := by decide +kernel
theorem dX2_areAlike_16 : decode cX2_areAlike 16 = .ok (.getfield 15, 3) := by decide +kernel
theorem dX2_areAlike_19 : decode cX2_areAlike 19 = .ok (.iload_n 1, 1) := by decide +kernel
theorem dX2_areAlike_20 : decode cX2_areAlike 20 = .ok (.iaload, 1) := by decide +kernel
theorem dX2_areAlike_21 : decode cX2_areAlike 21 = .ok (.aload_n 0, 1) := by decide +kernel
theorem dX2_areAlike_22 : decode cX2_areAlike 22 = .ok (.getfield 15, 3) := by decide +kernel
theorem dX2_areAlike_25 : decode cX2_areAlike 25 = .ok (.iload_n 2, 1) := by decide +kernel
theorem dX2_areAlike_26 : decode cX2_areAlike 26 = .ok (.iaload, 1) := by decide +kernel
theorem dX2_areAlike_27 : decode cX2_areAlike 27 = .ok (.if_icmp .ne 7, 3) := by decide +kernel
theorem dX2_areAlike_30 : decode cX2_areAlike 30 = .ok (.iconst 1, 1) := by decide +kernel
theorem dX2_areAlike_31 : decode cX2_areAlike 31 = .ok (.goto 4, 3) := by decide +kernel
theorem dX2_areAlike_34 : decode cX2_areAlike 34 = .ok (.iconst 0, 1) := by decide +kernel
theorem dX2_areAlike_35 : decode cX2_areAlike 35 = .ok (.ireturn, 1) := by decide +kernel
theorem dX2_findsForA_0 : decode cX2_findsForA 0 = .ok (.aload_n 0, 1) := by decide +kernel
theorem dX2_findsForA_1 : decode cX2_findsForA 1 = .ok (.getfield 47, 3) := by decide +kernel
theorem dX2_findsForA_4 : decode cX2_findsForA 4 = .ok (.ifCond .eq 15, 3) := by decide +kernel
theorem dX2_findsForA_7 : decode cX2_findsForA 7 = .ok (.aload_n 0, 1) := by decide +kernel
theorem dX2_findsForA_8 : decode cX2_findsForA 8 = .ok (.getfield 18, 3) := by decide +kernel
theorem dX2_findsForA_11 : decode cX2_findsForA 11 = .ok (.aload_n 0, 1) := by decide +kernel
theorem dX2_findsForA_12 : decode cX2_findsForA 12 = .ok (.getfield 42, 3) := by decide +kernel
theorem dX2_findsForA_15 : decode cX2_findsForA 15 = .ok (.laload, 1) := by decide +kernel
theorem dX2_findsForA_16 : decode cX2_findsForA 16 = .ok (.goto 19, 3) := by decide +kernel
theorem dX2_findsForA_19 : decode cX2_findsForA 19 = .ok (.aload_n 0, 1) := by decide +kernel
theorem dX2_findsForA_20 : decode cX2_findsForA 20 = .ok (.aload_n 0, 1) := by decide +kernel
theorem dX2_findsForA_21 : decode cX2_findsForA 21 = .ok (.getfield 42, 3) := by decide +kernel
theorem dX2_findsForA_24 : decode cX2_findsForA 24 = .ok (.iconst 2, 1) := by decide +kernel
theorem dX2_findsForA_25 : decode cX2_findsForA 25 = .ok (.idiv, 1) := by decide +kernel
theorem dX2_findsForA_26 : decode cX2_findsForA 26 = .ok (.iconst 1, 1) := by decide +kernel
theorem dX2_findsForA_27 : decode cX2_findsForA 27 = .ok (.iadd, 1) := by decide +kernel
theorem dX2_findsForA_28 : decode cX2_findsForA 28 = .ok (.aload_n 0, 1) := by decide +kernel
theorem dX2_findsForA_29 : decode cX2_findsForA 29 = .ok (.getfield 42, 3) := by decide +kernel
theorem dX2_findsForA_32 : decode cX2_findsForA 32 = .ok (.invokevirtual 70, 3) := by decide +kernel
theorem dX2_findsForA_35 : decode cX2_findsForA 35 = .ok (.lreturn, 1) := by decide +kernel
theorem dX2_findsForB_0 : decode cX2_findsForB 0 = .ok (.aload_n 0, 1) := by decide +kernel
theorem dX2_findsForB_1 : decode cX2_findsForB 1 = .ok (.getfield 47, 3) := by decide +kernel
theorem dX2_findsForB_4 : decode cX2_findsForB 4 = .ok (.ifCond .eq 12, 3) := by decide +kernel
theorem dX2_findsForB_7 : decode cX2_findsForB 7 = .ok (.aload_n 0, 1) := by decide +kernel
theorem dX2_findsForB_8 : decode cX2_findsForB 8 = .ok (.getfield 18, 3) := by decide +kernel
theorem dX2_findsForB_11 : decode cX2_findsForB 11 = .ok (.iconst 0, 1) := by decide +kernel
theorem dX2_findsForB_12 : decode cX2_findsForB 12 = .ok (.laload, 1) := by decide +kernel
theorem dX2_findsForB_13 : decode cX2_findsForB 13 = .ok (.goto 14, 3) := by decide +kernel
theorem dX2_findsForB_16 : decode cX2_findsForB 16 = .ok (.aload_n 0, 1) := by decide +kernel
theorem dX2_findsForB_17 : decode cX2_findsForB 17 = .ok (.iconst 0, 1) := by decide +kernel
theorem dX2_findsForB_18 : decode cX2_findsForB 18 = .ok (.aload_n 0, 1) := by decide +kernel
theorem dX2_findsForB_19 : decode cX2_findsForB 19 = .ok (.getfield 42, 3) := by decide +kernel
theorem dX2_findsForB_22 : decode cX2_findsForB 22 = .ok (.iconst 2, 1) := by decide +kernel
theorem dX2_findsForB_23 : decode cX2_findsForB 23 = .ok (.idiv, 1) := by decide +kernel
theorem dX2_findsForB_24 : decode cX2_findsForB 24 = .ok (.invokevirtual 70, 3) := by decide +kernel
theorem dX2_findsForB_27 : decode cX2_findsForB 27 = .ok (.lreturn, 1) := by decide +kernel
theorem dX2_spreadSum_0 : decode cX2_spreadSum 0 = .ok (.lconst 0, 1) := by decide +kernel
theorem dX2_spreadSum_1 : decode cX2_spreadSum 1 = .ok (.lstore_n 3, 1) := by decide +kernel
theorem dX2_spreadSum_2 : decode cX2_spreadSum 2 = .ok (.iload_n 1, 1) := by decide +kernel
theorem dX2_spreadSum_3 : decode cX2_spreadSum 3 = .ok (.istore 5, 2) := by decide +kernel
theorem dX2_spreadSum_5 : decode cX2_spreadSum 5 = .ok (.iload 5, 2) := by decide +kernel
theorem dX2_spreadSum_7 : decode cX2_spreadSum 7 = .ok (.iload_n 2, 1) := by decide +kernel
theorem dX2_spreadSum_8 : decode cX2_spreadSum 8 = .ok (.if_icmp .gt 19, 3) := by decide +kernel
theorem dX2_spreadSum_11 : decode cX2_spreadSum 11 = .ok (.lload_n 3, 1) := by decide +kernel
theorem dX2_spreadSum_12 : decode cX2_spreadSum 12 = .ok (.aload_n 0, 1) := by decide +kernel
theorem dX2_spreadSum_13 : decode cX2_spreadSum 13 = .ok (.getfield 18, 3) := by decide +kernel
theorem dX2_spreadSum_16 : decode cX2_spreadSum 16 = .ok (.iload 5, 2) := by decide +kernel
theorem dX2_spreadSum_18 : decode cX2_spreadSum 18 = .ok (.laload, 1) := by decide +kernel
theorem dX2_spreadSum_19 : decode cX2_spreadSum 19 = .ok (.ladd, 1) := by decide +kernel
theorem dX2_spreadSum_20 : decode cX2_spreadSum 20 = .ok (.lstore_n 3, 1) := by decide +kernel
theorem dX2_spreadSum_21 : decode cX2_spreadSum 21 = .ok (.iinc 5 1, 3) := by decide +kernel
theorem dX2_spreadSum_24 : decode cX2_spreadSum 24 = .ok (.goto (-19), 3) := by decide +kernel
theorem dX2_spreadSum_27 : decode cX2_spreadSum 27 = .ok (.lload_n 3, 1) := by decide +kernel
theorem dX2_spreadSum_28 : decode cX2_spreadSum 28 = .ok (.lreturn, 1) := by decide +kernel
theorem dX3_init_0 : decode cX3_init 0 = .ok (.aload_n 0, 1) := by decide +kernel
theorem dX3_init_1 : decode cX3_init 1 = .ok (.invokespecial 3, 3) := by decide +kernel
theorem dX3_init_4 : decode cX3_init 4 = .ok (.aload_n 0, 1) := by decide +kernel
theorem dX3_init_5 : decode cX3_init 5 = .ok (.sipush 220, 3) := by decide +kernel
theorem dX3_init_8 : decode cX3_init 8 = .ok (.newarray .int, 2) := by decide +kernel
theorem dX3_init_10 : decode cX3_init 10 = .ok (.putfield 11, 3) := by decide +kernel
theorem dX3_init_13 : decode cX3_init 13 = .ok (.aload_n 0, 1) := by decide +kernel
theorem dX3_init_14 : decode cX3_init 14 = .ok (.sipush 220, 3) := by decide +kernel
theorem dX3_init_17 : decode cX3_init 17 = .ok (.newarray .int, 2) := by decide +kernel
theorem dX3_init_19 : decode cX3_init 19 = .ok (.putfield 15, 3) := by decide +kernel
theorem dX3_init_22 : decode cX3_init 22 = .ok (.aload_n 0, 1) := by decide +kernel
theorem dX3_init_23 : decode cX3_init 23 = .ok (.sipush 220, 3) := by decide +kernel
theorem dX3_init_26 : decode cX3_init 26 = .ok (.newarray .long, 2) := by decide +kernel
theorem dX3_init_28 : decode cX3_init 28 = .ok (.putfield 18, 3) := by decide +kernel
theorem dX3_init_31 : decode cX3_init 31 = .ok (.aload_n 0, 1) := by decide +kernel
theorem dX3_init_32 : decode cX3_init 32 = .ok (.sipush 220, 3) := by decide +kernel
theorem dX3_init_35 : decode cX3_init 35 = .ok (.newarray .long, 2) := by decide +kernel
theorem dX3_init_37 : decode cX3_init 37 = .ok (.putfield 22, 3) := by decide +kernel
theorem dX3_init_40 : decode cX3_init 40 = .ok (.aload_n 0, 1) := by decide +kernel
theorem dX3_init_41 : decode cX3_init 41 = .ok (.aload_n 1, 1) := by decide +kernel
theorem dX3_init_42 : decode cX3_init 42 = .ok (.putfield 25, 3) := by decide +kernel
theorem dX3_init_45 : decode cX3_init 45 = .ok (.aload_n 0, 1) := by decide +kernel
theorem dX3_init_46 : decode cX3_init 46 = .ok (.aload_n 2, 1) := by decide +kernel
theorem dX3_init_47 : decode cX3_init 47 = .ok (.putfield 29, 3) := by decide +kernel
theorem dX3_init_50 : decode cX3_init 50 = .ok (.return_, 1) := by decide +kernel
theorem dX3_weigh_0 : decode cX3_weigh 0 = .ok (.aload_n 1, 1) := by decide +kernel
theorem dX3_weigh_1 : decode cX3_weigh 1 = .ok (.invokevirtual 32, 3) := by decide +kernel
theorem dX3_weigh_4 : decode cX3_weigh 4 = .ok (.istore_n 2, 1) := by decide +kernel
theorem dX3_weigh_5 : decode cX3_weigh 5 = .ok (.aload_n 0, 1) := by decide +kernel
theorem dX3_weigh_6 : decode cX3_weigh 6 = .ok (.iload_n 2, 1) := by decide +kernel
theorem dX3_weigh_7 : decode cX3_weigh 7 = .ok (.aload_n 1, 1) := by decide +kernel
theorem dX3_weigh_8 : decode cX3_weigh 8 = .ok (.invokevirtual 38, 3) := by decide +kernel
theorem dX3_weigh_11 : decode cX3_weigh 11 = .ok (.invokevirtual 41, 3) := by decide +kernel
theorem dX3_weigh_14 : decode cX3_weigh 14 = .ok (.aload_n 0, 1) := by decide +kernel
theorem dX3_weigh_15 : decode cX3_weigh 15 = .ok (.aload_n 0, 1) := by decide +kernel
theorem dX3_weigh_16 : decode cX3_weigh 16 = .ok (.getfield 11, 3) := by decide +kernel
theorem dX3_weigh_19 : decode cX3_weigh 19 = .ok (.iload_n 2, 1) := by decide +kernel
theorem dX3_weigh_20 : decode cX3_weigh 20 = .ok (.aload_n 1, 1) := by decide +kernel
theorem dX3_weigh_21 : decode cX3_weigh 21 = .ok (.iconst 0, 1) := by decide +kernel
theorem dX3_weigh_22 : decode cX3_weigh 22 = .ok (.invokevirtual 45, 3) := by decide +kernel
theorem dX3_weigh_25 : decode cX3_weigh 25 = .ok (.invokestatic 49, 3) := by decide +kernel
theorem dX3_weigh_28 : decode cX3_weigh 28 = .ok (.putfield 53, 3) := by decide +kernel
theorem dX3_weigh_31 : decode cX3_weigh 31 = .ok (.aload_n 0, 1) := by decide +kernel
theorem dX3_weigh_32 : decode cX3_weigh 32 = .ok (.aload_n 0, 1) := by decide +kernel
theorem dX3_weigh_33 : decode cX3_weigh 33 = .ok (.getfield 15, 3) := by decide +kernel
theorem dX3_weigh_36 : decode cX3_weigh 36 = .ok (.iload_n 2, 1) := by decide +kernel
theorem dX3_weigh_37 : decode cX3_weigh 37 = .ok (.aload_n 1, 1) := by decide +kernel
theorem dX3_weigh_38 : decode cX3_weigh 38 = .ok (.iconst 1, 1) := by decide +kernel
theorem dX3_weigh_39 : decode cX3_weigh 39 = .ok (.invokevirtual 45, 3) := by decide +kernel
theorem dX3_weigh_42 : decode cX3_weigh 42 = .ok (.invokestatic 49, 3) := by decide +kernel
theorem dX3_weigh_45 : decode cX3_weigh 45 = .ok (.putfield 57, 3) := by decide +kernel
theorem dX3_weigh_48 : decode cX3_weigh 48 = .ok (.iconst 0, 1) := by decide +kernel
theorem dX3_weigh_49 : decode cX3_weigh 49 = .ok (.istore_n 3, 1) := by decide +kernel
theorem dX3_weigh_50 : decode cX3_weigh 50 = .ok (.iload_n 3, 1) := by decide +kernel
theorem dX3_weigh_51 : decode cX3_weigh 51 = .ok (.aload_n 0, 1) := by decide +kernel
theorem dX3_weigh_52 : decode cX3_weigh 52 = .ok (.getfield 57, 3) := by decide +kernel
theorem dX3_weigh_55 : decode cX3_weigh 55 = .ok (.if_icmp .ge 18, 3) := by decide +kernel
theorem dX3_weigh_58 : decode cX3_weigh 58 = .ok (.aload_n 0, 1) := by decide +kernel
theorem dX3_weigh_59 : decode cX3_weigh 59 = .ok (.getfield 22, 3) := by decide +kernel
theorem dX3_weigh_62 : decode cX3_weigh 62 = .ok (.iload_n 3, 1) := by decide +kernel
theorem dX3_weigh_63 : decode cX3_weigh 63 = .ok (.ldc2_w 60, 3) := by decide +kernel
theorem dX3_weigh_66 : decode cX3_weigh 66 = .ok (.lastore, 1) := by decide +kernel
theorem dX3_weigh_67 : decode cX3_weigh 67 = .ok (.iinc 3 1, 3) := by decide +kernel
theorem dX3_weigh_70 : decode cX3_weigh 70 = .ok (.goto (-20), 3) := by decide +kernel
theorem dX3_weigh_73 : decode cX3_weigh 73 = .ok (.iconst 0, 1) := by decide +kernel
theorem dX3_weigh_74 : decode cX3_weigh 74 = .ok (.istore_n 3, 1) := by decide +kernel
theorem dX3_weigh_75 : decode cX3_weigh 75 = .ok (.iload_n 3, 1) := by decide +kernel
theorem dX3_weigh_76 : decode cX3_weigh 76 = .ok (.aload_n 0, 1) := by decide +kernel
theorem dX3_weigh_77 : decode cX3_weigh 77 = .ok (.getfield 53, 3) := by decide +kernel
theorem dX3_weigh_80 : decode cX3_weigh 80 = .ok (.if_icmp .ge 15, 3) := by decide +kernel
theorem dX3_weigh_83 : decode cX3_weigh 83 = .ok (.aload_n 0, 1) := by decide +kernel
theorem dX3_weigh_84 : decode cX3_weigh 84 = .ok (.iload_n 3, 1) := by decide +kernel
theorem dX3_weigh_85 : decode cX3_weigh 85 = .ok (.iload_n 2, 1) := by decide +kernel
theorem dX3_weigh_86 : decode cX3_weigh 86 = .ok (.invokevirtual 62, 3) := by decide +kernel
theorem dX3_weigh_89 : decode cX3_weigh 89 = .ok (.iinc 3 1, 3) := by decide +kernel
theorem dX3_weigh_92 : decode cX3_weigh 92 = .ok (.goto (-17), 3) := by decide +kernel
theorem dX3_weigh_95 : decode cX3_weigh 95 = .ok (.aload_n 0, 1) := by decide +kernel
theorem dX3_weigh_96 : decode cX3_weigh 96 = .ok (.getfield 18, 3) := by decide +kernel
theorem dX3_weigh_99 : decode cX3_weigh 99 = .ok (.iconst 0, 1) := by decide +kernel
theorem dX3_weigh_100 : decode cX3_weigh 100 = .ok (.laload, 1) := by decide +kernel
theorem dX3_weigh_101 : decode cX3_weigh 101 = .ok (.lstore_n 3, 1) := by decide +kernel
theorem dX3_weigh_102 : decode cX3_weigh 102 = .ok (.iconst 1, 1) := by decide +kernel
theorem dX3_weigh_103 : decode cX3_weigh 103 = .ok (.istore 5, 2) := by decide +kernel
theorem dX3_weigh_105 : decode cX3_weigh 105 = .ok (.iload 5, 2) := by decide +kernel
theorem dX3_weigh_107 : decode cX3_weigh 107 = .ok (.aload_n 0, 1) := by decide +kernel
theorem dX3_weigh_108 : decode cX3_weigh 108 = .ok (.getfield 53, 3) := by decide +kernel
theorem dX3_weigh_111 : decode cX3_weigh 111 = .ok (.if_icmp .ge 21, 3) := by decide +kernel
theorem dX3_weigh_114 : decode cX3_weigh 114 = .ok (.lload_n 3, 1) := by decide +kernel
theorem dX3_weigh_115 : decode cX3_weigh 115 = .ok (.aload_n 0, 1) := by decide +kernel
theorem dX3_weigh_116 : decode cX3_weigh 116 = .ok (.getfield 18, 3) := by decide +kernel
theorem dX3_weigh_119 : decode cX3_weigh 119 = .ok (.iload 5, 2) := by decide +kernel
theorem dX3_weigh_121 : decode cX3_weigh 121 = .ok (.laload, 1) := by decide +kernel
theorem dX3_weigh_122 : decode cX3_weigh 122 = .ok (.invokestatic 65, 3) := by decide +kernel
theorem dX3_weigh_125 : decode cX3_weigh 125 = .ok (.lstore_n 3, 1) := by decide +kernel
theorem dX3_weigh_126 : decode cX3_weigh 126 = .ok (.iinc 5 1, 3) := by decide +kernel
theorem dX3_weigh_129 : decode cX3_weigh 129 = .ok (.goto (-24), 3) := by decide +kernel
theorem dX3_weigh_132 : decode cX3_weigh 132 = .ok (.aload_n 0, 1) := by decide +kernel
theorem dX3_weigh_133 : decode cX3_weigh 133 = .ok (.getfield 22, 3) := by decide +kernel
theorem dX3_weigh_136 : decode cX3_weigh 136 = .ok (.iconst 0, 1) := by decide +kernel
theorem dX3_weigh_137 : decode cX3_weigh 137 = .ok (.laload, 1) := by decide +kernel
theorem dX3_weigh_138 : decode cX3_weigh 138 = .ok (.lstore 5, 2) := by decide +kernel
theorem dX3_weigh_140 : decode cX3_weigh 140 = .ok (.iconst 1, 1) := by decide +kernel
theorem dX3_weigh_141 : decode cX3_weigh 141 = .ok (.istore 7, 2) := by decide +kernel
theorem dX3_weigh_143 : decode cX3_weigh 143 = .ok (.iload 7, 2) := by decide +kernel
theorem dX3_weigh_145 : decode cX3_weigh 145 = .ok (.aload_n 0, 1) := by decide +kernel
theorem dX3_weigh_146 : decode cX3_weigh 146 = .ok (.getfield 57, 3) := by decide +kernel
theorem dX3_weigh_149 : decode cX3_weigh 149 = .ok (.if_icmp .ge 23, 3) := by decide +kernel
theorem dX3_weigh_152 : decode cX3_weigh 152 = .ok (.lload 5, 2) := by decide +kernel
theorem dX3_weigh_154 : decode cX3_weigh 154 = .ok (.aload_n 0, 1) := by decide +kernel
theorem dX3_weigh_155 : decode cX3_weigh 155 = .ok (.getfield 22, 3) := by decide +kernel
theorem dX3_weigh_158 : decode cX3_weigh 158 = .ok (.iload 7, 2) := by decide +kernel
theorem dX3_weigh_160 : decode cX3_weigh 160 = .ok (.laload, 1) := by decide +kernel
theorem dX3_weigh_161 : decode cX3_weigh 161 = .ok (.invokestatic 71, 3) := by decide +kernel
theorem dX3_weigh_164 : decode cX3_weigh 164 = .ok (.lstore 5, 2) := by decide +kernel
theorem dX3_weigh_166 : decode cX3_weigh 166 = .ok (.iinc 7 1, 3) := by decide +kernel
theorem dX3_weigh_169 : decode cX3_weigh 169 = .ok (.goto (-26), 3) := by decide +kernel
theorem dX3_weigh_172 : decode cX3_weigh 172 = .ok (.aload_n 0, 1) := by decide +kernel
theorem dX3_weigh_173 : decode cX3_weigh 173 = .ok (.lload_n 3, 1) := by decide +kernel
theorem dX3_weigh_174 : decode cX3_weigh 174 = .ok (.lload 5, 2) := by decide +kernel
theorem dX3_weigh_176 : decode cX3_weigh 176 = .ok (.lcmp, 1) := by decide +kernel
theorem dX3_weigh_177 : decode cX3_weigh 177 = .ok (.ifCond .ne 22, 3) := by decide +kernel
theorem dX3_weigh_180 : decode cX3_weigh 180 = .ok (.aload_n 0, 1) := by decide +kernel
theorem dX3_weigh_181 : decode cX3_weigh 181 = .ok (.getfield 11, 3) := by decide +kernel
theorem dX3_weigh_184 : decode cX3_weigh 184 = .ok (.aload_n 0, 1) := by decide +kernel
theorem dX3_weigh_185 : decode cX3_weigh 185 = .ok (.getfield 18, 3) := by decide +kernel
theorem dX3_weigh_188 : decode cX3_weigh 188 = .ok (.aload_n 0, 1) := by decide +kernel
theorem dX3_weigh_189 : decode cX3_weigh 189 = .ok (.getfield 53, 3) := by decide +kernel
theorem dX3_weigh_192 : decode cX3_weigh 192 = .ok (.lload_n 3, 1) := by decide +kernel
theorem dX3_weigh_193 : decode cX3_weigh 193 = .ok (.invokestatic 74, 3) := by decide +kernel
theorem dX3_weigh_196 : decode cX3_weigh 196 = .ok (.goto 4, 3) := by decide +kernel
theorem dX3_weigh_199 : decode cX3_weigh 199 = .ok (.iconst 0, 1) := by decide +kernel
theorem dX3_weigh_200 : decode cX3_weigh 200 = .ok (.putfield 53, 3) := by decide +kernel
theorem dX3_weigh_203 : decode cX3_weigh 203 = .ok (.aload_n 0, 1) := by decide +kernel
theorem dX3_weigh_204 : decode cX3_weigh 204 = .ok (.lload_n 3, 1) := by decide +kernel
theorem dX3_weigh_205 : decode cX3_weigh 205 = .ok (.lload 5, 2) := by decide +kernel
theorem dX3_weigh_207 : decode cX3_weigh 207 = .ok (.lcmp, 1) := by decide +kernel
theorem dX3_weigh_208 : decode cX3_weigh 208 = .ok (.ifCond .ne 23, 3) := by decide +kernel
theorem dX3_weigh_211 : decode cX3_weigh 211 = .ok (.aload_n 0, 1) := by decide +kernel
theorem dX3_weigh_212 : decode cX3_weigh 212 = .ok (.getfield 15, 3) := by decide +kernel
theorem dX3_weigh_215 : decode cX3_weigh 215 = .ok (.aload_n 0, 1) := by decide +kernel
theorem dX3_weigh_216 : decode cX3_weigh 216 = .ok (.getfield 22, 3) := by decide +kernel
theorem dX3_weigh_219 : decode cX3_weigh 219 = .ok (.aload_n 0, 1) := by decide +kernel
theorem dX3_weigh_220 : decode cX3_weigh 220 = .ok (.getfield 57, 3) := by decide +kernel
theorem dX3_weigh_223 : decode cX3_weigh 223 = .ok (.lload 5, 2) := by decide +kernel
theorem dX3_weigh_225 : decode cX3_weigh 225 = .ok (.invokestatic 74, 3) := by decide +kernel
theorem dX3_weigh_228 : decode cX3_weigh 228 = .ok (.goto 4, 3) := by decide +kernel
theorem dX3_weigh_231 : decode cX3_weigh 231 = .ok (.iconst 0, 1) := by decide +kernel
theorem dX3_weigh_232 : decode cX3_weigh 232 = .ok (.putfield 57, 3) := by decide +kernel
theorem dX3_weigh_235 : decode cX3_weigh 235 = .ok (.return_, 1) := by decide +kernel
theorem dX3_fillValues_0 : decode cX3_fillValues 0 = .ok (.iconst 1, 1) := by decide +kernel
theorem dX3_fillValues_1 : decode cX3_fillValues 1 = .ok (.istore_n 3, 1) := by decide +kernel
theorem dX3_fillValues_2 : decode cX3_fillValues 2 = .ok (.iconst 1, 1) := by decide +kernel
theorem dX3_fillValues_3 : decode cX3_fillValues 3 = .ok (.istore 4, 2) := by decide +kernel
theorem dX3_fillValues_5 : decode cX3_fillValues 5 = .ok (.iload 4, 2) := by decide +kernel
theorem dX3_fillValues_7 : decode cX3_fillValues 7 = .ok (.iload_n 1, 1) := by decide +kernel
theorem dX3_fillValues_8 : decode cX3_fillValues 8 = .ok (.if_icmp .gt 75, 3) := by decide +kernel
theorem dX3_fillValues_11 : decode cX3_fillValues 11 = .ok (.iload 4, 2) := by decide +kernel
theorem dX3_fillValues_13 : decode cX3_fillValues 13 = .ok (.iload_n 3, 1) := by decide +kernel
theorem dX3_fillValues_14 : decode cX3_fillValues 14 = .ok (.iconst 2, 1) := by decide +kernel
theorem dX3_fillValues_15 : decode cX3_fillValues 15 = .ok (.imul, 1) := by decide +kernel
theorem dX3_fillValues_16 : decode cX3_fillValues 16 = .ok (.if_icmp .lt 7, 3) := by decide +kernel
theorem dX3_fillValues_19 : decode cX3_fillValues 19 = .ok (.iload_n 3, 1) := by decide +kernel
theorem dX3_fillValues_20 : decode cX3_fillValues 20 = .ok (.iconst 2, 1) := by decide +kernel
theorem dX3_fillValues_21 : decode cX3_fillValues 21 = .ok (.imul, 1) := by decide +kernel
theorem dX3_fillValues_22 : decode cX3_fillValues 22 = .ok (.istore_n 3, 1) := by decide +kernel
theorem dX3_fillValues_23 : decode cX3_fillValues 23 = .ok (.iload 4, 2) := by decide +kernel
theorem dX3_fillValues_25 : decode cX3_fillValues 25 = .ok (.invokestatic 78, 3) := by decide +kernel
theorem dX3_fillValues_28 : decode cX3_fillValues 28 = .ok (.istore 5, 2) := by decide +kernel
theorem dX3_fillValues_30 : decode cX3_fillValues 30 = .ok (.iload 5, 2) := by decide +kernel
theorem dX3_fillValues_32 : decode cX3_fillValues 32 = .ok (.iload_n 2, 1) := by decide +kernel
theorem dX3_fillValues_33 : decode cX3_fillValues 33 = .ok (.if_icmp .ne 22, 3) := by decide +kernel
theorem dX3_fillValues_36 : decode cX3_fillValues 36 = .ok (.aload_n 0, 1) := by decide +kernel
theorem dX3_fillValues_37 : decode cX3_fillValues 37 = .ok (.getfield 29, 3) := by decide +kernel
theorem dX3_fillValues_40 : decode cX3_fillValues 40 = .ok (.iload 4, 2) := by decide +kernel
theorem dX3_fillValues_42 : decode cX3_fillValues 42 = .ok (.aload_n 0, 1) := by decide +kernel
theorem dX3_fillValues_43 : decode cX3_fillValues 43 = .ok (.getfield 25, 3) := by decide +kernel
theorem dX3_fillValues_46 : decode cX3_fillValues 46 = .ok (.iload 4, 2) := by decide +kernel
theorem dX3_fillValues_48 : decode cX3_fillValues 48 = .ok (.invokevirtual 83, 3) := by decide +kernel
theorem dX3_fillValues_51 : decode cX3_fillValues 51 = .ok (.lastore, 1) := by decide +kernel
theorem dX3_fillValues_52 : decode cX3_fillValues 52 = .ok (.goto 25, 3) := by decide +kernel
theorem dX3_fillValues_55 : decode cX3_fillValues 55 = .ok (.iload 5, 2) := by decide +kernel
theorem dX3_fillValues_57 : decode cX3_fillValues 57 = .ok (.iload_n 2, 1) := by decide +kernel
theorem dX3_fillValues_58 : decode cX3_fillValues 58 = .ok (.if_icmp .le 19, 3) := by decide +kernel
theorem dX3_fillValues_61 : decode cX3_fillValues 61 = .ok (.aload_n 0, 1) := by decide +kernel
theorem dX3_fillValues_62 : decode cX3_fillValues 62 = .ok (.getfield 29, 3) := by decide +kernel
theorem dX3_fillValues_65 : decode cX3_fillValues 65 = .ok (.iload 4, 2) := by decide +kernel
theorem dX3_fillValues_67 : decode cX3_fillValues 67 = .ok (.aload_n 0, 1) := by decide +kernel
theorem dX3_fillValues_68 : decode cX3_fillValues 68 = .ok (.getfield 29, 3) := by decide +kernel
theorem dX3_fillValues_71 : decode cX3_fillValues 71 = .ok (.iload 4, 2) := by decide +kernel
theorem dX3_fillValues_73 : decode cX3_fillValues 73 = .ok (.iload_n 3, 1) := by decide +kernel
theorem dX3_fillValues_74 : decode cX3_fillValues 74 = .ok (.ixor, 1) := by decide +kernel
theorem dX3_fillValues_75 : decode cX3_fillValues 75 = .ok (.laload, 1) := by decide +kernel
theorem dX3_fillValues_76 : decode cX3_fillValues 76 = .ok (.lastore, 1) := by decide +kernel
theorem dX3_fillValues_77 : decode cX3_fillValues 77 = .ok (.iinc 4 1, 3) := by decide +kernel
theorem dX3_fillValues_80 : decode cX3_fillValues 80 = .ok (.goto (-75), 3) := by decide +kernel
theorem dX3_fillValues_83 : decode cX3_fillValues 83 = .ok (.return_, 1) := by decide +kernel
theorem dX3_listSets_0 : decode cX3_listSets 0 = .ok (.iconst 0, 1) := by decide +kernel
theorem dX3_listSets_1 : decode cX3_listSets 1 = .ok (.istore_n 3, 1) := by decide +kernel
theorem dX3_listSets_2 : decode cX3_listSets 2 = .ok (.iconst 0, 1) := by decide +kernel
theorem dX3_listSets_3 : decode cX3_listSets 3 = .ok (.istore 4, 2) := by decide +kernel
theorem dX3_listSets_5 : decode cX3_listSets 5 = .ok (.iload 4, 2) := by decide +kernel
theorem dX3_listSets_7 : decode cX3_listSets 7 = .ok (.iload_n 1, 1) := by decide +kernel
theorem dX3_listSets_8 : decode cX3_listSets 8 = .ok (.if_icmp .gt 33, 3) := by decide +kernel
theorem dX3_listSets_11 : decode cX3_listSets 11 = .ok (.iload_n 3, 1) := by decide +kernel
theorem dX3_listSets_12 : decode cX3_listSets 12 = .ok (.sipush 220, 3) := by decide +kernel
theorem dX3_listSets_15 : decode cX3_listSets 15 = .ok (.if_icmp .ge 26, 3) := by decide +kernel
theorem dX3_listSets_18 : decode cX3_listSets 18 = .ok (.iload 4, 2) := by decide +kernel
theorem dX3_listSets_20 : decode cX3_listSets 20 = .ok (.invokestatic 78, 3) := by decide +kernel
theorem dX3_listSets_23 : decode cX3_listSets 23 = .ok (.iload_n 2, 1) := by decide +kernel
theorem dX3_listSets_24 : decode cX3_listSets 24 = .ok (.if_icmp .ne 11, 3) := by decide +kernel
theorem dX3_listSets_27 : decode cX3_listSets 27 = .ok (.aload_n 0, 1) := by decide +kernel
theorem dX3_listSets_28 : decode cX3_listSets 28 = .ok (.iload_n 3, 1) := by decide +kernel
theorem dX3_listSets_29 : decode cX3_listSets 29 = .ok (.iload 4, 2) := by decide +kernel
theorem dX3_listSets_31 : decode cX3_listSets 31 = .ok (.iastore, 1) := by decide +kernel
theorem dX3_listSets_32 : decode cX3_listSets 32 = .ok (.iinc 3 1, 3) := by decide +kernel
theorem dX3_listSets_35 : decode cX3_listSets 35 = .ok (.iinc 4 1, 3) := by decide +kernel
theorem dX3_listSets_38 : decode cX3_listSets 38 = .ok (.goto (-33), 3) := by decide +kernel
theorem dX3_listSets_41 : decode cX3_listSets 41 = .ok (.iload_n 3, 1) := by decide +kernel
theorem dX3_listSets_42 : decode cX3_listSets 42 = .ok (.ireturn, 1) := by decide +kernel
theorem dX3_weighSet_0 : decode cX3_weighSet 0 = .ok (.iload_n 2, 1) := by decide +kernel
theorem dX3_weighSet_1 : decode cX3_weighSet 1 = .ok (.aload_n 0, 1) := by decide +kernel
theorem dX3_weighSet_2 : decode cX3_weighSet 2 = .ok (.getfield 11, 3) := by decide +kernel
theorem dX3_weighSet_5 : decode cX3_weighSet 5 = .ok (.iload_n 1, 1) := by decide +kernel
theorem dX3_weighSet_6 : decode cX3_weighSet 6 = .ok (.iaload, 1) := by decide +kernel
theorem dX3_weighSet_7 : decode cX3_weighSet 7 = .ok (.iconst (-1), 1) := by decide +kernel
theorem dX3_weighSet_8 : decode cX3_weighSet 8 = .ok (.ixor, 1) := by decide +kernel
theorem dX3_weighSet_9 : decode cX3_weighSet 9 = .ok (.iand, 1) := by decide +kernel
theorem dX3_weighSet_10 : decode cX3_weighSet 10 = .ok (.istore_n 3, 1) := by decide +kernel
theorem dX3_weighSet_11 : decode cX3_weighSet 11 = .ok (.ldc2_w 89, 3) := by decide +kernel
theorem dX3_weighSet_14 : decode cX3_weighSet 14 = .ok (.lstore 4, 2) := by decide +kernel
theorem dX3_weighSet_16 : decode cX3_weighSet 16 = .ok (.iconst 0, 1) := by decide +kernel
theorem dX3_weighSet_17 : decode cX3_weighSet 17 = .ok (.istore 6, 2) := by decide +kernel
theorem dX3_weighSet_19 : decode cX3_weighSet 19 = .ok (.iload 6, 2) := by decide +kernel
theorem dX3_weighSet_21 : decode cX3_weighSet 21 = .ok (.aload_n 0, 1) := by decide +kernel
theorem dX3_weighSet_22 : decode cX3_weighSet 22 = .ok (.getfield 57, 3) := by decide +kernel
theorem dX3_weighSet_25 : decode cX3_weighSet 25 = .ok (.if_icmp .ge 61, 3) := by decide +kernel
theorem dX3_weighSet_28 : decode cX3_weighSet 28 = .ok (.aload_n 0, 1) := by decide +kernel
theorem dX3_weighSet_29 : decode cX3_weighSet 29 = .ok (.getfield 29, 3) := by decide +kernel
theorem dX3_weighSet_32 : decode cX3_weighSet 32 = .ok (.iload_n 3, 1) := by decide +kernel
theorem dX3_weighSet_33 : decode cX3_weighSet 33 = .ok (.aload_n 0, 1) := by decide +kernel
theorem dX3_weighSet_34 : decode cX3_weighSet 34 = .ok (.getfield 15, 3) := by decide +kernel
theorem dX3_weighSet_37 : decode cX3_weighSet 37 = .ok (.iload 6, 2) := by decide +kernel
theorem dX3_weighSet_39 : decode cX3_weighSet 39 = .ok (.iaload, 1) := by decide +kernel
theorem dX3_weighSet_40 : decode cX3_weighSet 40 = .ok (.iconst (-1), 1) := by decide +kernel
theorem dX3_weighSet_41 : decode cX3_weighSet 41 = .ok (.ixor, 1) := by decide +kernel
theorem dX3_weighSet_42 : decode cX3_weighSet 42 = .ok (.iand, 1) := by decide +kernel
theorem dX3_weighSet_43 : decode cX3_weighSet 43 = .ok (.laload, 1) := by decide +kernel
theorem dX3_weighSet_44 : decode cX3_weighSet 44 = .ok (.lstore 7, 2) := by decide +kernel
theorem dX3_weighSet_46 : decode cX3_weighSet 46 = .ok (.lload 7, 2) := by decide +kernel
theorem dX3_weighSet_48 : decode cX3_weighSet 48 = .ok (.lload 4, 2) := by decide +kernel
theorem dX3_weighSet_50 : decode cX3_weighSet 50 = .ok (.lcmp, 1) := by decide +kernel
theorem dX3_weighSet_51 : decode cX3_weighSet 51 = .ok (.ifCond .ge 7, 3) := by decide +kernel
theorem dX3_weighSet_54 : decode cX3_weighSet 54 = .ok (.lload 7, 2) := by decide +kernel
theorem dX3_weighSet_56 : decode cX3_weighSet 56 = .ok (.lstore 4, 2) := by decide +kernel
theorem dX3_weighSet_58 : decode cX3_weighSet 58 = .ok (.lload 7, 2) := by decide +kernel
theorem dX3_weighSet_60 : decode cX3_weighSet 60 = .ok (.aload_n 0, 1) := by decide +kernel
theorem dX3_weighSet_61 : decode cX3_weighSet 61 = .ok (.getfield 22, 3) := by decide +kernel
theorem dX3_weighSet_64 : decode cX3_weighSet 64 = .ok (.iload 6, 2) := by decide +kernel
theorem dX3_weighSet_66 : decode cX3_weighSet 66 = .ok (.laload, 1) := by decide +kernel
theorem dX3_weighSet_67 : decode cX3_weighSet 67 = .ok (.lcmp, 1) := by decide +kernel
theorem dX3_weighSet_68 : decode cX3_weighSet 68 = .ok (.ifCond .le 12, 3) := by decide +kernel
theorem dX3_weighSet_71 : decode cX3_weighSet 71 = .ok (.aload_n 0, 1) := by decide +kernel
theorem dX3_weighSet_72 : decode cX3_weighSet 72 = .ok (.getfield 22, 3) := by decide +kernel
theorem dX3_weighSet_75 : decode cX3_weighSet 75 = .ok (.iload 6, 2) := by decide +kernel
theorem dX3_weighSet_77 : decode cX3_weighSet 77 = .ok (.lload 7, 2) := by decide +kernel
theorem dX3_weighSet_79 : decode cX3_weighSet 79 = .ok (.lastore, 1) := by decide +kernel
theorem dX3_weighSet_80 : decode cX3_weighSet 80 = .ok (.iinc 6 1, 3) := by decide +kernel
theorem dX3_weighSet_83 : decode cX3_weighSet 83 = .ok (.goto (-64), 3) := by decide +kernel
theorem dX3_weighSet_86 : decode cX3_weighSet 86 = .ok (.aload_n 0, 1) := by decide +kernel
theorem dX3_weighSet_87 : decode cX3_weighSet 87 = .ok (.getfield 18, 3) := by decide +kernel
theorem dX3_weighSet_90 : decode cX3_weighSet 90 = .ok (.iload_n 1, 1) := by decide +kernel
theorem dX3_weighSet_91 : decode cX3_weighSet 91 = .ok (.lload 4, 2) := by decide +kernel
theorem dX3_weighSet_93 : decode cX3_weighSet 93 = .ok (.lastore, 1) := by decide +kernel
theorem dX3_weighSet_94 : decode cX3_weighSet 94 = .ok (.return_, 1) := by decide +kernel
theorem dX3_keepThose_0 : decode cX3_keepThose 0 = .ok (.iconst 0, 1) := by decide +kernel
theorem dX3_keepThose_1 : decode cX3_keepThose 1 = .ok (.istore 5, 2) := by decide +kernel
theorem dX3_keepThose_3 : decode cX3_keepThose 3 = .ok (.iconst 0, 1) := by decide +kernel
theorem dX3_keepThose_4 : decode cX3_keepThose 4 = .ok (.istore 6, 2) := by decide +kernel
theorem dX3_keepThose_6 : decode cX3_keepThose 6 = .ok (.iload 6, 2) := by decide +kernel
theorem dX3_keepThose_8 : decode cX3_keepThose 8 = .ok (.iload_n 2, 1) := by decide +kernel
theorem dX3_keepThose_9 : decode cX3_keepThose 9 = .ok (.if_icmp .ge 29, 3) := by decide +kernel
theorem dX3_keepThose_12 : decode cX3_keepThose 12 = .ok (.aload_n 1, 1) := by decide +kernel
theorem dX3_keepThose_13 : decode cX3_keepThose 13 = .ok (.iload 6, 2) := by decide +kernel
theorem dX3_keepThose_15 : decode cX3_keepThose 15 = .ok (.laload, 1) := by decide +kernel
theorem dX3_keepThose_16 : decode cX3_keepThose 16 = .ok (.lload_n 3, 1) := by decide +kernel
theorem dX3_keepThose_17 : decode cX3_keepThose 17 = .ok (.lcmp, 1) := by decide +kernel
theorem dX3_keepThose_18 : decode cX3_keepThose 18 = .ok (.ifCond .ne 14, 3) := by decide +kernel
theorem dX3_keepThose_21 : decode cX3_keepThose 21 = .ok (.aload_n 0, 1) := by decide +kernel
theorem dX3_keepThose_22 : decode cX3_keepThose 22 = .ok (.iload 5, 2) := by decide +kernel
theorem dX3_keepThose_24 : decode cX3_keepThose 24 = .ok (.aload_n 0, 1) := by decide +kernel
theorem dX3_keepThose_25 : decode cX3_keepThose 25 = .ok (.iload 6, 2) := by decide +kernel
theorem dX3_keepThose_27 : decode cX3_keepThose 27 = .ok (.iaload, 1) := by decide +kernel
theorem dX3_keepThose_28 : decode cX3_keepThose 28 = .ok (.iastore, 1) := by decide +kernel
theorem dX3_keepThose_29 : decode cX3_keepThose 29 = .ok (.iinc 5 1, 3) := by decide +kernel
theorem dX3_keepThose_32 : decode cX3_keepThose 32 = .ok (.iinc 6 1, 3) := by decide +kernel
theorem dX3_keepThose_35 : decode cX3_keepThose 35 = .ok (.goto (-29), 3) := by decide +kernel
theorem dX3_keepThose_38 : decode cX3_keepThose 38 = .ok (.iload 5, 2) := by decide +kernel
theorem dX3_keepThose_40 : decode cX3_keepThose 40 = .ok (.ireturn, 1) := by decide +kernel
theorem dX3_restCount_0 : decode cX3_restCount 0 = .ok (.aload_n 0, 1) := by decide +kernel
theorem dX3_restCount_1 : decode cX3_restCount 1 = .ok (.getfield 53, 3) := by decide +kernel
theorem dX3_restCount_4 : decode cX3_restCount 4 = .ok (.aload_n 0, 1) := by decide +kernel
theorem dX3_restCount_5 : decode cX3_restCount 5 = .ok (.getfield 57, 3) := by decide +kernel
theorem dX3_restCount_8 : decode cX3_restCount 8 = .ok (.imul, 1) := by decide +kernel
theorem dX3_restCount_9 : decode cX3_restCount 9 = .ok (.ireturn, 1) := by decide +kernel
theorem dX3_restOfA_0 : decode cX3_restOfA 0 = .ok (.aload_n 0, 1) := by decide +kernel
theorem dX3_restOfA_1 : decode cX3_restOfA 1 = .ok (.getfield 57, 3) := by decide +kernel
theorem dX3_restOfA_4 : decode cX3_restOfA 4 = .ok (.ifCond .ne 7, 3) := by decide +kernel
theorem dX3_restOfA_7 : decode cX3_restOfA 7 = .ok (.iconst 0, 1) := by decide +kernel
theorem dX3_restOfA_8 : decode cX3_restOfA 8 = .ok (.goto 14, 3) := by decide +kernel
theorem dX3_restOfA_11 : decode cX3_restOfA 11 = .ok (.aload_n 0, 1) := by decide +kernel
theorem dX3_restOfA_12 : decode cX3_restOfA 12 = .ok (.getfield 11, 3) := by decide +kernel
theorem dX3_restOfA_15 : decode cX3_restOfA 15 = .ok (.iload_n 1, 1) := by decide +kernel
theorem dX3_restOfA_16 : decode cX3_restOfA 16 = .ok (.aload_n 0, 1) := by decide +kernel
theorem dX3_restOfA_17 : decode cX3_restOfA 17 = .ok (.getfield 57, 3) := by decide +kernel
theorem dX3_restOfA_20 : decode cX3_restOfA 20 = .ok (.idiv, 1) := by decide +kernel
theorem dX3_restOfA_21 : decode cX3_restOfA 21 = .ok (.iaload, 1) := by decide +kernel
theorem dX3_restOfA_22 : decode cX3_restOfA 22 = .ok (.ireturn, 1) := by decide +kernel
theorem dX3_restOfB_0 : decode cX3_restOfB 0 = .ok (.aload_n 0, 1) := by decide +kernel
theorem dX3_restOfB_1 : decode cX3_restOfB 1 = .ok (.getfield 57, 3) := by decide +kernel
theorem dX3_restOfB_4 : decode cX3_restOfB 4 = .ok (.ifCond .ne 7, 3) := by decide +kernel
theorem dX3_restOfB_7 : decode cX3_restOfB 7 = .ok (.iconst 0, 1) := by decide +kernel
theorem dX3_restOfB_8 : decode cX3_restOfB 8 = .ok (.goto 14, 3) := by decide +kernel
theorem dX3_restOfB_11 : decode cX3_restOfB 11 = .ok (.aload_n 0, 1) := by decide +kernel
theorem dX3_restOfB_12 : decode cX3_restOfB 12 = .ok (.getfield 15, 3) := by decide +kernel
theorem dX3_restOfB_15 : decode cX3_restOfB 15 = .ok (.iload_n 1, 1) := by decide +kernel
theorem dX3_restOfB_16 : decode cX3_restOfB 16 = .ok (.aload_n 0, 1) := by decide +kernel
theorem dX3_restOfB_17 : decode cX3_restOfB 17 = .ok (.getfield 57, 3) := by decide +kernel
theorem dX3_restOfB_20 : decode cX3_restOfB 20 = .ok (.irem, 1) := by decide +kernel
theorem dX3_restOfB_21 : decode cX3_restOfB 21 = .ok (.iaload, 1) := by decide +kernel
theorem dX3_restOfB_22 : decode cX3_restOfB 22 = .ok (.ireturn, 1) := by decide +kernel
theorem dX4_init_0 : decode cX4_init 0 = .ok (.aload_n 0, 1) := by decide +kernel
theorem dX4_init_1 : decode cX4_init 1 = .ok (.invokespecial 3, 3) := by decide +kernel
theorem dX4_init_4 : decode cX4_init 4 = .ok (.aload_n 0, 1) := by decide +kernel
theorem dX4_init_5 : decode cX4_init 5 = .ok (.bipush 80, 2) := by decide +kernel
theorem dX4_init_7 : decode cX4_init 7 = .ok (.newarray .byte, 2) := by decide +kernel
theorem dX4_init_9 : decode cX4_init 9 = .ok (.putfield 9, 3) := by decide +kernel
theorem dX4_init_12 : decode cX4_init 12 = .ok (.aload_n 0, 1) := by decide +kernel
theorem dX4_init_13 : decode cX4_init 13 = .ok (.bipush 12, 2) := by decide +kernel
theorem dX4_init_15 : decode cX4_init 15 = .ok (.newarray .int, 2) := by decide +kernel
theorem dX4_init_17 : decode cX4_init 17 = .ok (.putfield 15, 3) := by decide +kernel
theorem dX4_init_20 : decode cX4_init 20 = .ok (.return_, 1) := by decide +kernel
theorem dX4_append_0 : decode cX4_append 0 = .ok (.iconst 0, 1) := by decide +kernel
theorem dX4_append_1 : decode cX4_append 1 = .ok (.istore 4, 2) := by decide +kernel
theorem dX4_append_3 : decode cX4_append 3 = .ok (.iload 4, 2) := by decide +kernel
theorem dX4_append_5 : decode cX4_append 5 = .ok (.iload_n 1, 1) := by decide +kernel
theorem dX4_append_6 : decode cX4_append 6 = .ok (.if_icmp .ge 46, 3) := by decide +kernel
theorem dX4_append_9 : decode cX4_append 9 = .ok (.aload_n 0, 1) := by decide +kernel
theorem dX4_append_10 : decode cX4_append 10 = .ok (.getfield 19, 3) := by decide +kernel
theorem dX4_append_13 : decode cX4_append 13 = .ok (.bipush 80, 2) := by decide +kernel
theorem dX4_append_15 : decode cX4_append 15 = .ok (.if_icmp .ge 37, 3) := by decide +kernel
theorem dX4_append_18 : decode cX4_append 18 = .ok (.aload_n 0, 1) := by decide +kernel
theorem dX4_append_19 : decode cX4_append 19 = .ok (.getfield 9, 3) := by decide +kernel
theorem dX4_append_22 : decode cX4_append 22 = .ok (.aload_n 0, 1) := by decide +kernel
theorem dX4_append_23 : decode cX4_append 23 = .ok (.getfield 19, 3) := by decide +kernel
theorem dX4_append_26 : decode cX4_append 26 = .ok (.lload_n 2, 1) := by decide +kernel
theorem dX4_append_27 : decode cX4_append 27 = .ok (.bipush 8, 2) := by decide +kernel
theorem dX4_append_29 : decode cX4_append 29 = .ok (.iload 4, 2) := by decide +kernel
theorem dX4_append_31 : decode cX4_append 31 = .ok (.imul, 1) := by decide +kernel
theorem dX4_append_32 : decode cX4_append 32 = .ok (.lushr, 1) := by decide +kernel
theorem dX4_append_33 : decode cX4_append 33 = .ok (.l2i, 1) := by decide +kernel
theorem dX4_append_34 : decode cX4_append 34 = .ok (.i2b, 1) := by decide +kernel
theorem dX4_append_35 : decode cX4_append 35 = .ok (.bastore, 1) := by decide +kernel
theorem dX4_append_36 : decode cX4_append 36 = .ok (.aload_n 0, 1) := by decide +kernel
theorem dX4_append_37 : decode cX4_append 37 = .ok (.dup, 1) := by decide +kernel
theorem dX4_append_38 : decode cX4_append 38 = .ok (.getfield 19, 3) := by decide +kernel
theorem dX4_append_41 : decode cX4_append 41 = .ok (.iconst 1, 1) := by decide +kernel
theorem dX4_append_42 : decode cX4_append 42 = .ok (.iadd, 1) := by decide +kernel
theorem dX4_append_43 : decode cX4_append 43 = .ok (.putfield 19, 3) := by decide +kernel
theorem dX4_append_46 : decode cX4_append 46 = .ok (.iinc 4 1, 3) := by decide +kernel
theorem dX4_append_49 : decode cX4_append 49 = .ok (.goto (-46), 3) := by decide +kernel
theorem dX4_append_52 : decode cX4_append 52 = .ok (.return_, 1) := by decide +kernel
theorem dX4_readInto_0 : decode cX4_readInto 0 = .ok (.iconst 0, 1) := by decide +kernel
theorem dX4_readInto_1 : decode cX4_readInto 1 = .ok (.istore_n 2, 1) := by decide +kernel
theorem dX4_readInto_2 : decode cX4_readInto 2 = .ok (.iconst 1, 1) := by decide +kernel
theorem dX4_readInto_3 : decode cX4_readInto 3 = .ok (.istore_n 3, 1) := by decide +kernel
theorem dX4_readInto_4 : decode cX4_readInto 4 = .ok (.aload_n 0, 1) := by decide +kernel
theorem dX4_readInto_5 : decode cX4_readInto 5 = .ok (.iconst 0, 1) := by decide +kernel
theorem dX4_readInto_6 : decode cX4_readInto 6 = .ok (.putfield 23, 3) := by decide +kernel
theorem dX4_readInto_9 : decode cX4_readInto 9 = .ok (.iload_n 3, 1) := by decide +kernel
theorem dX4_readInto_10 : decode cX4_readInto 10 = .ok (.ifCond .eq 32, 3) := by decide +kernel
theorem dX4_readInto_13 : decode cX4_readInto 13 = .ok (.aload_n 0, 1) := by decide +kernel
theorem dX4_readInto_14 : decode cX4_readInto 14 = .ok (.getfield 23, 3) := by decide +kernel
theorem dX4_readInto_17 : decode cX4_readInto 17 = .ok (.aload_n 0, 1) := by decide +kernel
theorem dX4_readInto_18 : decode cX4_readInto 18 = .ok (.getfield 19, 3) := by decide +kernel
theorem dX4_readInto_21 : decode cX4_readInto 21 = .ok (.if_icmp .ge 21, 3) := by decide +kernel
theorem dX4_readInto_24 : decode cX4_readInto 24 = .ok (.iload_n 2, 1) := by decide +kernel
theorem dX4_readInto_25 : decode cX4_readInto 25 = .ok (.bipush 80, 2) := by decide +kernel
theorem dX4_readInto_27 : decode cX4_readInto 27 = .ok (.if_icmp .ge 15, 3) := by decide +kernel
theorem dX4_readInto_30 : decode cX4_readInto 30 = .ok (.aload_n 0, 1) := by decide +kernel
theorem dX4_readInto_31 : decode cX4_readInto 31 = .ok (.aload_n 1, 1) := by decide +kernel
theorem dX4_readInto_32 : decode cX4_readInto 32 = .ok (.invokevirtual 26, 3) := by decide +kernel
theorem dX4_readInto_35 : decode cX4_readInto 35 = .ok (.istore_n 3, 1) := by decide +kernel
theorem dX4_readInto_36 : decode cX4_readInto 36 = .ok (.iinc 2 1, 3) := by decide +kernel
theorem dX4_readInto_39 : decode cX4_readInto 39 = .ok (.goto (-30), 3) := by decide +kernel
theorem dX4_readInto_42 : decode cX4_readInto 42 = .ok (.aload_n 0, 1) := by decide +kernel
theorem dX4_readInto_43 : decode cX4_readInto 43 = .ok (.iconst 0, 1) := by decide +kernel
theorem dX4_readInto_44 : decode cX4_readInto 44 = .ok (.putfield 19, 3) := by decide +kernel
theorem dX4_readInto_47 : decode cX4_readInto 47 = .ok (.iload_n 3, 1) := by decide +kernel
theorem dX4_readInto_48 : decode cX4_readInto 48 = .ok (.ifCond .eq 7, 3) := by decide +kernel
theorem dX4_readInto_51 : decode cX4_readInto 51 = .ok (.iload_n 2, 1) := by decide +kernel
theorem dX4_readInto_52 : decode cX4_readInto 52 = .ok (.goto 10, 3) := by decide +kernel
theorem dX4_readInto_55 : decode cX4_readInto 55 = .ok (.bipush (-20), 2) := by decide +kernel
theorem dX4_readInto_57 : decode cX4_readInto 57 = .ok (.aload_n 0, 1) := by decide +kernel
theorem dX4_readInto_58 : decode cX4_readInto 58 = .ok (.getfield 30, 3) := by decide +kernel
theorem dX4_readInto_61 : decode cX4_readInto 61 = .ok (.isub, 1) := by decide +kernel
theorem dX4_readInto_62 : decode cX4_readInto 62 = .ok (.ireturn, 1) := by decide +kernel
theorem dX4_readStatement_0 : decode cX4_readStatement 0 = .ok (.aload_n 0, 1) := by decide +kernel
theorem dX4_readStatement_1 : decode cX4_readStatement 1 = .ok (.getfield 9, 3) := by decide +kernel
theorem dX4_readStatement_4 : decode cX4_readStatement 4 = .ok (.aload_n 0, 1) := by decide +kernel
theorem dX4_readStatement_5 : decode cX4_readStatement 5 = .ok (.getfield 23, 3) := by decide +kernel
theorem dX4_readStatement_8 : decode cX4_readStatement 8 = .ok (.baload, 1) := by decide +kernel
theorem dX4_readStatement_9 : decode cX4_readStatement 9 = .ok (.istore_n 2, 1) := by decide +kernel
theorem dX4_readStatement_10 : decode cX4_readStatement 10 = .ok (.iload_n 2, 1) := by decide +kernel
theorem dX4_readStatement_11 : decode cX4_readStatement 11 = .ok (.tableswitch 179 104 120 #[146, 179, 179, 179, 179, 179, 113, 179, 97, 179, 179, 81, 163, 179, 179, 179, 130], 81) := by decide +kernel
theorem dX4_readStatement_92 : decode cX4_readStatement 92 = .ok (.aload_n 0, 1) := by decide +kernel
theorem dX4_readStatement_93 : decode cX4_readStatement 93 = .ok (.dup, 1) := by decide +kernel
theorem dX4_readStatement_94 : decode cX4_readStatement 94 = .ok (.getfield 23, 3) := by decide +kernel
theorem dX4_readStatement_97 : decode cX4_readStatement 97 = .ok (.iconst 1, 1) := by decide +kernel
theorem dX4_readStatement_98 : decode cX4_readStatement 98 = .ok (.iadd, 1) := by decide +kernel
theorem dX4_readStatement_99 : decode cX4_readStatement 99 = .ok (.putfield 23, 3) := by decide +kernel
theorem dX4_readStatement_102 : decode cX4_readStatement 102 = .ok (.aload_n 0, 1) := by decide +kernel
theorem dX4_readStatement_103 : decode cX4_readStatement 103 = .ok (.aload_n 1, 1) := by decide +kernel
theorem dX4_readStatement_104 : decode cX4_readStatement 104 = .ok (.invokevirtual 33, 3) := by decide +kernel
theorem dX4_readStatement_107 : decode cX4_readStatement 107 = .ok (.ireturn, 1) := by decide +kernel
theorem dX4_readStatement_108 : decode cX4_readStatement 108 = .ok (.aload_n 0, 1) := by decide +kernel
theorem dX4_readStatement_109 : decode cX4_readStatement 109 = .ok (.dup, 1) := by decide +kernel
theorem dX4_readStatement_110 : decode cX4_readStatement 110 = .ok (.getfield 23, 3) := by decide +kernel
theorem dX4_readStatement_113 : decode cX4_readStatement 113 = .ok (.iconst 1, 1) := by decide +kernel
theorem dX4_readStatement_114 : decode cX4_readStatement 114 = .ok (.iadd, 1) := by decide +kernel
theorem dX4_readStatement_115 : decode cX4_readStatement 115 = .ok (.putfield 23, 3) := by decide +kernel
theorem dX4_readStatement_118 : decode cX4_readStatement 118 = .ok (.aload_n 0, 1) := by decide +kernel
theorem dX4_readStatement_119 : decode cX4_readStatement 119 = .ok (.aload_n 1, 1) := by decide +kernel
theorem dX4_readStatement_120 : decode cX4_readStatement 120 = .ok (.invokevirtual 36, 3) := by decide +kernel
theorem dX4_readStatement_123 : decode cX4_readStatement 123 = .ok (.ireturn, 1) := by decide +kernel
theorem dX4_readStatement_124 : decode cX4_readStatement 124 = .ok (.aload_n 0, 1) := by decide +kernel
theorem dX4_readStatement_125 : decode cX4_readStatement 125 = .ok (.dup, 1) := by decide +kernel
theorem dX4_readStatement_126 : decode cX4_readStatement 126 = .ok (.getfield 23, 3) := by decide +kernel
theorem dX4_readStatement_129 : decode cX4_readStatement 129 = .ok (.iconst 1, 1) := by decide +kernel
theorem dX4_readStatement_130 : decode cX4_readStatement 130 = .ok (.iadd, 1) := by decide +kernel
theorem dX4_readStatement_131 : decode cX4_readStatement 131 = .ok (.putfield 23, 3) := by decide +kernel
theorem dX4_readStatement_134 : decode cX4_readStatement 134 = .ok (.aload_n 0, 1) := by decide +kernel
theorem dX4_readStatement_135 : decode cX4_readStatement 135 = .ok (.aload_n 1, 1) := by decide +kernel
theorem dX4_readStatement_136 : decode cX4_readStatement 136 = .ok (.iconst 0, 1) := by decide +kernel
theorem dX4_readStatement_137 : decode cX4_readStatement 137 = .ok (.invokevirtual 39, 3) := by decide +kernel
theorem dX4_readStatement_140 : decode cX4_readStatement 140 = .ok (.ireturn, 1) := by decide +kernel
theorem dX4_readStatement_141 : decode cX4_readStatement 141 = .ok (.aload_n 0, 1) := by decide +kernel
theorem dX4_readStatement_142 : decode cX4_readStatement 142 = .ok (.dup, 1) := by decide +kernel
theorem dX4_readStatement_143 : decode cX4_readStatement 143 = .ok (.getfield 23, 3) := by decide +kernel
theorem dX4_readStatement_146 : decode cX4_readStatement 146 = .ok (.iconst 1, 1) := by decide +kernel
theorem dX4_readStatement_147 : decode cX4_readStatement 147 = .ok (.iadd, 1) := by decide +kernel
theorem dX4_readStatement_148 : decode cX4_readStatement 148 = .ok (.putfield 23, 3) := by decide +kernel
theorem dX4_readStatement_151 : decode cX4_readStatement 151 = .ok (.aload_n 0, 1) := by decide +kernel
theorem dX4_readStatement_152 : decode cX4_readStatement 152 = .ok (.aload_n 1, 1) := by decide +kernel
theorem dX4_readStatement_153 : decode cX4_readStatement 153 = .ok (.invokevirtual 43, 3) := by decide +kernel
theorem dX4_readStatement_156 : decode cX4_readStatement 156 = .ok (.ireturn, 1) := by decide +kernel
theorem dX4_readStatement_157 : decode cX4_readStatement 157 = .ok (.aload_n 0, 1) := by decide +kernel
theorem dX4_readStatement_158 : decode cX4_readStatement 158 = .ok (.dup, 1) := by decide +kernel
theorem dX4_readStatement_159 : decode cX4_readStatement 159 = .ok (.getfield 23, 3) := by decide +kernel
theorem dX4_readStatement_162 : decode cX4_readStatement 162 = .ok (.iconst 1, 1) := by decide +kernel
theorem dX4_readStatement_163 : decode cX4_readStatement 163 = .ok (.iadd, 1) := by decide +kernel
theorem dX4_readStatement_164 : decode cX4_readStatement 164 = .ok (.putfield 23, 3) := by decide +kernel
theorem dX4_readStatement_167 : decode cX4_readStatement 167 = .ok (.aload_n 0, 1) := by decide +kernel
theorem dX4_readStatement_168 : decode cX4_readStatement 168 = .ok (.aload_n 1, 1) := by decide +kernel
theorem dX4_readStatement_169 : decode cX4_readStatement 169 = .ok (.iconst 3, 1) := by decide +kernel
theorem dX4_readStatement_170 : decode cX4_readStatement 170 = .ok (.invokevirtual 39, 3) := by decide +kernel
theorem dX4_readStatement_173 : decode cX4_readStatement 173 = .ok (.ireturn, 1) := by decide +kernel
theorem dX4_readStatement_174 : decode cX4_readStatement 174 = .ok (.aload_n 0, 1) := by decide +kernel
theorem dX4_readStatement_175 : decode cX4_readStatement 175 = .ok (.dup, 1) := by decide +kernel
theorem dX4_readStatement_176 : decode cX4_readStatement 176 = .ok (.getfield 23, 3) := by decide +kernel
theorem dX4_readStatement_179 : decode cX4_readStatement 179 = .ok (.iconst 1, 1) := by decide +kernel
theorem dX4_readStatement_180 : decode cX4_readStatement 180 = .ok (.iadd, 1) := by decide +kernel
theorem dX4_readStatement_181 : decode cX4_readStatement 181 = .ok (.putfield 23, 3) := by decide +kernel
theorem dX4_readStatement_184 : decode cX4_readStatement 184 = .ok (.aload_n 0, 1) := by decide +kernel
theorem dX4_readStatement_185 : decode cX4_readStatement 185 = .ok (.aload_n 1, 1) := by decide +kernel
theorem dX4_readStatement_186 : decode cX4_readStatement 186 = .ok (.invokevirtual 46, 3) := by decide +kernel
theorem dX4_readStatement_189 : decode cX4_readStatement 189 = .ok (.ireturn, 1) := by decide +kernel
theorem dX4_readStatement_190 : decode cX4_readStatement 190 = .ok (.aload_n 0, 1) := by decide +kernel
theorem dX4_readStatement_191 : decode cX4_readStatement 191 = .ok (.aload_n 0, 1) := by decide +kernel
theorem dX4_readStatement_192 : decode cX4_readStatement 192 = .ok (.getfield 23, 3) := by decide +kernel
theorem dX4_readStatement_195 : decode cX4_readStatement 195 = .ok (.invokevirtual 49, 3) := by decide +kernel
theorem dX4_readStatement_198 : decode cX4_readStatement 198 = .ok (.ireturn, 1) := by decide +kernel
theorem dX4_readSort_0 : decode cX4_readSort 0 = .ok (.aload_n 0, 1) := by decide +kernel
theorem dX4_readSort_1 : decode cX4_readSort 1 = .ok (.iconst 0, 1) := by decide +kernel
theorem dX4_readSort_2 : decode cX4_readSort 2 = .ok (.iconst 5, 1) := by decide +kernel
theorem dX4_readSort_3 : decode cX4_readSort 3 = .ok (.invokevirtual 53, 3) := by decide +kernel
theorem dX4_readSort_6 : decode cX4_readSort 6 = .ok (.istore_n 2, 1) := by decide +kernel
theorem dX4_readSort_7 : decode cX4_readSort 7 = .ok (.iload_n 2, 1) := by decide +kernel
theorem dX4_readSort_8 : decode cX4_readSort 8 = .ok (.ifCond .lt 12, 3) := by decide +kernel
theorem dX4_readSort_11 : decode cX4_readSort 11 = .ok (.aload_n 0, 1) := by decide +kernel
theorem dX4_readSort_12 : decode cX4_readSort 12 = .ok (.bipush 58, 2) := by decide +kernel
theorem dX4_readSort_14 : decode cX4_readSort 14 = .ok (.invokevirtual 57, 3) := by decide +kernel
theorem dX4_readSort_17 : decode cX4_readSort 17 = .ok (.ifCond .ne 5, 3) := by decide +kernel
theorem dX4_readSort_20 : decode cX4_readSort 20 = .ok (.iconst 0, 1) := by decide +kernel
theorem dX4_readSort_21 : decode cX4_readSort 21 = .ok (.ireturn, 1) := by decide +kernel
theorem dX4_readSort_22 : decode cX4_readSort 22 = .ok (.aload_n 0, 1) := by decide +kernel
theorem dX4_readSort_23 : decode cX4_readSort 23 = .ok (.invokevirtual 61, 3) := by decide +kernel
theorem dX4_readSort_26 : decode cX4_readSort 26 = .ok (.istore_n 3, 1) := by decide +kernel
theorem dX4_readSort_27 : decode cX4_readSort 27 = .ok (.iload_n 3, 1) := by decide +kernel
theorem dX4_readSort_28 : decode cX4_readSort 28 = .ok (.ifCond .lt 12, 3) := by decide +kernel
theorem dX4_readSort_31 : decode cX4_readSort 31 = .ok (.aload_n 0, 1) := by decide +kernel
theorem dX4_readSort_32 : decode cX4_readSort 32 = .ok (.bipush 44, 2) := by decide +kernel
theorem dX4_readSort_34 : decode cX4_readSort 34 = .ok (.invokevirtual 57, 3) := by decide +kernel
theorem dX4_readSort_37 : decode cX4_readSort 37 = .ok (.ifCond .ne 5, 3) := by decide +kernel
theorem dX4_readSort_40 : decode cX4_readSort 40 = .ok (.iconst 0, 1) := by decide +kernel
theorem dX4_readSort_41 : decode cX4_readSort 41 = .ok (.ireturn, 1) := by decide +kernel
theorem dX4_readSort_42 : decode cX4_readSort 42 = .ok (.aload_n 0, 1) := by decide +kernel
theorem dX4_readSort_43 : decode cX4_readSort 43 = .ok (.invokevirtual 61, 3) := by decide +kernel
theorem dX4_readSort_46 : decode cX4_readSort 46 = .ok (.istore 4, 2) := by decide +kernel
theorem dX4_readSort_48 : decode cX4_readSort 48 = .ok (.iload 4, 2) := by decide +kernel
theorem dX4_readSort_50 : decode cX4_readSort 50 = .ok (.ifCond .lt 12, 3) := by decide +kernel
theorem dX4_readSort_53 : decode cX4_readSort 53 = .ok (.aload_n 0, 1) := by decide +kernel
theorem dX4_readSort_54 : decode cX4_readSort 54 = .ok (.bipush 59, 2) := by decide +kernel
theorem dX4_readSort_56 : decode cX4_readSort 56 = .ok (.invokevirtual 57, 3) := by decide +kernel
theorem dX4_readSort_59 : decode cX4_readSort 59 = .ok (.ifCond .ne 5, 3) := by decide +kernel
theorem dX4_readSort_62 : decode cX4_readSort 62 = .ok (.iconst 0, 1) := by decide +kernel
theorem dX4_readSort_63 : decode cX4_readSort 63 = .ok (.ireturn, 1) := by decide +kernel
theorem dX4_readSort_64 : decode cX4_readSort 64 = .ok (.aload_n 1, 1) := by decide +kernel
theorem dX4_readSort_65 : decode cX4_readSort 65 = .ok (.getfield 65, 3) := by decide +kernel
theorem dX4_readSort_68 : decode cX4_readSort 68 = .ok (.iload_n 2, 1) := by decide +kernel
theorem dX4_readSort_69 : decode cX4_readSort 69 = .ok (.iload_n 3, 1) := by decide +kernel
theorem dX4_readSort_70 : decode cX4_readSort 70 = .ok (.iastore, 1) := by decide +kernel
theorem dX4_readSort_71 : decode cX4_readSort 71 = .ok (.aload_n 1, 1) := by decide +kernel
theorem dX4_readSort_72 : decode cX4_readSort 72 = .ok (.getfield 70, 3) := by decide +kernel
theorem dX4_readSort_75 : decode cX4_readSort 75 = .ok (.iload_n 2, 1) := by decide +kernel
theorem dX4_readSort_76 : decode cX4_readSort 76 = .ok (.iload 4, 2) := by decide +kernel
theorem dX4_readSort_78 : decode cX4_readSort 78 = .ok (.iastore, 1) := by decide +kernel
theorem dX4_readSort_79 : decode cX4_readSort 79 = .ok (.iconst 1, 1) := by decide +kernel
theorem dX4_readSort_80 : decode cX4_readSort 80 = .ok (.ireturn, 1) := by decide +kernel
theorem dX4_readPeople_0 : decode cX4_readPeople 0 = .ok (.bipush 12, 2) := by decide +kernel
theorem dX4_readPeople_2 : decode cX4_readPeople 2 = .ok (.aload_n 1, 1) := by decide +kernel
theorem dX4_readPeople_3 : decode cX4_readPeople 3 = .ok (.getfield 73, 3) := by decide +kernel
theorem dX4_readPeople_6 : decode cX4_readPeople 6 = .ok (.isub, 1) := by decide +kernel
theorem dX4_readPeople_7 : decode cX4_readPeople 7 = .ok (.istore_n 2, 1) := by decide +kernel
theorem dX4_readPeople_8 : decode cX4_readPeople 8 = .ok (.iconst 0, 1) := by decide +kernel
theorem dX4_readPeople_9 : decode cX4_readPeople 9 = .ok (.istore_n 3, 1) := by decide +kernel
theorem dX4_readPeople_10 : decode cX4_readPeople 10 = .ok (.iload_n 3, 1) := by decide +kernel
theorem dX4_readPeople_11 : decode cX4_readPeople 11 = .ok (.iload_n 2, 1) := by decide +kernel
theorem dX4_readPeople_12 : decode cX4_readPeople 12 = .ok (.if_icmp .ge 45, 3) := by decide +kernel
theorem dX4_readPeople_15 : decode cX4_readPeople 15 = .ok (.iload_n 3, 1) := by decide +kernel
theorem dX4_readPeople_16 : decode cX4_readPeople 16 = .ok (.ifCond .eq 12, 3) := by decide +kernel
theorem dX4_readPeople_19 : decode cX4_readPeople 19 = .ok (.aload_n 0, 1) := by decide +kernel
theorem dX4_readPeople_20 : decode cX4_readPeople 20 = .ok (.iconst 0, 1) := by decide +kernel
theorem dX4_readPeople_21 : decode cX4_readPeople 21 = .ok (.iconst 5, 1) := by decide +kernel
theorem dX4_readPeople_22 : decode cX4_readPeople 22 = .ok (.invokevirtual 76, 3) := by decide +kernel
theorem dX4_readPeople_25 : decode cX4_readPeople 25 = .ok (.ifCond .eq 32, 3) := by decide +kernel
theorem dX4_readPeople_28 : decode cX4_readPeople 28 = .ok (.aload_n 0, 1) := by decide +kernel
theorem dX4_readPeople_29 : decode cX4_readPeople 29 = .ok (.iconst 0, 1) := by decide +kernel
theorem dX4_readPeople_30 : decode cX4_readPeople 30 = .ok (.iconst 5, 1) := by decide +kernel
theorem dX4_readPeople_31 : decode cX4_readPeople 31 = .ok (.invokevirtual 53, 3) := by decide +kernel
theorem dX4_readPeople_34 : decode cX4_readPeople 34 = .ok (.istore 4, 2) := by decide +kernel
theorem dX4_readPeople_36 : decode cX4_readPeople 36 = .ok (.iload 4, 2) := by decide +kernel
theorem dX4_readPeople_38 : decode cX4_readPeople 38 = .ok (.ifCond .ge 5, 3) := by decide +kernel
theorem dX4_readPeople_41 : decode cX4_readPeople 41 = .ok (.iconst 0, 1) := by decide +kernel
theorem dX4_readPeople_42 : decode cX4_readPeople 42 = .ok (.ireturn, 1) := by decide +kernel
theorem dX4_readPeople_43 : decode cX4_readPeople 43 = .ok (.aload_n 0, 1) := by decide +kernel
theorem dX4_readPeople_44 : decode cX4_readPeople 44 = .ok (.getfield 15, 3) := by decide +kernel
theorem dX4_readPeople_47 : decode cX4_readPeople 47 = .ok (.iload_n 3, 1) := by decide +kernel
theorem dX4_readPeople_48 : decode cX4_readPeople 48 = .ok (.iload 4, 2) := by decide +kernel
theorem dX4_readPeople_50 : decode cX4_readPeople 50 = .ok (.iastore, 1) := by decide +kernel
theorem dX4_readPeople_51 : decode cX4_readPeople 51 = .ok (.iinc 3 1, 3) := by decide +kernel
theorem dX4_readPeople_54 : decode cX4_readPeople 54 = .ok (.goto (-44), 3) := by decide +kernel
theorem dX4_readPeople_57 : decode cX4_readPeople 57 = .ok (.iload_n 3, 1) := by decide +kernel
theorem dX4_readPeople_58 : decode cX4_readPeople 58 = .ok (.ifCond .ne 12, 3) := by decide +kernel
theorem dX4_readPeople_61 : decode cX4_readPeople 61 = .ok (.aload_n 0, 1) := by decide +kernel
theorem dX4_readPeople_62 : decode cX4_readPeople 62 = .ok (.aload_n 0, 1) := by decide +kernel
theorem dX4_readPeople_63 : decode cX4_readPeople 63 = .ok (.getfield 23, 3) := by decide +kernel
theorem dX4_readPeople_66 : decode cX4_readPeople 66 = .ok (.invokevirtual 49, 3) := by decide +kernel
theorem dX4_readPeople_69 : decode cX4_readPeople 69 = .ok (.ireturn, 1) := by decide +kernel
theorem dX4_readPeople_70 : decode cX4_readPeople 70 = .ok (.aload_n 0, 1) := by decide +kernel
theorem dX4_readPeople_71 : decode cX4_readPeople 71 = .ok (.bipush 59, 2) := by decide +kernel
theorem dX4_readPeople_73 : decode cX4_readPeople 73 = .ok (.invokevirtual 57, 3) := by decide +kernel
theorem dX4_readPeople_76 : decode cX4_readPeople 76 = .ok (.ifCond .ne 5, 3) := by decide +kernel
theorem dX4_readPeople_79 : decode cX4_readPeople 79 = .ok (.iconst 0, 1) := by decide +kernel
theorem dX4_readPeople_80 : decode cX4_readPeople 80 = .ok (.ireturn, 1) := by decide +kernel
theorem dX4_readPeople_81 : decode cX4_readPeople 81 = .ok (.iconst 0, 1) := by decide +kernel
theorem dX4_readPeople_82 : decode cX4_readPeople 82 = .ok (.istore 4, 2) := by decide +kernel
theorem dX4_readPeople_84 : decode cX4_readPeople 84 = .ok (.iload 4, 2) := by decide +kernel
theorem dX4_readPeople_86 : decode cX4_readPeople 86 = .ok (.iload_n 3, 1) := by decide +kernel
theorem dX4_readPeople_87 : decode cX4_readPeople 87 = .ok (.if_icmp .ge 20, 3) := by decide +kernel
theorem dX4_readPeople_90 : decode cX4_readPeople 90 = .ok (.aload_n 1, 1) := by decide +kernel
theorem dX4_readPeople_91 : decode cX4_readPeople 91 = .ok (.aload_n 0, 1) := by decide +kernel
theorem dX4_readPeople_92 : decode cX4_readPeople 92 = .ok (.getfield 15, 3) := by decide +kernel
theorem dX4_readPeople_95 : decode cX4_readPeople 95 = .ok (.iload 4, 2) := by decide +kernel
theorem dX4_readPeople_97 : decode cX4_readPeople 97 = .ok (.iaload, 1) := by decide +kernel
theorem dX4_readPeople_98 : decode cX4_readPeople 98 = .ok (.invokevirtual 80, 3) := by decide +kernel
theorem dX4_readPeople_101 : decode cX4_readPeople 101 = .ok (.iinc 4 1, 3) := by decide +kernel
theorem dX4_readPeople_104 : decode cX4_readPeople 104 = .ok (.goto (-20), 3) := by decide +kernel
theorem dX4_readPeople_107 : decode cX4_readPeople 107 = .ok (.iconst 1, 1) := by decide +kernel
theorem dX4_readPeople_108 : decode cX4_readPeople 108 = .ok (.ireturn, 1) := by decide +kernel
theorem dX4_readTerm_0 : decode cX4_readTerm 0 = .ok (.aload_n 0, 1) := by decide +kernel
theorem dX4_readTerm_1 : decode cX4_readTerm 1 = .ok (.getstatic 84, 3) := by decide +kernel
theorem dX4_readTerm_4 : decode cX4_readTerm 4 = .ok (.iload_n 2, 1) := by decide +kernel
theorem dX4_readTerm_5 : decode cX4_readTerm 5 = .ok (.iaload, 1) := by decide +kernel
theorem dX4_readTerm_6 : decode cX4_readTerm 6 = .ok (.getstatic 87, 3) := by decide +kernel
theorem dX4_readTerm_9 : decode cX4_readTerm 9 = .ok (.iload_n 2, 1) := by decide +kernel
theorem dX4_readTerm_10 : decode cX4_readTerm 10 = .ok (.iaload, 1) := by decide +kernel
theorem dX4_readTerm_11 : decode cX4_readTerm 11 = .ok (.invokevirtual 53, 3) := by decide +kernel
theorem dX4_readTerm_14 : decode cX4_readTerm 14 = .ok (.istore_n 3, 1) := by decide +kernel
theorem dX4_readTerm_15 : decode cX4_readTerm 15 = .ok (.iload_n 3, 1) := by decide +kernel
theorem dX4_readTerm_16 : decode cX4_readTerm 16 = .ok (.ifCond .lt 12, 3) := by decide +kernel
theorem dX4_readTerm_19 : decode cX4_readTerm 19 = .ok (.aload_n 0, 1) := by decide +kernel
theorem dX4_readTerm_20 : decode cX4_readTerm 20 = .ok (.bipush 59, 2) := by decide +kernel
theorem dX4_readTerm_22 : decode cX4_readTerm 22 = .ok (.invokevirtual 57, 3) := by decide +kernel
theorem dX4_readTerm_25 : decode cX4_readTerm 25 = .ok (.ifCond .ne 5, 3) := by decide +kernel
theorem dX4_readTerm_28 : decode cX4_readTerm 28 = .ok (.iconst 0, 1) := by decide +kernel
theorem dX4_readTerm_29 : decode cX4_readTerm 29 = .ok (.ireturn, 1) := by decide +kernel
theorem dX4_readTerm_30 : decode cX4_readTerm 30 = .ok (.aload_n 1, 1) := by decide +kernel
theorem dX4_readTerm_31 : decode cX4_readTerm 31 = .ok (.getfield 90, 3) := by decide +kernel
theorem dX4_readTerm_34 : decode cX4_readTerm 34 = .ok (.iload_n 2, 1) := by decide +kernel
theorem dX4_readTerm_35 : decode cX4_readTerm 35 = .ok (.iload_n 3, 1) := by decide +kernel
theorem dX4_readTerm_36 : decode cX4_readTerm 36 = .ok (.iastore, 1) := by decide +kernel
theorem dX4_readTerm_37 : decode cX4_readTerm 37 = .ok (.iconst 1, 1) := by decide +kernel
theorem dX4_readTerm_38 : decode cX4_readTerm 38 = .ok (.ireturn, 1) := by decide +kernel
theorem dX4_readStrikes_0 : decode cX4_readStrikes 0 = .ok (.aload_n 0, 1) := by decide +kernel
theorem dX4_readStrikes_1 : decode cX4_readStrikes 1 = .ok (.iconst 0, 1) := by decide +kernel
theorem dX4_readStrikes_2 : decode cX4_readStrikes 2 = .ok (.iconst 3, 1) := by decide +kernel
theorem dX4_readStrikes_3 : decode cX4_readStrikes 3 = .ok (.invokevirtual 53, 3) := by decide +kernel
theorem dX4_readStrikes_6 : decode cX4_readStrikes 6 = .ok (.istore_n 2, 1) := by decide +kernel
theorem dX4_readStrikes_7 : decode cX4_readStrikes 7 = .ok (.iload_n 2, 1) := by decide +kernel
theorem dX4_readStrikes_8 : decode cX4_readStrikes 8 = .ok (.ifCond .ge 5, 3) := by decide +kernel
theorem dX4_readStrikes_11 : decode cX4_readStrikes 11 = .ok (.iconst 0, 1) := by decide +kernel
theorem dX4_readStrikes_12 : decode cX4_readStrikes 12 = .ok (.ireturn, 1) := by decide +kernel
theorem dX4_readStrikes_13 : decode cX4_readStrikes 13 = .ok (.aload_n 0, 1) := by decide +kernel
theorem dX4_readStrikes_14 : decode cX4_readStrikes 14 = .ok (.iconst 0, 1) := by decide +kernel
theorem dX4_readStrikes_15 : decode cX4_readStrikes 15 = .ok (.iconst 3, 1) := by decide +kernel
theorem dX4_readStrikes_16 : decode cX4_readStrikes 16 = .ok (.invokevirtual 53, 3) := by decide +kernel
theorem dX4_readStrikes_19 : decode cX4_readStrikes 19 = .ok (.istore_n 3, 1) := by decide +kernel
theorem dX4_readStrikes_20 : decode cX4_readStrikes 20 = .ok (.iload_n 3, 1) := by decide +kernel
theorem dX4_readStrikes_21 : decode cX4_readStrikes 21 = .ok (.ifCond .lt 12, 3) := by decide +kernel
theorem dX4_readStrikes_24 : decode cX4_readStrikes 24 = .ok (.aload_n 0, 1) := by decide +kernel
theorem dX4_readStrikes_25 : decode cX4_readStrikes 25 = .ok (.bipush 59, 2) := by decide +kernel
theorem dX4_readStrikes_27 : decode cX4_readStrikes 27 = .ok (.invokevirtual 57, 3) := by decide +kernel
theorem dX4_readStrikes_30 : decode cX4_readStrikes 30 = .ok (.ifCond .ne 5, 3) := by decide +kernel
theorem dX4_readStrikes_33 : decode cX4_readStrikes 33 = .ok (.iconst 0, 1) := by decide +kernel
theorem dX4_readStrikes_34 : decode cX4_readStrikes 34 = .ok (.ireturn, 1) := by decide +kernel
theorem dX4_readStrikes_35 : decode cX4_readStrikes 35 = .ok (.aload_n 1, 1) := by decide +kernel
theorem dX4_readStrikes_36 : decode cX4_readStrikes 36 = .ok (.getfield 90, 3) := by decide +kernel
theorem dX4_readStrikes_39 : decode cX4_readStrikes 39 = .ok (.iconst 1, 1) := by decide +kernel
theorem dX4_readStrikes_40 : decode cX4_readStrikes 40 = .ok (.iload_n 2, 1) := by decide +kernel
theorem dX4_readStrikes_41 : decode cX4_readStrikes 41 = .ok (.iastore, 1) := by decide +kernel
theorem dX4_readStrikes_42 : decode cX4_readStrikes 42 = .ok (.aload_n 1, 1) := by decide +kernel
theorem dX4_readStrikes_43 : decode cX4_readStrikes 43 = .ok (.getfield 90, 3) := by decide +kernel
theorem dX4_readStrikes_46 : decode cX4_readStrikes 46 = .ok (.iconst 2, 1) := by decide +kernel
theorem dX4_readStrikes_47 : decode cX4_readStrikes 47 = .ok (.iload_n 3, 1) := by decide +kernel
theorem dX4_readStrikes_48 : decode cX4_readStrikes 48 = .ok (.iastore, 1) := by decide +kernel
theorem dX4_readStrikes_49 : decode cX4_readStrikes 49 = .ok (.iconst 1, 1) := by decide +kernel
theorem dX4_readStrikes_50 : decode cX4_readStrikes 50 = .ok (.ireturn, 1) := by decide +kernel
theorem dX4_readTruth_0 : decode cX4_readTruth 0 = .ok (.aload_n 0, 1) := by decide +kernel
theorem dX4_readTruth_1 : decode cX4_readTruth 1 = .ok (.invokevirtual 61, 3) := by decide +kernel
theorem dX4_readTruth_4 : decode cX4_readTruth 4 = .ok (.istore_n 2, 1) := by decide +kernel
theorem dX4_readTruth_5 : decode cX4_readTruth 5 = .ok (.iload_n 2, 1) := by decide +kernel
theorem dX4_readTruth_6 : decode cX4_readTruth 6 = .ok (.ifCond .lt 12, 3) := by decide +kernel
theorem dX4_readTruth_9 : decode cX4_readTruth 9 = .ok (.aload_n 0, 1) := by decide +kernel
theorem dX4_readTruth_10 : decode cX4_readTruth 10 = .ok (.bipush 59, 2) := by decide +kernel
theorem dX4_readTruth_12 : decode cX4_readTruth 12 = .ok (.invokevirtual 57, 3) := by decide +kernel
theorem dX4_readTruth_15 : decode cX4_readTruth 15 = .ok (.ifCond .ne 5, 3) := by decide +kernel
theorem dX4_readTruth_18 : decode cX4_readTruth 18 = .ok (.iconst 0, 1) := by decide +kernel
theorem dX4_readTruth_19 : decode cX4_readTruth 19 = .ok (.ireturn, 1) := by decide +kernel
theorem dX4_readTruth_20 : decode cX4_readTruth 20 = .ok (.aload_n 1, 1) := by decide +kernel
theorem dX4_readTruth_21 : decode cX4_readTruth 21 = .ok (.getfield 90, 3) := by decide +kernel
theorem dX4_readTruth_24 : decode cX4_readTruth 24 = .ok (.iconst 4, 1) := by decide +kernel
theorem dX4_readTruth_25 : decode cX4_readTruth 25 = .ok (.iload_n 2, 1) := by decide +kernel
theorem dX4_readTruth_26 : decode cX4_readTruth 26 = .ok (.iastore, 1) := by decide +kernel
theorem dX4_readTruth_27 : decode cX4_readTruth 27 = .ok (.iconst 1, 1) := by decide +kernel
theorem dX4_readTruth_28 : decode cX4_readTruth 28 = .ok (.ireturn, 1) := by decide +kernel
theorem dX4_fault_0 : decode cX4_fault 0 = .ok (.aload_n 0, 1) := by decide +kernel
theorem dX4_fault_1 : decode cX4_fault 1 = .ok (.iload_n 1, 1) := by decide +kernel
theorem dX4_fault_2 : decode cX4_fault 2 = .ok (.putfield 30, 3) := by decide +kernel
theorem dX4_fault_5 : decode cX4_fault 5 = .ok (.iconst 0, 1) := by decide +kernel
theorem dX4_fault_6 : decode cX4_fault 6 = .ok (.ireturn, 1) := by decide +kernel
theorem dX4_isDigit_0 : decode cX4_isDigit 0 = .ok (.aload_n 0, 1) := by decide +kernel
theorem dX4_isDigit_1 : decode cX4_isDigit 1 = .ok (.getfield 23, 3) := by decide +kernel
theorem dX4_isDigit_4 : decode cX4_isDigit 4 = .ok (.aload_n 0, 1) := by decide +kernel
theorem dX4_isDigit_5 : decode cX4_isDigit 5 = .ok (.getfield 19, 3) := by decide +kernel
theorem dX4_isDigit_8 : decode cX4_isDigit 8 = .ok (.if_icmp .ge 39, 3) := by decide +kernel
theorem dX4_isDigit_11 : decode cX4_isDigit 11 = .ok (.aload_n 0, 1) := by decide +kernel
theorem dX4_isDigit_12 : decode cX4_isDigit 12 = .ok (.getfield 9, 3) := by decide +kernel
theorem dX4_isDigit_15 : decode cX4_isDigit 15 = .ok (.aload_n 0, 1) := by decide +kernel
theorem dX4_isDigit_16 : decode cX4_isDigit 16 = .ok (.getfield 23, 3) := by decide +kernel
theorem dX4_isDigit_19 : decode cX4_isDigit 19 = .ok (.baload, 1) := by decide +kernel
theorem dX4_isDigit_20 : decode cX4_isDigit 20 = .ok (.bipush 48, 2) := by decide +kernel
theorem dX4_isDigit_22 : decode cX4_isDigit 22 = .ok (.iload_n 1, 1) := by decide +kernel
theorem dX4_isDigit_23 : decode cX4_isDigit 23 = .ok (.iadd, 1) := by decide +kernel
theorem dX4_isDigit_24 : decode cX4_isDigit 24 = .ok (.if_icmp .lt 23, 3) := by decide +kernel
theorem dX4_isDigit_27 : decode cX4_isDigit 27 = .ok (.aload_n 0, 1) := by decide +kernel
theorem dX4_isDigit_28 : decode cX4_isDigit 28 = .ok (.getfield 9, 3) := by decide +kernel
theorem dX4_isDigit_31 : decode cX4_isDigit 31 = .ok (.aload_n 0, 1) := by decide +kernel
theorem dX4_isDigit_32 : decode cX4_isDigit 32 = .ok (.getfield 23, 3) := by decide +kernel
theorem dX4_isDigit_35 : decode cX4_isDigit 35 = .ok (.baload, 1) := by decide +kernel
theorem dX4_isDigit_36 : decode cX4_isDigit 36 = .ok (.bipush 48, 2) := by decide +kernel
theorem dX4_isDigit_38 : decode cX4_isDigit 38 = .ok (.iload_n 2, 1) := by decide +kernel
theorem dX4_isDigit_39 : decode cX4_isDigit 39 = .ok (.iadd, 1) := by decide +kernel
theorem dX4_isDigit_40 : decode cX4_isDigit 40 = .ok (.if_icmp .gt 7, 3) := by decide +kernel
theorem dX4_isDigit_43 : decode cX4_isDigit 43 = .ok (.iconst 1, 1) := by decide +kernel
theorem dX4_isDigit_44 : decode cX4_isDigit 44 = .ok (.goto 4, 3) := by decide +kernel
theorem dX4_isDigit_47 : decode cX4_isDigit 47 = .ok (.iconst 0, 1) := by decide +kernel
theorem dX4_isDigit_48 : decode cX4_isDigit 48 = .ok (.ireturn, 1) := by decide +kernel
theorem dX4_sign_0 : decode cX4_sign 0 = .ok (.aload_n 0, 1) := by decide +kernel
theorem dX4_sign_1 : decode cX4_sign 1 = .ok (.getfield 23, 3) := by decide +kernel
theorem dX4_sign_4 : decode cX4_sign 4 = .ok (.aload_n 0, 1) := by decide +kernel
theorem dX4_sign_5 : decode cX4_sign 5 = .ok (.getfield 19, 3) := by decide +kernel
theorem dX4_sign_8 : decode cX4_sign 8 = .ok (.if_icmp .ge 16, 3) := by decide +kernel
theorem dX4_sign_11 : decode cX4_sign 11 = .ok (.aload_n 0, 1) := by decide +kernel
theorem dX4_sign_12 : decode cX4_sign 12 = .ok (.getfield 9, 3) := by decide +kernel
theorem dX4_sign_15 : decode cX4_sign 15 = .ok (.aload_n 0, 1) := by decide +kernel
theorem dX4_sign_16 : decode cX4_sign 16 = .ok (.getfield 23, 3) := by decide +kernel
theorem dX4_sign_19 : decode cX4_sign 19 = .ok (.baload, 1) := by decide +kernel
theorem dX4_sign_20 : decode cX4_sign 20 = .ok (.iload_n 1, 1) := by decide +kernel
theorem dX4_sign_21 : decode cX4_sign 21 = .ok (.if_icmp .eq 12, 3) := by decide +kernel
theorem dX4_sign_24 : decode cX4_sign 24 = .ok (.aload_n 0, 1) := by decide +kernel
theorem dX4_sign_25 : decode cX4_sign 25 = .ok (.aload_n 0, 1) := by decide +kernel
theorem dX4_sign_26 : decode cX4_sign 26 = .ok (.getfield 23, 3) := by decide +kernel
theorem dX4_sign_29 : decode cX4_sign 29 = .ok (.invokevirtual 49, 3) := by decide +kernel
theorem dX4_sign_32 : decode cX4_sign 32 = .ok (.ireturn, 1) := by decide +kernel
theorem dX4_sign_33 : decode cX4_sign 33 = .ok (.aload_n 0, 1) := by decide +kernel
theorem dX4_sign_34 : decode cX4_sign 34 = .ok (.dup, 1) := by decide +kernel
theorem dX4_sign_35 : decode cX4_sign 35 = .ok (.getfield 23, 3) := by decide +kernel
theorem dX4_sign_38 : decode cX4_sign 38 = .ok (.iconst 1, 1) := by decide +kernel
theorem dX4_sign_39 : decode cX4_sign 39 = .ok (.iadd, 1) := by decide +kernel
theorem dX4_sign_40 : decode cX4_sign 40 = .ok (.putfield 23, 3) := by decide +kernel
theorem dX4_sign_43 : decode cX4_sign 43 = .ok (.iconst 1, 1) := by decide +kernel
theorem dX4_sign_44 : decode cX4_sign 44 = .ok (.ireturn, 1) := by decide +kernel
theorem dX4_digit_0 : decode cX4_digit 0 = .ok (.aload_n 0, 1) := by decide +kernel
theorem dX4_digit_1 : decode cX4_digit 1 = .ok (.iload_n 1, 1) := by decide +kernel
theorem dX4_digit_2 : decode cX4_digit 2 = .ok (.iload_n 2, 1) := by decide +kernel
theorem dX4_digit_3 : decode cX4_digit 3 = .ok (.invokevirtual 76, 3) := by decide +kernel
theorem dX4_digit_6 : decode cX4_digit 6 = .ok (.ifCond .ne 14, 3) := by decide +kernel
theorem dX4_digit_9 : decode cX4_digit 9 = .ok (.aload_n 0, 1) := by decide +kernel
theorem dX4_digit_10 : decode cX4_digit 10 = .ok (.aload_n 0, 1) := by decide +kernel
theorem dX4_digit_11 : decode cX4_digit 11 = .ok (.getfield 23, 3) := by decide +kernel
theorem dX4_digit_14 : decode cX4_digit 14 = .ok (.invokevirtual 49, 3) := by decide +kernel
theorem dX4_digit_17 : decode cX4_digit 17 = .ok (.pop, 1) := by decide +kernel
theorem dX4_digit_18 : decode cX4_digit 18 = .ok (.iconst (-1), 1) := by decide +kernel
theorem dX4_digit_19 : decode cX4_digit 19 = .ok (.ireturn, 1) := by decide +kernel
theorem dX4_digit_20 : decode cX4_digit 20 = .ok (.aload_n 0, 1) := by decide +kernel
theorem dX4_digit_21 : decode cX4_digit 21 = .ok (.dup, 1) := by decide +kernel
theorem dX4_digit_22 : decode cX4_digit 22 = .ok (.getfield 23, 3) := by decide +kernel
theorem dX4_digit_25 : decode cX4_digit 25 = .ok (.iconst 1, 1) := by decide +kernel
theorem dX4_digit_26 : decode cX4_digit 26 = .ok (.iadd, 1) := by decide +kernel
theorem dX4_digit_27 : decode cX4_digit 27 = .ok (.putfield 23, 3) := by decide +kernel
theorem dX4_digit_30 : decode cX4_digit 30 = .ok (.aload_n 0, 1) := by decide +kernel
theorem dX4_digit_31 : decode cX4_digit 31 = .ok (.getfield 9, 3) := by decide +kernel
theorem dX4_digit_34 : decode cX4_digit 34 = .ok (.aload_n 0, 1) := by decide +kernel
theorem dX4_digit_35 : decode cX4_digit 35 = .ok (.getfield 23, 3) := by decide +kernel
theorem dX4_digit_38 : decode cX4_digit 38 = .ok (.iconst 1, 1) := by decide +kernel
theorem dX4_digit_39 : decode cX4_digit 39 = .ok (.isub, 1) := by decide +kernel
theorem dX4_digit_40 : decode cX4_digit 40 = .ok (.baload, 1) := by decide +kernel
theorem dX4_digit_41 : decode cX4_digit 41 = .ok (.bipush 48, 2) := by decide +kernel
theorem dX4_digit_43 : decode cX4_digit 43 = .ok (.isub, 1) := by decide +kernel
theorem dX4_digit_44 : decode cX4_digit 44 = .ok (.ireturn, 1) := by decide +kernel
theorem dX4_number_0 : decode cX4_number 0 = .ok (.aload_n 0, 1) := by decide +kernel
theorem dX4_number_1 : decode cX4_number 1 = .ok (.getfield 23, 3) := by decide +kernel
theorem dX4_number_4 : decode cX4_number 4 = .ok (.istore_n 1, 1) := by decide +kernel
theorem dX4_number_5 : decode cX4_number 5 = .ok (.aload_n 0, 1) := by decide +kernel
theorem dX4_number_6 : decode cX4_number 6 = .ok (.iconst 0, 1) := by decide +kernel
theorem dX4_number_7 : decode cX4_number 7 = .ok (.bipush 9, 2) := by decide +kernel
theorem dX4_number_9 : decode cX4_number 9 = .ok (.invokevirtual 53, 3) := by decide +kernel
theorem dX4_number_12 : decode cX4_number 12 = .ok (.istore_n 2, 1) := by decide +kernel
theorem dX4_number_13 : decode cX4_number 13 = .ok (.iconst 0, 1) := by decide +kernel
theorem dX4_number_14 : decode cX4_number 14 = .ok (.istore_n 3, 1) := by decide +kernel
theorem dX4_number_15 : decode cX4_number 15 = .ok (.iload_n 3, 1) := by decide +kernel
theorem dX4_number_16 : decode cX4_number 16 = .ok (.iconst 2, 1) := by decide +kernel
theorem dX4_number_17 : decode cX4_number 17 = .ok (.if_icmp .ge 36, 3) := by decide +kernel
theorem dX4_number_20 : decode cX4_number 20 = .ok (.iload_n 2, 1) := by decide +kernel
theorem dX4_number_21 : decode cX4_number 21 = .ok (.ifCond .le 32, 3) := by decide +kernel
theorem dX4_number_24 : decode cX4_number 24 = .ok (.aload_n 0, 1) := by decide +kernel
theorem dX4_number_25 : decode cX4_number 25 = .ok (.iconst 0, 1) := by decide +kernel
theorem dX4_number_26 : decode cX4_number 26 = .ok (.bipush 9, 2) := by decide +kernel
theorem dX4_number_28 : decode cX4_number 28 = .ok (.invokevirtual 76, 3) := by decide +kernel
theorem dX4_number_31 : decode cX4_number 31 = .ok (.ifCond .eq 22, 3) := by decide +kernel
theorem dX4_number_34 : decode cX4_number 34 = .ok (.bipush 10, 2) := by decide +kernel
theorem dX4_number_36 : decode cX4_number 36 = .ok (.iload_n 2, 1) := by decide +kernel
theorem dX4_number_37 : decode cX4_number 37 = .ok (.imul, 1) := by decide +kernel
theorem dX4_number_38 : decode cX4_number 38 = .ok (.aload_n 0, 1) := by decide +kernel
theorem dX4_number_39 : decode cX4_number 39 = .ok (.iconst 0, 1) := by decide +kernel
theorem dX4_number_40 : decode cX4_number 40 = .ok (.bipush 9, 2) := by decide +kernel
theorem dX4_number_42 : decode cX4_number 42 = .ok (.invokevirtual 53, 3) := by decide +kernel
theorem dX4_number_45 : decode cX4_number 45 = .ok (.iadd, 1) := by decide +kernel
theorem dX4_number_46 : decode cX4_number 46 = .ok (.istore_n 2, 1) := by decide +kernel
theorem dX4_number_47 : decode cX4_number 47 = .ok (.iinc 3 1, 3) := by decide +kernel
theorem dX4_number_50 : decode cX4_number 50 = .ok (.goto (-35), 3) := by decide +kernel
theorem dX4_number_53 : decode cX4_number 53 = .ok (.iload_n 2, 1) := by decide +kernel
theorem dX4_number_54 : decode cX4_number 54 = .ok (.bipush 100, 2) := by decide +kernel
theorem dX4_number_56 : decode cX4_number 56 = .ok (.if_icmp .le 11, 3) := by decide +kernel
theorem dX4_number_59 : decode cX4_number 59 = .ok (.aload_n 0, 1) := by decide +kernel
theorem dX4_number_60 : decode cX4_number 60 = .ok (.iload_n 1, 1) := by decide +kernel
theorem dX4_number_61 : decode cX4_number 61 = .ok (.invokevirtual 49, 3) := by decide +kernel
theorem dX4_number_64 : decode cX4_number 64 = .ok (.pop, 1) := by decide +kernel
theorem dX4_number_65 : decode cX4_number 65 = .ok (.iconst (-1), 1) := by decide +kernel
theorem dX4_number_66 : decode cX4_number 66 = .ok (.ireturn, 1) := by decide +kernel
theorem dX4_number_67 : decode cX4_number 67 = .ok (.iload_n 2, 1) := by decide +kernel
theorem dX4_number_68 : decode cX4_number 68 = .ok (.ireturn, 1) := by decide +kernel
theorem dX5_init_0 : decode cX5_init 0 = .ok (.aload_n 0, 1) := by decide +kernel
theorem dX5_init_1 : decode cX5_init 1 = .ok (.invokespecial 3, 3) := by decide +kernel
theorem dX5_init_4 : decode cX5_init 4 = .ok (.aload_n 0, 1) := by decide +kernel
theorem dX5_init_5 : decode cX5_init 5 = .ok (.bipush 6, 2) := by decide +kernel
theorem dX5_init_7 : decode cX5_init 7 = .ok (.newarray .int, 2) := by decide +kernel
theorem dX5_init_9 : decode cX5_init 9 = .ok (.putfield 9, 3) := by decide +kernel
theorem dX5_init_12 : decode cX5_init 12 = .ok (.aload_n 0, 1) := by decide +kernel
theorem dX5_init_13 : decode cX5_init 13 = .ok (.bipush 12, 2) := by decide +kernel
theorem dX5_init_15 : decode cX5_init 15 = .ok (.newarray .int, 2) := by decide +kernel
theorem dX5_init_17 : decode cX5_init 17 = .ok (.putfield 15, 3) := by decide +kernel
theorem dX5_init_20 : decode cX5_init 20 = .ok (.aload_n 0, 1) := by decide +kernel
theorem dX5_init_21 : decode cX5_init 21 = .ok (.aload_n 1, 1) := by decide +kernel
theorem dX5_init_22 : decode cX5_init 22 = .ok (.putfield 18, 3) := by decide +kernel
theorem dX5_init_25 : decode cX5_init 25 = .ok (.return_, 1) := by decide +kernel
theorem dX5_sideAt_0 : decode cX5_sideAt 0 = .ok (.iload_n 1, 1) := by decide +kernel
theorem dX5_sideAt_1 : decode cX5_sideAt 1 = .ok (.istore 4, 2) := by decide +kernel
theorem dX5_sideAt_3 : decode cX5_sideAt 3 = .ok (.iload_n 2, 1) := by decide +kernel
theorem dX5_sideAt_4 : decode cX5_sideAt 4 = .ok (.istore 5, 2) := by decide +kernel
theorem dX5_sideAt_6 : decode cX5_sideAt 6 = .ok (.iconst 1, 1) := by decide +kernel
theorem dX5_sideAt_7 : decode cX5_sideAt 7 = .ok (.iload_n 3, 1) := by decide +kernel
theorem dX5_sideAt_8 : decode cX5_sideAt 8 = .ok (.isub, 1) := by decide +kernel
theorem dX5_sideAt_9 : decode cX5_sideAt 9 = .ok (.istore 6, 2) := by decide +kernel
theorem dX5_sideAt_11 : decode cX5_sideAt 11 = .ok (.iconst 0, 1) := by decide +kernel
theorem dX5_sideAt_12 : decode cX5_sideAt 12 = .ok (.istore 7, 2) := by decide +kernel
theorem dX5_sideAt_14 : decode cX5_sideAt 14 = .ok (.iload 7, 2) := by decide +kernel
theorem dX5_sideAt_16 : decode cX5_sideAt 16 = .ok (.iload_n 0, 1) := by decide +kernel
theorem dX5_sideAt_17 : decode cX5_sideAt 17 = .ok (.if_icmp .gt 50, 3) := by decide +kernel
theorem dX5_sideAt_20 : decode cX5_sideAt 20 = .ok (.iconst 1, 1) := by decide +kernel
theorem dX5_sideAt_21 : decode cX5_sideAt 21 = .ok (.iload 6, 2) := by decide +kernel
theorem dX5_sideAt_23 : decode cX5_sideAt 23 = .ok (.isub, 1) := by decide +kernel
theorem dX5_sideAt_24 : decode cX5_sideAt 24 = .ok (.istore 6, 2) := by decide +kernel
theorem dX5_sideAt_26 : decode cX5_sideAt 26 = .ok (.iload 6, 2) := by decide +kernel
theorem dX5_sideAt_28 : decode cX5_sideAt 28 = .ok (.ifCond .ne 8, 3) := by decide +kernel
theorem dX5_sideAt_31 : decode cX5_sideAt 31 = .ok (.iload 4, 2) := by decide +kernel
theorem dX5_sideAt_33 : decode cX5_sideAt 33 = .ok (.goto 5, 3) := by decide +kernel
theorem dX5_sideAt_36 : decode cX5_sideAt 36 = .ok (.iload 5, 2) := by decide +kernel
theorem dX5_sideAt_38 : decode cX5_sideAt 38 = .ok (.ifCond .ne 9, 3) := by decide +kernel
theorem dX5_sideAt_41 : decode cX5_sideAt 41 = .ok (.iconst 1, 1) := by decide +kernel
theorem dX5_sideAt_42 : decode cX5_sideAt 42 = .ok (.iload 6, 2) := by decide +kernel
theorem dX5_sideAt_44 : decode cX5_sideAt 44 = .ok (.isub, 1) := by decide +kernel
theorem dX5_sideAt_45 : decode cX5_sideAt 45 = .ok (.istore 6, 2) := by decide +kernel
theorem dX5_sideAt_47 : decode cX5_sideAt 47 = .ok (.iload 6, 2) := by decide +kernel
theorem dX5_sideAt_49 : decode cX5_sideAt 49 = .ok (.ifCond .ne 9, 3) := by decide +kernel
theorem dX5_sideAt_52 : decode cX5_sideAt 52 = .ok (.iinc 4 (-1), 3) := by decide +kernel
theorem dX5_sideAt_55 : decode cX5_sideAt 55 = .ok (.goto 6, 3) := by decide +kernel
theorem dX5_sideAt_58 : decode cX5_sideAt 58 = .ok (.iinc 5 (-1), 3) := by decide +kernel
theorem dX5_sideAt_61 : decode cX5_sideAt 61 = .ok (.iinc 7 1, 3) := by decide +kernel
theorem dX5_sideAt_64 : decode cX5_sideAt 64 = .ok (.goto (-50), 3) := by decide +kernel
theorem dX5_sideAt_67 : decode cX5_sideAt 67 = .ok (.iload 6, 2) := by decide +kernel
theorem dX5_sideAt_69 : decode cX5_sideAt 69 = .ok (.ireturn, 1) := by decide +kernel
theorem dX5_lookBack_0 : decode cX5_lookBack 0 = .ok (.aload_n 0, 1) := by decide +kernel
theorem dX5_lookBack_1 : decode cX5_lookBack 1 = .ok (.iload_n 2, 1) := by decide +kernel
theorem dX5_lookBack_2 : decode cX5_lookBack 2 = .ok (.putfield 22, 3) := by decide +kernel
theorem dX5_lookBack_5 : decode cX5_lookBack 5 = .ok (.aload_n 0, 1) := by decide +kernel
theorem dX5_lookBack_6 : decode cX5_lookBack 6 = .ok (.iload_n 3, 1) := by decide +kernel
theorem dX5_lookBack_7 : decode cX5_lookBack 7 = .ok (.iload 4, 2) := by decide +kernel
theorem dX5_lookBack_9 : decode cX5_lookBack 9 = .ok (.iadd, 1) := by decide +kernel
theorem dX5_lookBack_10 : decode cX5_lookBack 10 = .ok (.putfield 26, 3) := by decide +kernel
theorem dX5_lookBack_13 : decode cX5_lookBack 13 = .ok (.aload_n 0, 1) := by decide +kernel
theorem dX5_lookBack_14 : decode cX5_lookBack 14 = .ok (.aload_n 1, 1) := by decide +kernel
theorem dX5_lookBack_15 : decode cX5_lookBack 15 = .ok (.getfield 29, 3) := by decide +kernel
theorem dX5_lookBack_18 : decode cX5_lookBack 18 = .ok (.putfield 34, 3) := by decide +kernel
theorem dX5_lookBack_21 : decode cX5_lookBack 21 = .ok (.iconst 0, 1) := by decide +kernel
theorem dX5_lookBack_22 : decode cX5_lookBack 22 = .ok (.istore 6, 2) := by decide +kernel
theorem dX5_lookBack_24 : decode cX5_lookBack 24 = .ok (.iload 6, 2) := by decide +kernel
theorem dX5_lookBack_26 : decode cX5_lookBack 26 = .ok (.aload_n 0, 1) := by decide +kernel
theorem dX5_lookBack_27 : decode cX5_lookBack 27 = .ok (.getfield 26, 3) := by decide +kernel
theorem dX5_lookBack_30 : decode cX5_lookBack 30 = .ok (.if_icmp .ge 26, 3) := by decide +kernel
theorem dX5_lookBack_33 : decode cX5_lookBack 33 = .ok (.aload_n 0, 1) := by decide +kernel
theorem dX5_lookBack_34 : decode cX5_lookBack 34 = .ok (.getfield 9, 3) := by decide +kernel
theorem dX5_lookBack_37 : decode cX5_lookBack 37 = .ok (.iload 6, 2) := by decide +kernel
theorem dX5_lookBack_39 : decode cX5_lookBack 39 = .ok (.iload 6, 2) := by decide +kernel
theorem dX5_lookBack_41 : decode cX5_lookBack 41 = .ok (.iload_n 3, 1) := by decide +kernel
theorem dX5_lookBack_42 : decode cX5_lookBack 42 = .ok (.iload 4, 2) := by decide +kernel
theorem dX5_lookBack_44 : decode cX5_lookBack 44 = .ok (.iload 5, 2) := by decide +kernel
theorem dX5_lookBack_46 : decode cX5_lookBack 46 = .ok (.invokestatic 35, 3) := by decide +kernel
theorem dX5_lookBack_49 : decode cX5_lookBack 49 = .ok (.iastore, 1) := by decide +kernel
theorem dX5_lookBack_50 : decode cX5_lookBack 50 = .ok (.iinc 6 1, 3) := by decide +kernel
theorem dX5_lookBack_53 : decode cX5_lookBack 53 = .ok (.goto (-29), 3) := by decide +kernel
theorem dX5_lookBack_56 : decode cX5_lookBack 56 = .ok (.aload_n 0, 1) := by decide +kernel
theorem dX5_lookBack_57 : decode cX5_lookBack 57 = .ok (.aload_n 1, 1) := by decide +kernel
theorem dX5_lookBack_58 : decode cX5_lookBack 58 = .ok (.invokevirtual 39, 3) := by decide +kernel
theorem dX5_lookBack_61 : decode cX5_lookBack 61 = .ok (.iconst 1, 1) := by decide +kernel
theorem dX5_lookBack_62 : decode cX5_lookBack 62 = .ok (.istore 6, 2) := by decide +kernel
theorem dX5_lookBack_64 : decode cX5_lookBack 64 = .ok (.iload 6, 2) := by decide +kernel
theorem dX5_lookBack_66 : decode cX5_lookBack 66 = .ok (.aload_n 0, 1) := by decide +kernel
theorem dX5_lookBack_67 : decode cX5_lookBack 67 = .ok (.getfield 22, 3) := by decide +kernel
theorem dX5_lookBack_70 : decode cX5_lookBack 70 = .ok (.if_icmp .gt 47, 3) := by decide +kernel
theorem dX5_lookBack_73 : decode cX5_lookBack 73 = .ok (.iload 6, 2) := by decide +kernel
theorem dX5_lookBack_75 : decode cX5_lookBack 75 = .ok (.aload_n 0, 1) := by decide +kernel
theorem dX5_lookBack_76 : decode cX5_lookBack 76 = .ok (.getfield 22, 3) := by decide +kernel
theorem dX5_lookBack_79 : decode cX5_lookBack 79 = .ok (.iconst (-1), 1) := by decide +kernel
theorem dX5_lookBack_80 : decode cX5_lookBack 80 = .ok (.ixor, 1) := by decide +kernel
theorem dX5_lookBack_81 : decode cX5_lookBack 81 = .ok (.iand, 1) := by decide +kernel
theorem dX5_lookBack_82 : decode cX5_lookBack 82 = .ok (.ifCond .ne 29, 3) := by decide +kernel
theorem dX5_lookBack_85 : decode cX5_lookBack 85 = .ok (.iload 6, 2) := by decide +kernel
theorem dX5_lookBack_87 : decode cX5_lookBack 87 = .ok (.invokestatic 43, 3) := by decide +kernel
theorem dX5_lookBack_90 : decode cX5_lookBack 90 = .ok (.aload_n 0, 1) := by decide +kernel
theorem dX5_lookBack_91 : decode cX5_lookBack 91 = .ok (.getfield 34, 3) := by decide +kernel
theorem dX5_lookBack_94 : decode cX5_lookBack 94 = .ok (.if_icmp .lt 17, 3) := by decide +kernel
theorem dX5_lookBack_97 : decode cX5_lookBack 97 = .ok (.aload_n 0, 1) := by decide +kernel
theorem dX5_lookBack_98 : decode cX5_lookBack 98 = .ok (.getfield 18, 3) := by decide +kernel
theorem dX5_lookBack_101 : decode cX5_lookBack 101 = .ok (.iload 6, 2) := by decide +kernel
theorem dX5_lookBack_103 : decode cX5_lookBack 103 = .ok (.aload_n 0, 1) := by decide +kernel
theorem dX5_lookBack_104 : decode cX5_lookBack 104 = .ok (.aload_n 1, 1) := by decide +kernel
theorem dX5_lookBack_105 : decode cX5_lookBack 105 = .ok (.iload 6, 2) := by decide +kernel
theorem dX5_lookBack_107 : decode cX5_lookBack 107 = .ok (.invokevirtual 49, 3) := by decide +kernel
theorem dX5_lookBack_110 : decode cX5_lookBack 110 = .ok (.lastore, 1) := by decide +kernel
theorem dX5_lookBack_111 : decode cX5_lookBack 111 = .ok (.iinc 6 1, 3) := by decide +kernel
theorem dX5_lookBack_114 : decode cX5_lookBack 114 = .ok (.goto (-50), 3) := by decide +kernel
theorem dX5_lookBack_117 : decode cX5_lookBack 117 = .ok (.return_, 1) := by decide +kernel
theorem dX5_findTwins_0 : decode cX5_findTwins 0 = .ok (.iconst 0, 1) := by decide +kernel
theorem dX5_findTwins_1 : decode cX5_findTwins 1 = .ok (.istore_n 2, 1) := by decide +kernel
theorem dX5_findTwins_2 : decode cX5_findTwins 2 = .ok (.iload_n 2, 1) := by decide +kernel
theorem dX5_findTwins_3 : decode cX5_findTwins 3 = .ok (.bipush 12, 2) := by decide +kernel
theorem dX5_findTwins_5 : decode cX5_findTwins 5 = .ok (.if_icmp .ge 58, 3) := by decide +kernel
theorem dX5_findTwins_8 : decode cX5_findTwins 8 = .ok (.aload_n 0, 1) := by decide +kernel
theorem dX5_findTwins_9 : decode cX5_findTwins 9 = .ok (.getfield 15, 3) := by decide +kernel
theorem dX5_findTwins_12 : decode cX5_findTwins 12 = .ok (.iload_n 2, 1) := by decide +kernel
theorem dX5_findTwins_13 : decode cX5_findTwins 13 = .ok (.iconst 0, 1) := by decide +kernel
theorem dX5_findTwins_14 : decode cX5_findTwins 14 = .ok (.iastore, 1) := by decide +kernel
theorem dX5_findTwins_15 : decode cX5_findTwins 15 = .ok (.iconst 0, 1) := by decide +kernel
theorem dX5_findTwins_16 : decode cX5_findTwins 16 = .ok (.istore_n 3, 1) := by decide +kernel
theorem dX5_findTwins_17 : decode cX5_findTwins 17 = .ok (.iload_n 3, 1) := by decide +kernel
theorem dX5_findTwins_18 : decode cX5_findTwins 18 = .ok (.iload_n 2, 1) := by decide +kernel
theorem dX5_findTwins_19 : decode cX5_findTwins 19 = .ok (.if_icmp .ge 38, 3) := by decide +kernel
theorem dX5_findTwins_22 : decode cX5_findTwins 22 = .ok (.aload_n 0, 1) := by decide +kernel
theorem dX5_findTwins_23 : decode cX5_findTwins 23 = .ok (.getfield 22, 3) := by decide +kernel
theorem dX5_findTwins_26 : decode cX5_findTwins 26 = .ok (.iconst 1, 1) := by decide +kernel
theorem dX5_findTwins_27 : decode cX5_findTwins 27 = .ok (.iload_n 3, 1) := by decide +kernel
theorem dX5_findTwins_28 : decode cX5_findTwins 28 = .ok (.ishl, 1) := by decide +kernel
theorem dX5_findTwins_29 : decode cX5_findTwins 29 = .ok (.iand, 1) := by decide +kernel
theorem dX5_findTwins_30 : decode cX5_findTwins 30 = .ok (.ifCond .eq 21, 3) := by decide +kernel
theorem dX5_findTwins_33 : decode cX5_findTwins 33 = .ok (.aload_n 1, 1) := by decide +kernel
theorem dX5_findTwins_34 : decode cX5_findTwins 34 = .ok (.iload_n 2, 1) := by decide +kernel
theorem dX5_findTwins_35 : decode cX5_findTwins 35 = .ok (.iload_n 3, 1) := by decide +kernel
theorem dX5_findTwins_36 : decode cX5_findTwins 36 = .ok (.invokevirtual 53, 3) := by decide +kernel
theorem dX5_findTwins_39 : decode cX5_findTwins 39 = .ok (.ifCond .eq 12, 3) := by decide +kernel
theorem dX5_findTwins_42 : decode cX5_findTwins 42 = .ok (.aload_n 0, 1) := by decide +kernel
theorem dX5_findTwins_43 : decode cX5_findTwins 43 = .ok (.getfield 15, 3) := by decide +kernel
theorem dX5_findTwins_46 : decode cX5_findTwins 46 = .ok (.iload_n 2, 1) := by decide +kernel
theorem dX5_findTwins_47 : decode cX5_findTwins 47 = .ok (.iconst 1, 1) := by decide +kernel
theorem dX5_findTwins_48 : decode cX5_findTwins 48 = .ok (.iload_n 3, 1) := by decide +kernel
theorem dX5_findTwins_49 : decode cX5_findTwins 49 = .ok (.ishl, 1) := by decide +kernel
theorem dX5_findTwins_50 : decode cX5_findTwins 50 = .ok (.iastore, 1) := by decide +kernel
theorem dX5_findTwins_51 : decode cX5_findTwins 51 = .ok (.iinc 3 1, 3) := by decide +kernel
theorem dX5_findTwins_54 : decode cX5_findTwins 54 = .ok (.goto (-37), 3) := by decide +kernel
theorem dX5_findTwins_57 : decode cX5_findTwins 57 = .ok (.iinc 2 1, 3) := by decide +kernel
theorem dX5_findTwins_60 : decode cX5_findTwins 60 = .ok (.goto (-58), 3) := by decide +kernel
theorem dX5_findTwins_63 : decode cX5_findTwins 63 = .ok (.return_, 1) := by decide +kernel
theorem dX5_worthOf_0 : decode cX5_worthOf 0 = .ok (.aload_n 0, 1) := by decide +kernel
theorem dX5_worthOf_1 : decode cX5_worthOf 1 = .ok (.iload_n 2, 1) := by decide +kernel
theorem dX5_worthOf_2 : decode cX5_worthOf 2 = .ok (.invokevirtual 57, 3) := by decide +kernel
theorem dX5_worthOf_5 : decode cX5_worthOf 5 = .ok (.istore_n 3, 1) := by decide +kernel
theorem dX5_worthOf_6 : decode cX5_worthOf 6 = .ok (.iload_n 3, 1) := by decide +kernel
theorem dX5_worthOf_7 : decode cX5_worthOf 7 = .ok (.iload_n 2, 1) := by decide +kernel
theorem dX5_worthOf_8 : decode cX5_worthOf 8 = .ok (.if_icmp .eq 10, 3) := by decide +kernel
theorem dX5_worthOf_11 : decode cX5_worthOf 11 = .ok (.aload_n 0, 1) := by decide +kernel
theorem dX5_worthOf_12 : decode cX5_worthOf 12 = .ok (.getfield 18, 3) := by decide +kernel
theorem dX5_worthOf_15 : decode cX5_worthOf 15 = .ok (.iload_n 3, 1) := by decide +kernel
theorem dX5_worthOf_16 : decode cX5_worthOf 16 = .ok (.laload, 1) := by decide +kernel
theorem dX5_worthOf_17 : decode cX5_worthOf 17 = .ok (.lreturn, 1) := by decide +kernel
theorem dX5_worthOf_18 : decode cX5_worthOf 18 = .ok (.iload_n 2, 1) := by decide +kernel
theorem dX5_worthOf_19 : decode cX5_worthOf 19 = .ok (.invokestatic 43, 3) := by decide +kernel
theorem dX5_worthOf_22 : decode cX5_worthOf 22 = .ok (.istore 4, 2) := by decide +kernel
theorem dX5_worthOf_24 : decode cX5_worthOf 24 = .ok (.iload 4, 2) := by decide +kernel
theorem dX5_worthOf_26 : decode cX5_worthOf 26 = .ok (.aload_n 0, 1) := by decide +kernel
theorem dX5_worthOf_27 : decode cX5_worthOf 27 = .ok (.getfield 34, 3) := by decide +kernel
theorem dX5_worthOf_30 : decode cX5_worthOf 30 = .ok (.if_icmp .ne 11, 3) := by decide +kernel
theorem dX5_worthOf_33 : decode cX5_worthOf 33 = .ok (.aload_n 1, 1) := by decide +kernel
theorem dX5_worthOf_34 : decode cX5_worthOf 34 = .ok (.iload_n 2, 1) := by decide +kernel
theorem dX5_worthOf_35 : decode cX5_worthOf 35 = .ok (.invokevirtual 60, 3) := by decide +kernel
theorem dX5_worthOf_38 : decode cX5_worthOf 38 = .ok (.goto 25, 3) := by decide +kernel
theorem dX5_worthOf_41 : decode cX5_worthOf 41 = .ok (.aload_n 0, 1) := by decide +kernel
theorem dX5_worthOf_42 : decode cX5_worthOf 42 = .ok (.iload_n 2, 1) := by decide +kernel
theorem dX5_worthOf_43 : decode cX5_worthOf 43 = .ok (.aload_n 0, 1) := by decide +kernel
theorem dX5_worthOf_44 : decode cX5_worthOf 44 = .ok (.getfield 9, 3) := by decide +kernel
theorem dX5_worthOf_47 : decode cX5_worthOf 47 = .ok (.aload_n 0, 1) := by decide +kernel
theorem dX5_worthOf_48 : decode cX5_worthOf 48 = .ok (.getfield 34, 3) := by decide +kernel
theorem dX5_worthOf_51 : decode cX5_worthOf 51 = .ok (.aload_n 0, 1) := by decide +kernel
theorem dX5_worthOf_52 : decode cX5_worthOf 52 = .ok (.getfield 26, 3) := by decide +kernel
theorem dX5_worthOf_55 : decode cX5_worthOf 55 = .ok (.iadd, 1) := by decide +kernel
theorem dX5_worthOf_56 : decode cX5_worthOf 56 = .ok (.iload 4, 2) := by decide +kernel
theorem dX5_worthOf_58 : decode cX5_worthOf 58 = .ok (.isub, 1) := by decide +kernel
theorem dX5_worthOf_59 : decode cX5_worthOf 59 = .ok (.iaload, 1) := by decide +kernel
theorem dX5_worthOf_60 : decode cX5_worthOf 60 = .ok (.invokevirtual 64, 3) := by decide +kernel
theorem dX5_worthOf_63 : decode cX5_worthOf 63 = .ok (.lreturn, 1) := by decide +kernel
theorem dX5_lesserLike_0 : decode cX5_lesserLike 0 = .ok (.iconst 1, 1) := by decide +kernel
theorem dX5_lesserLike_1 : decode cX5_lesserLike 1 = .ok (.istore_n 2, 1) := by decide +kernel
theorem dX5_lesserLike_2 : decode cX5_lesserLike 2 = .ok (.iload_n 2, 1) := by decide +kernel
theorem dX5_lesserLike_3 : decode cX5_lesserLike 3 = .ok (.bipush 12, 2) := by decide +kernel
theorem dX5_lesserLike_5 : decode cX5_lesserLike 5 = .ok (.if_icmp .ge 42, 3) := by decide +kernel
theorem dX5_lesserLike_8 : decode cX5_lesserLike 8 = .ok (.aload_n 0, 1) := by decide +kernel
theorem dX5_lesserLike_9 : decode cX5_lesserLike 9 = .ok (.getfield 15, 3) := by decide +kernel
theorem dX5_lesserLike_12 : decode cX5_lesserLike 12 = .ok (.iload_n 2, 1) := by decide +kernel
theorem dX5_lesserLike_13 : decode cX5_lesserLike 13 = .ok (.iaload, 1) := by decide +kernel
theorem dX5_lesserLike_14 : decode cX5_lesserLike 14 = .ok (.istore_n 3, 1) := by decide +kernel
theorem dX5_lesserLike_15 : decode cX5_lesserLike 15 = .ok (.iload_n 1, 1) := by decide +kernel
theorem dX5_lesserLike_16 : decode cX5_lesserLike 16 = .ok (.iconst 1, 1) := by decide +kernel
theorem dX5_lesserLike_17 : decode cX5_lesserLike 17 = .ok (.iload_n 2, 1) := by decide +kernel
theorem dX5_lesserLike_18 : decode cX5_lesserLike 18 = .ok (.ishl, 1) := by decide +kernel
theorem dX5_lesserLike_19 : decode cX5_lesserLike 19 = .ok (.iand, 1) := by decide +kernel
theorem dX5_lesserLike_20 : decode cX5_lesserLike 20 = .ok (.ifCond .eq 21, 3) := by decide +kernel
theorem dX5_lesserLike_23 : decode cX5_lesserLike 23 = .ok (.iload_n 3, 1) := by decide +kernel
theorem dX5_lesserLike_24 : decode cX5_lesserLike 24 = .ok (.ifCond .eq 17, 3) := by decide +kernel
theorem dX5_lesserLike_27 : decode cX5_lesserLike 27 = .ok (.iload_n 1, 1) := by decide +kernel
theorem dX5_lesserLike_28 : decode cX5_lesserLike 28 = .ok (.iload_n 3, 1) := by decide +kernel
theorem dX5_lesserLike_29 : decode cX5_lesserLike 29 = .ok (.iand, 1) := by decide +kernel
theorem dX5_lesserLike_30 : decode cX5_lesserLike 30 = .ok (.ifCond .ne 11, 3) := by decide +kernel
theorem dX5_lesserLike_33 : decode cX5_lesserLike 33 = .ok (.iload_n 1, 1) := by decide +kernel
theorem dX5_lesserLike_34 : decode cX5_lesserLike 34 = .ok (.iconst 1, 1) := by decide +kernel
theorem dX5_lesserLike_35 : decode cX5_lesserLike 35 = .ok (.iload_n 2, 1) := by decide +kernel
theorem dX5_lesserLike_36 : decode cX5_lesserLike 36 = .ok (.ishl, 1) := by decide +kernel
theorem dX5_lesserLike_37 : decode cX5_lesserLike 37 = .ok (.ixor, 1) := by decide +kernel
theorem dX5_lesserLike_38 : decode cX5_lesserLike 38 = .ok (.iload_n 3, 1) := by decide +kernel
theorem dX5_lesserLike_39 : decode cX5_lesserLike 39 = .ok (.ixor, 1) := by decide +kernel
theorem dX5_lesserLike_40 : decode cX5_lesserLike 40 = .ok (.ireturn, 1) := by decide +kernel
theorem dX5_lesserLike_41 : decode cX5_lesserLike 41 = .ok (.iinc 2 1, 3) := by decide +kernel
theorem dX5_lesserLike_44 : decode cX5_lesserLike 44 = .ok (.goto (-42), 3) := by decide +kernel
theorem dX5_lesserLike_47 : decode cX5_lesserLike 47 = .ok (.iload_n 1, 1) := by decide +kernel
theorem dX5_lesserLike_48 : decode cX5_lesserLike 48 = .ok (.ireturn, 1) := by decide +kernel
theorem dX5_valueAfterBest_0 : decode cX5_valueAfterBest 0 = .ok (.iload_n 2, 1) := by decide +kernel
theorem dX5_valueAfterBest_1 : decode cX5_valueAfterBest 1 = .ok (.ifCond .ne 9, 3) := by decide +kernel
theorem dX5_valueAfterBest_4 : decode cX5_valueAfterBest 4 = .ok (.ldc2_w 68, 3) := by decide +kernel
theorem dX5_valueAfterBest_7 : decode cX5_valueAfterBest 7 = .ok (.goto 6, 3) := by decide +kernel
theorem dX5_valueAfterBest_10 : decode cX5_valueAfterBest 10 = .ok (.ldc2_w 70, 3) := by decide +kernel
theorem dX5_valueAfterBest_13 : decode cX5_valueAfterBest 13 = .ok (.lstore_n 3, 1) := by decide +kernel
theorem dX5_valueAfterBest_14 : decode cX5_valueAfterBest 14 = .ok (.iconst 1, 1) := by decide +kernel
theorem dX5_valueAfterBest_15 : decode cX5_valueAfterBest 15 = .ok (.istore 5, 2) := by decide +kernel
theorem dX5_valueAfterBest_17 : decode cX5_valueAfterBest 17 = .ok (.iload 5, 2) := by decide +kernel
theorem dX5_valueAfterBest_19 : decode cX5_valueAfterBest 19 = .ok (.sipush 4096, 3) := by decide +kernel
theorem dX5_valueAfterBest_22 : decode cX5_valueAfterBest 22 = .ok (.if_icmp .ge 50, 3) := by decide +kernel
theorem dX5_valueAfterBest_25 : decode cX5_valueAfterBest 25 = .ok (.iload_n 1, 1) := by decide +kernel
theorem dX5_valueAfterBest_26 : decode cX5_valueAfterBest 26 = .ok (.iload 5, 2) := by decide +kernel
theorem dX5_valueAfterBest_28 : decode cX5_valueAfterBest 28 = .ok (.iand, 1) := by decide +kernel
theorem dX5_valueAfterBest_29 : decode cX5_valueAfterBest 29 = .ok (.ifCond .eq 34, 3) := by decide +kernel
theorem dX5_valueAfterBest_32 : decode cX5_valueAfterBest 32 = .ok (.aload_n 0, 1) := by decide +kernel
theorem dX5_valueAfterBest_33 : decode cX5_valueAfterBest 33 = .ok (.getfield 18, 3) := by decide +kernel
theorem dX5_valueAfterBest_36 : decode cX5_valueAfterBest 36 = .ok (.iload_n 1, 1) := by decide +kernel
theorem dX5_valueAfterBest_37 : decode cX5_valueAfterBest 37 = .ok (.iload 5, 2) := by decide +kernel
theorem dX5_valueAfterBest_39 : decode cX5_valueAfterBest 39 = .ok (.ixor, 1) := by decide +kernel
theorem dX5_valueAfterBest_40 : decode cX5_valueAfterBest 40 = .ok (.laload, 1) := by decide +kernel
theorem dX5_valueAfterBest_41 : decode cX5_valueAfterBest 41 = .ok (.lstore 6, 2) := by decide +kernel
theorem dX5_valueAfterBest_43 : decode cX5_valueAfterBest 43 = .ok (.iload_n 2, 1) := by decide +kernel
theorem dX5_valueAfterBest_44 : decode cX5_valueAfterBest 44 = .ok (.ifCond .ne 12, 3) := by decide +kernel
theorem dX5_valueAfterBest_47 : decode cX5_valueAfterBest 47 = .ok (.lload_n 3, 1) := by decide +kernel
theorem dX5_valueAfterBest_48 : decode cX5_valueAfterBest 48 = .ok (.lload 6, 2) := by decide +kernel
theorem dX5_valueAfterBest_50 : decode cX5_valueAfterBest 50 = .ok (.invokestatic 72, 3) := by decide +kernel
theorem dX5_valueAfterBest_53 : decode cX5_valueAfterBest 53 = .ok (.goto 9, 3) := by decide +kernel
theorem dX5_valueAfterBest_56 : decode cX5_valueAfterBest 56 = .ok (.lload_n 3, 1) := by decide +kernel
theorem dX5_valueAfterBest_57 : decode cX5_valueAfterBest 57 = .ok (.lload 6, 2) := by decide +kernel
theorem dX5_valueAfterBest_59 : decode cX5_valueAfterBest 59 = .ok (.invokestatic 78, 3) := by decide +kernel
theorem dX5_valueAfterBest_62 : decode cX5_valueAfterBest 62 = .ok (.lstore_n 3, 1) := by decide +kernel
theorem dX5_valueAfterBest_63 : decode cX5_valueAfterBest 63 = .ok (.iload 5, 2) := by decide +kernel
theorem dX5_valueAfterBest_65 : decode cX5_valueAfterBest 65 = .ok (.iconst 1, 1) := by decide +kernel
theorem dX5_valueAfterBest_66 : decode cX5_valueAfterBest 66 = .ok (.ishl, 1) := by decide +kernel
theorem dX5_valueAfterBest_67 : decode cX5_valueAfterBest 67 = .ok (.istore 5, 2) := by decide +kernel
theorem dX5_valueAfterBest_69 : decode cX5_valueAfterBest 69 = .ok (.goto (-52), 3) := by decide +kernel
theorem dX5_valueAfterBest_72 : decode cX5_valueAfterBest 72 = .ok (.lload_n 3, 1) := by decide +kernel
theorem dX5_valueAfterBest_73 : decode cX5_valueAfterBest 73 = .ok (.lreturn, 1) := by decide +kernel
theorem dX5_valueOf_0 : decode cX5_valueOf 0 = .ok (.aload_n 0, 1) := by decide +kernel
theorem dX5_valueOf_1 : decode cX5_valueOf 1 = .ok (.getfield 18, 3) := by decide +kernel
theorem dX5_valueOf_4 : decode cX5_valueOf 4 = .ok (.iload_n 1, 1) := by decide +kernel
theorem dX5_valueOf_5 : decode cX5_valueOf 5 = .ok (.laload, 1) := by decide +kernel
theorem dX5_valueOf_6 : decode cX5_valueOf 6 = .ok (.lreturn, 1) := by decide +kernel
theorem dX5_strikeFrom_0 : decode cX5_strikeFrom 0 = .ok (.iload_n 1, 1) := by decide +kernel
theorem dX5_strikeFrom_1 : decode cX5_strikeFrom 1 = .ok (.invokestatic 43, 3) := by decide +kernel
theorem dX5_strikeFrom_4 : decode cX5_strikeFrom 4 = .ok (.aload_n 0, 1) := by decide +kernel
theorem dX5_strikeFrom_5 : decode cX5_strikeFrom 5 = .ok (.getfield 34, 3) := by decide +kernel
theorem dX5_strikeFrom_8 : decode cX5_strikeFrom 8 = .ok (.if_icmp .gt 6, 3) := by decide +kernel
theorem dX5_strikeFrom_11 : decode cX5_strikeFrom 11 = .ok (.bipush (-9), 2) := by decide +kernel
theorem dX5_strikeFrom_13 : decode cX5_strikeFrom 13 = .ok (.ireturn, 1) := by decide +kernel
theorem dX5_strikeFrom_14 : decode cX5_strikeFrom 14 = .ok (.iconst 0, 1) := by decide +kernel
theorem dX5_strikeFrom_15 : decode cX5_strikeFrom 15 = .ok (.istore_n 2, 1) := by decide +kernel
theorem dX5_strikeFrom_16 : decode cX5_strikeFrom 16 = .ok (.iload_n 2, 1) := by decide +kernel
theorem dX5_strikeFrom_17 : decode cX5_strikeFrom 17 = .ok (.bipush 12, 2) := by decide +kernel
theorem dX5_strikeFrom_19 : decode cX5_strikeFrom 19 = .ok (.if_icmp .ge 39, 3) := by decide +kernel
theorem dX5_strikeFrom_22 : decode cX5_strikeFrom 22 = .ok (.iconst 1, 1) := by decide +kernel
theorem dX5_strikeFrom_23 : decode cX5_strikeFrom 23 = .ok (.iload_n 2, 1) := by decide +kernel
theorem dX5_strikeFrom_24 : decode cX5_strikeFrom 24 = .ok (.ishl, 1) := by decide +kernel
theorem dX5_strikeFrom_25 : decode cX5_strikeFrom 25 = .ok (.istore_n 3, 1) := by decide +kernel
theorem dX5_strikeFrom_26 : decode cX5_strikeFrom 26 = .ok (.iload_n 1, 1) := by decide +kernel
theorem dX5_strikeFrom_27 : decode cX5_strikeFrom 27 = .ok (.iload_n 3, 1) := by decide +kernel
theorem dX5_strikeFrom_28 : decode cX5_strikeFrom 28 = .ok (.iand, 1) := by decide +kernel
theorem dX5_strikeFrom_29 : decode cX5_strikeFrom 29 = .ok (.ifCond .eq 23, 3) := by decide +kernel
theorem dX5_strikeFrom_32 : decode cX5_strikeFrom 32 = .ok (.aload_n 0, 1) := by decide +kernel
theorem dX5_strikeFrom_33 : decode cX5_strikeFrom 33 = .ok (.getfield 18, 3) := by decide +kernel
theorem dX5_strikeFrom_36 : decode cX5_strikeFrom 36 = .ok (.iload_n 1, 1) := by decide +kernel
theorem dX5_strikeFrom_37 : decode cX5_strikeFrom 37 = .ok (.iload_n 3, 1) := by decide +kernel
theorem dX5_strikeFrom_38 : decode cX5_strikeFrom 38 = .ok (.ixor, 1) := by decide +kernel
theorem dX5_strikeFrom_39 : decode cX5_strikeFrom 39 = .ok (.laload, 1) := by decide +kernel
theorem dX5_strikeFrom_40 : decode cX5_strikeFrom 40 = .ok (.aload_n 0, 1) := by decide +kernel
theorem dX5_strikeFrom_41 : decode cX5_strikeFrom 41 = .ok (.getfield 18, 3) := by decide +kernel
theorem dX5_strikeFrom_44 : decode cX5_strikeFrom 44 = .ok (.iload_n 1, 1) := by decide +kernel
theorem dX5_strikeFrom_45 : decode cX5_strikeFrom 45 = .ok (.laload, 1) := by decide +kernel
theorem dX5_strikeFrom_46 : decode cX5_strikeFrom 46 = .ok (.lcmp, 1) := by decide +kernel
theorem dX5_strikeFrom_47 : decode cX5_strikeFrom 47 = .ok (.ifCond .ne 5, 3) := by decide +kernel
theorem dX5_strikeFrom_50 : decode cX5_strikeFrom 50 = .ok (.iload_n 2, 1) := by decide +kernel
theorem dX5_strikeFrom_51 : decode cX5_strikeFrom 51 = .ok (.ireturn, 1) := by decide +kernel
theorem dX5_strikeFrom_52 : decode cX5_strikeFrom 52 = .ok (.iinc 2 1, 3) := by decide +kernel
theorem dX5_strikeFrom_55 : decode cX5_strikeFrom 55 = .ok (.goto (-39), 3) := by decide +kernel
theorem dX5_strikeFrom_58 : decode cX5_strikeFrom 58 = .ok (.bipush (-9), 2) := by decide +kernel
theorem dX5_strikeFrom_60 : decode cX5_strikeFrom 60 = .ok (.ireturn, 1) := by decide +kernel
theorem dX5_juryAtLast_0 : decode cX5_juryAtLast 0 = .ok (.aload_n 0, 1) := by decide +kernel
theorem dX5_juryAtLast_1 : decode cX5_juryAtLast 1 = .ok (.getfield 22, 3) := by decide +kernel
theorem dX5_juryAtLast_4 : decode cX5_juryAtLast 4 = .ok (.istore_n 1, 1) := by decide +kernel
theorem dX5_juryAtLast_5 : decode cX5_juryAtLast 5 = .ok (.iconst 0, 1) := by decide +kernel
theorem dX5_juryAtLast_6 : decode cX5_juryAtLast 6 = .ok (.istore_n 2, 1) := by decide +kernel
theorem dX5_juryAtLast_7 : decode cX5_juryAtLast 7 = .ok (.iload_n 2, 1) := by decide +kernel
theorem dX5_juryAtLast_8 : decode cX5_juryAtLast 8 = .ok (.aload_n 0, 1) := by decide +kernel
theorem dX5_juryAtLast_9 : decode cX5_juryAtLast 9 = .ok (.getfield 26, 3) := by decide +kernel
theorem dX5_juryAtLast_12 : decode cX5_juryAtLast 12 = .ok (.if_icmp .ge 21, 3) := by decide +kernel
theorem dX5_juryAtLast_15 : decode cX5_juryAtLast 15 = .ok (.iload_n 1, 1) := by decide +kernel
theorem dX5_juryAtLast_16 : decode cX5_juryAtLast 16 = .ok (.iconst 1, 1) := by decide +kernel
theorem dX5_juryAtLast_17 : decode cX5_juryAtLast 17 = .ok (.aload_n 0, 1) := by decide +kernel
theorem dX5_juryAtLast_18 : decode cX5_juryAtLast 18 = .ok (.iload_n 1, 1) := by decide +kernel
theorem dX5_juryAtLast_19 : decode cX5_juryAtLast 19 = .ok (.invokevirtual 81, 3) := by decide +kernel
theorem dX5_juryAtLast_22 : decode cX5_juryAtLast 22 = .ok (.ishl, 1) := by decide +kernel
theorem dX5_juryAtLast_23 : decode cX5_juryAtLast 23 = .ok (.iconst (-1), 1) := by decide +kernel
theorem dX5_juryAtLast_24 : decode cX5_juryAtLast 24 = .ok (.ixor, 1) := by decide +kernel
theorem dX5_juryAtLast_25 : decode cX5_juryAtLast 25 = .ok (.iand, 1) := by decide +kernel
theorem dX5_juryAtLast_26 : decode cX5_juryAtLast 26 = .ok (.istore_n 1, 1) := by decide +kernel
theorem dX5_juryAtLast_27 : decode cX5_juryAtLast 27 = .ok (.iinc 2 1, 3) := by decide +kernel
theorem dX5_juryAtLast_30 : decode cX5_juryAtLast 30 = .ok (.goto (-23), 3) := by decide +kernel
theorem dX5_juryAtLast_33 : decode cX5_juryAtLast 33 = .ok (.iload_n 1, 1) := by decide +kernel
theorem dX5_juryAtLast_34 : decode cX5_juryAtLast 34 = .ok (.ireturn, 1) := by decide +kernel
theorem dJ6_bitCount_0f7a4_0 : decode cJ6_bitCount_0f7a4 0 = .ok (.iload_n 0, 1) := by decide +kernel
theorem dJ6_bitCount_0f7a4_1 : decode cJ6_bitCount_0f7a4 1 = .ok (.iload_n 0, 1) := by decide +kernel
theorem dJ6_bitCount_0f7a4_2 : decode cJ6_bitCount_0f7a4 2 = .ok (.iconst 1, 1) := by decide +kernel
theorem dJ6_bitCount_0f7a4_3 : decode cJ6_bitCount_0f7a4 3 = .ok (.iushr, 1) := by decide +kernel
theorem dJ6_bitCount_0f7a4_4 : decode cJ6_bitCount_0f7a4 4 = .ok (.ldc_w 265, 3) := by decide +kernel
theorem dJ6_bitCount_0f7a4_7 : decode cJ6_bitCount_0f7a4 7 = .ok (.iand, 1) := by decide +kernel
theorem dJ6_bitCount_0f7a4_8 : decode cJ6_bitCount_0f7a4 8 = .ok (.isub, 1) := by decide +kernel
theorem dJ6_bitCount_0f7a4_9 : decode cJ6_bitCount_0f7a4 9 = .ok (.istore_n 0, 1) := by decide +kernel
theorem dJ6_bitCount_0f7a4_10 : decode cJ6_bitCount_0f7a4 10 = .ok (.iload_n 0, 1) := by decide +kernel
theorem dJ6_bitCount_0f7a4_11 : decode cJ6_bitCount_0f7a4 11 = .ok (.ldc_w 266, 3) := by decide +kernel
theorem dJ6_bitCount_0f7a4_14 : decode cJ6_bitCount_0f7a4 14 = .ok (.iand, 1) := by decide +kernel
theorem dJ6_bitCount_0f7a4_15 : decode cJ6_bitCount_0f7a4 15 = .ok (.iload_n 0, 1) := by decide +kernel
theorem dJ6_bitCount_0f7a4_16 : decode cJ6_bitCount_0f7a4 16 = .ok (.iconst 2, 1) := by decide +kernel
theorem dJ6_bitCount_0f7a4_17 : decode cJ6_bitCount_0f7a4 17 = .ok (.iushr, 1) := by decide +kernel
theorem dJ6_bitCount_0f7a4_18 : decode cJ6_bitCount_0f7a4 18 = .ok (.ldc_w 266, 3) := by decide +kernel
theorem dJ6_bitCount_0f7a4_21 : decode cJ6_bitCount_0f7a4 21 = .ok (.iand, 1) := by decide +kernel
theorem dJ6_bitCount_0f7a4_22 : decode cJ6_bitCount_0f7a4 22 = .ok (.iadd, 1) := by decide +kernel
theorem dJ6_bitCount_0f7a4_23 : decode cJ6_bitCount_0f7a4 23 = .ok (.istore_n 0, 1) := by decide +kernel
theorem dJ6_bitCount_0f7a4_24 : decode cJ6_bitCount_0f7a4 24 = .ok (.iload_n 0, 1) := by decide +kernel
theorem dJ6_bitCount_0f7a4_25 : decode cJ6_bitCount_0f7a4 25 = .ok (.iload_n 0, 1) := by decide +kernel
theorem dJ6_bitCount_0f7a4_26 : decode cJ6_bitCount_0f7a4 26 = .ok (.iconst 4, 1) := by decide +kernel
theorem dJ6_bitCount_0f7a4_27 : decode cJ6_bitCount_0f7a4 27 = .ok (.iushr, 1) := by decide +kernel
theorem dJ6_bitCount_0f7a4_28 : decode cJ6_bitCount_0f7a4 28 = .ok (.iadd, 1) := by decide +kernel
theorem dJ6_bitCount_0f7a4_29 : decode cJ6_bitCount_0f7a4 29 = .ok (.ldc_w 267, 3) := by decide +kernel
theorem dJ6_bitCount_0f7a4_32 : decode cJ6_bitCount_0f7a4 32 = .ok (.iand, 1) := by decide +kernel
theorem dJ6_bitCount_0f7a4_33 : decode cJ6_bitCount_0f7a4 33 = .ok (.istore_n 0, 1) := by decide +kernel
theorem dJ6_bitCount_0f7a4_34 : decode cJ6_bitCount_0f7a4 34 = .ok (.iload_n 0, 1) := by decide +kernel
theorem dJ6_bitCount_0f7a4_35 : decode cJ6_bitCount_0f7a4 35 = .ok (.iload_n 0, 1) := by decide +kernel
theorem dJ6_bitCount_0f7a4_36 : decode cJ6_bitCount_0f7a4 36 = .ok (.bipush 8, 2) := by decide +kernel
theorem dJ6_bitCount_0f7a4_38 : decode cJ6_bitCount_0f7a4 38 = .ok (.iushr, 1) := by decide +kernel
theorem dJ6_bitCount_0f7a4_39 : decode cJ6_bitCount_0f7a4 39 = .ok (.iadd, 1) := by decide +kernel
theorem dJ6_bitCount_0f7a4_40 : decode cJ6_bitCount_0f7a4 40 = .ok (.istore_n 0, 1) := by decide +kernel
theorem dJ6_bitCount_0f7a4_41 : decode cJ6_bitCount_0f7a4 41 = .ok (.iload_n 0, 1) := by decide +kernel
theorem dJ6_bitCount_0f7a4_42 : decode cJ6_bitCount_0f7a4 42 = .ok (.iload_n 0, 1) := by decide +kernel
theorem dJ6_bitCount_0f7a4_43 : decode cJ6_bitCount_0f7a4 43 = .ok (.bipush 16, 2) := by decide +kernel
theorem dJ6_bitCount_0f7a4_45 : decode cJ6_bitCount_0f7a4 45 = .ok (.iushr, 1) := by decide +kernel
theorem dJ6_bitCount_0f7a4_46 : decode cJ6_bitCount_0f7a4 46 = .ok (.iadd, 1) := by decide +kernel
theorem dJ6_bitCount_0f7a4_47 : decode cJ6_bitCount_0f7a4 47 = .ok (.istore_n 0, 1) := by decide +kernel
theorem dJ6_bitCount_0f7a4_48 : decode cJ6_bitCount_0f7a4 48 = .ok (.iload_n 0, 1) := by decide +kernel
theorem dJ6_bitCount_0f7a4_49 : decode cJ6_bitCount_0f7a4 49 = .ok (.bipush 63, 2) := by decide +kernel
theorem dJ6_bitCount_0f7a4_51 : decode cJ6_bitCount_0f7a4 51 = .ok (.iand, 1) := by decide +kernel
theorem dJ6_bitCount_0f7a4_52 : decode cJ6_bitCount_0f7a4 52 = .ok (.ireturn, 1) := by decide +kernel
theorem dJ9_abs_067f4_0 : decode cJ9_abs_067f4 0 = .ok (.lload_n 0, 1) := by decide +kernel
theorem dJ9_abs_067f4_1 : decode cJ9_abs_067f4 1 = .ok (.lconst 0, 1) := by decide +kernel
theorem dJ9_abs_067f4_2 : decode cJ9_abs_067f4 2 = .ok (.lcmp, 1) := by decide +kernel
theorem dJ9_abs_067f4_3 : decode cJ9_abs_067f4 3 = .ok (.ifCond .ge 8, 3) := by decide +kernel
theorem dJ9_abs_067f4_6 : decode cJ9_abs_067f4 6 = .ok (.lload_n 0, 1) := by decide +kernel
theorem dJ9_abs_067f4_7 : decode cJ9_abs_067f4 7 = .ok (.lneg, 1) := by decide +kernel
theorem dJ9_abs_067f4_8 : decode cJ9_abs_067f4 8 = .ok (.goto 4, 3) := by decide +kernel
theorem dJ9_abs_067f4_11 : decode cJ9_abs_067f4 11 = .ok (.lload_n 0, 1) := by decide +kernel
theorem dJ9_abs_067f4_12 : decode cJ9_abs_067f4 12 = .ok (.lreturn, 1) := by decide +kernel
theorem dJ9_max_7cf53_0 : decode cJ9_max_7cf53 0 = .ok (.iload_n 0, 1) := by decide +kernel
theorem dJ9_max_7cf53_1 : decode cJ9_max_7cf53 1 = .ok (.iload_n 1, 1) := by decide +kernel
theorem dJ9_max_7cf53_2 : decode cJ9_max_7cf53 2 = .ok (.if_icmp .lt 7, 3) := by decide +kernel
theorem dJ9_max_7cf53_5 : decode cJ9_max_7cf53 5 = .ok (.iload_n 0, 1) := by decide +kernel
theorem dJ9_max_7cf53_6 : decode cJ9_max_7cf53 6 = .ok (.goto 4, 3) := by decide +kernel
theorem dJ9_max_7cf53_9 : decode cJ9_max_7cf53 9 = .ok (.iload_n 1, 1) := by decide +kernel
theorem dJ9_max_7cf53_10 : decode cJ9_max_7cf53 10 = .ok (.ireturn, 1) := by decide +kernel
theorem dJ9_max_f86c9_0 : decode cJ9_max_f86c9 0 = .ok (.lload_n 0, 1) := by decide +kernel
theorem dJ9_max_f86c9_1 : decode cJ9_max_f86c9 1 = .ok (.lload_n 2, 1) := by decide +kernel
theorem dJ9_max_f86c9_2 : decode cJ9_max_f86c9 2 = .ok (.lcmp, 1) := by decide +kernel
theorem dJ9_max_f86c9_3 : decode cJ9_max_f86c9 3 = .ok (.ifCond .lt 7, 3) := by decide +kernel
theorem dJ9_max_f86c9_6 : decode cJ9_max_f86c9 6 = .ok (.lload_n 0, 1) := by decide +kernel
theorem dJ9_max_f86c9_7 : decode cJ9_max_f86c9 7 = .ok (.goto 4, 3) := by decide +kernel
theorem dJ9_max_f86c9_10 : decode cJ9_max_f86c9 10 = .ok (.lload_n 2, 1) := by decide +kernel
theorem dJ9_max_f86c9_11 : decode cJ9_max_f86c9 11 = .ok (.lreturn, 1) := by decide +kernel
theorem dJ9_min_7cf53_0 : decode cJ9_min_7cf53 0 = .ok (.iload_n 0, 1) := by decide +kernel
theorem dJ9_min_7cf53_1 : decode cJ9_min_7cf53 1 = .ok (.iload_n 1, 1) := by decide +kernel
theorem dJ9_min_7cf53_2 : decode cJ9_min_7cf53 2 = .ok (.if_icmp .gt 7, 3) := by decide +kernel
theorem dJ9_min_7cf53_5 : decode cJ9_min_7cf53 5 = .ok (.iload_n 0, 1) := by decide +kernel
theorem dJ9_min_7cf53_6 : decode cJ9_min_7cf53 6 = .ok (.goto 4, 3) := by decide +kernel
theorem dJ9_min_7cf53_9 : decode cJ9_min_7cf53 9 = .ok (.iload_n 1, 1) := by decide +kernel
theorem dJ9_min_7cf53_10 : decode cJ9_min_7cf53 10 = .ok (.ireturn, 1) := by decide +kernel
theorem dJ9_min_f86c9_0 : decode cJ9_min_f86c9 0 = .ok (.lload_n 0, 1) := by decide +kernel
theorem dJ9_min_f86c9_1 : decode cJ9_min_f86c9 1 = .ok (.lload_n 2, 1) := by decide +kernel
theorem dJ9_min_f86c9_2 : decode cJ9_min_f86c9 2 = .ok (.lcmp, 1) := by decide +kernel
theorem dJ9_min_f86c9_3 : decode cJ9_min_f86c9 3 = .ok (.ifCond .gt 7, 3) := by decide +kernel
theorem dJ9_min_f86c9_6 : decode cJ9_min_f86c9 6 = .ok (.lload_n 0, 1) := by decide +kernel
theorem dJ9_min_f86c9_7 : decode cJ9_min_f86c9 7 = .ok (.goto 4, 3) := by decide +kernel
theorem dJ9_min_f86c9_10 : decode cJ9_min_f86c9 10 = .ok (.lload_n 2, 1) := by decide +kernel
theorem dJ9_min_f86c9_11 : decode cJ9_min_f86c9 11 = .ok (.lreturn, 1) := by decide +kernel
