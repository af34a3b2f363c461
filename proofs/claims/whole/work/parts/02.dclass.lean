theorem dX0_init_0 : decode cX0_init 0 = .ok (.aload_n 0, 1) := by decide +kernel
theorem dX0_init_1 : decode cX0_init 1 = .ok (.invokespecial 3, 3) := by decide +kernel
theorem dX0_init_4 : decode cX0_init 4 = .ok (.aload_n 0, 1) := by decide +kernel
theorem dX0_init_5 : decode cX0_init 5 = .ok (.sipush 203, 3) := by decide +kernel
theorem dX0_init_8 : decode cX0_init 8 = .ok (.newarray .int, 2) := by decide +kernel
theorem dX0_init_10 : decode cX0_init 10 = .ok (.putfield 9, 3) := by decide +kernel
theorem dX0_init_13 : decode cX0_init 13 = .ok (.aload_n 0, 1) := by decide +kernel
theorem dX0_init_14 : decode cX0_init 14 = .ok (.sipush 203, 3) := by decide +kernel
theorem dX0_init_17 : decode cX0_init 17 = .ok (.newarray .int, 2) := by decide +kernel
theorem dX0_init_19 : decode cX0_init 19 = .ok (.putfield 15, 3) := by decide +kernel
theorem dX0_init_22 : decode cX0_init 22 = .ok (.aload_n 0, 1) := by decide +kernel
theorem dX0_init_23 : decode cX0_init 23 = .ok (.sipush 203, 3) := by decide +kernel
theorem dX0_init_26 : decode cX0_init 26 = .ok (.newarray .int, 2) := by decide +kernel
theorem dX0_init_28 : decode cX0_init 28 = .ok (.putfield 18, 3) := by decide +kernel
theorem dX0_init_31 : decode cX0_init 31 = .ok (.aload_n 0, 1) := by decide +kernel
theorem dX0_init_32 : decode cX0_init 32 = .ok (.sipush 203, 3) := by decide +kernel
theorem dX0_init_35 : decode cX0_init 35 = .ok (.newarray .int, 2) := by decide +kernel
theorem dX0_init_37 : decode cX0_init 37 = .ok (.putfield 21, 3) := by decide +kernel
theorem dX0_init_40 : decode cX0_init 40 = .ok (.aload_n 0, 1) := by decide +kernel
theorem dX0_init_41 : decode cX0_init 41 = .ok (.sipush 203, 3) := by decide +kernel
theorem dX0_init_44 : decode cX0_init 44 = .ok (.newarray .boolean, 2) := by decide +kernel
theorem dX0_init_46 : decode cX0_init 46 = .ok (.putfield 24, 3) := by decide +kernel
theorem dX0_init_49 : decode cX0_init 49 = .ok (.aload_n 0, 1) := by decide +kernel
theorem dX0_init_50 : decode cX0_init 50 = .ok (.bipush 6, 2) := by decide +kernel
theorem dX0_init_52 : decode cX0_init 52 = .ok (.newarray .int, 2) := by decide +kernel
theorem dX0_init_54 : decode cX0_init 54 = .ok (.putfield 28, 3) := by decide +kernel
theorem dX0_init_57 : decode cX0_init 57 = .ok (.aload_n 0, 1) := by decide +kernel
theorem dX0_init_58 : decode cX0_init 58 = .ok (.new 31, 3) := by decide +kernel
theorem dX0_init_61 : decode cX0_init 61 = .ok (.dup, 1) := by decide +kernel
theorem dX0_init_62 : decode cX0_init 62 = .ok (.invokespecial 33, 3) := by decide +kernel
theorem dX0_init_65 : decode cX0_init 65 = .ok (.putfield 34, 3) := by decide +kernel
theorem dX0_init_68 : decode cX0_init 68 = .ok (.return_, 1) := by decide +kernel
theorem dX0_fill_0 : decode cX0_fill 0 = .ok (.aload_n 0, 1) := by decide +kernel
theorem dX0_fill_1 : decode cX0_fill 1 = .ok (.getfield 38, 3) := by decide +kernel
theorem dX0_fill_4 : decode cX0_fill 4 = .ok (.iload_n 1, 1) := by decide +kernel
theorem dX0_fill_5 : decode cX0_fill 5 = .ok (.if_icmp .ne 4, 3) := by decide +kernel
theorem dX0_fill_8 : decode cX0_fill 8 = .ok (.return_, 1) := by decide +kernel
theorem dX0_fill_9 : decode cX0_fill 9 = .ok (.aload_n 0, 1) := by decide +kernel
theorem dX0_fill_10 : decode cX0_fill 10 = .ok (.iload_n 1, 1) := by decide +kernel
theorem dX0_fill_11 : decode cX0_fill 11 = .ok (.bipush 6, 2) := by decide +kernel
theorem dX0_fill_13 : decode cX0_fill 13 = .ok (.invokestatic 42, 3) := by decide +kernel
theorem dX0_fill_16 : decode cX0_fill 16 = .ok (.putfield 38, 3) := by decide +kernel
theorem dX0_fill_19 : decode cX0_fill 19 = .ok (.iconst 0, 1) := by decide +kernel
theorem dX0_fill_20 : decode cX0_fill 20 = .ok (.istore_n 2, 1) := by decide +kernel
theorem dX0_fill_21 : decode cX0_fill 21 = .ok (.iload_n 2, 1) := by decide +kernel
theorem dX0_fill_22 : decode cX0_fill 22 = .ok (.bipush 6, 2) := by decide +kernel
theorem dX0_fill_24 : decode cX0_fill 24 = .ok (.if_icmp .ge 16, 3) := by decide +kernel
theorem dX0_fill_27 : decode cX0_fill 27 = .ok (.aload_n 0, 1) := by decide +kernel
theorem dX0_fill_28 : decode cX0_fill 28 = .ok (.getfield 28, 3) := by decide +kernel
theorem dX0_fill_31 : decode cX0_fill 31 = .ok (.iload_n 2, 1) := by decide +kernel
theorem dX0_fill_32 : decode cX0_fill 32 = .ok (.iconst 0, 1) := by decide +kernel
theorem dX0_fill_33 : decode cX0_fill 33 = .ok (.iastore, 1) := by decide +kernel
theorem dX0_fill_34 : decode cX0_fill 34 = .ok (.iinc 2 1, 3) := by decide +kernel
theorem dX0_fill_37 : decode cX0_fill 37 = .ok (.goto (-16), 3) := by decide +kernel
theorem dX0_fill_40 : decode cX0_fill 40 = .ok (.iconst 1, 1) := by decide +kernel
theorem dX0_fill_41 : decode cX0_fill 41 = .ok (.istore_n 2, 1) := by decide +kernel
theorem dX0_fill_42 : decode cX0_fill 42 = .ok (.iconst 0, 1) := by decide +kernel
theorem dX0_fill_43 : decode cX0_fill 43 = .ok (.istore_n 3, 1) := by decide +kernel
theorem dX0_fill_44 : decode cX0_fill 44 = .ok (.iload_n 3, 1) := by decide +kernel
theorem dX0_fill_45 : decode cX0_fill 45 = .ok (.sipush 203, 3) := by decide +kernel
theorem dX0_fill_48 : decode cX0_fill 48 = .ok (.if_icmp .ge 30, 3) := by decide +kernel
theorem dX0_fill_51 : decode cX0_fill 51 = .ok (.iload_n 2, 1) := by decide +kernel
theorem dX0_fill_52 : decode cX0_fill 52 = .ok (.ifCond .eq 26, 3) := by decide +kernel
theorem dX0_fill_55 : decode cX0_fill 55 = .ok (.aload_n 0, 1) := by decide +kernel
theorem dX0_fill_56 : decode cX0_fill 56 = .ok (.iload_n 3, 1) := by decide +kernel
theorem dX0_fill_57 : decode cX0_fill 57 = .ok (.invokevirtual 48, 3) := by decide +kernel
theorem dX0_fill_60 : decode cX0_fill 60 = .ok (.aload_n 0, 1) := by decide +kernel
theorem dX0_fill_61 : decode cX0_fill 61 = .ok (.iload_n 3, 1) := by decide +kernel
theorem dX0_fill_62 : decode cX0_fill 62 = .ok (.iconst 1, 1) := by decide +kernel
theorem dX0_fill_63 : decode cX0_fill 63 = .ok (.iadd, 1) := by decide +kernel
theorem dX0_fill_64 : decode cX0_fill 64 = .ok (.putfield 52, 3) := by decide +kernel
theorem dX0_fill_67 : decode cX0_fill 67 = .ok (.aload_n 0, 1) := by decide +kernel
theorem dX0_fill_68 : decode cX0_fill 68 = .ok (.invokevirtual 55, 3) := by decide +kernel
theorem dX0_fill_71 : decode cX0_fill 71 = .ok (.istore_n 2, 1) := by decide +kernel
theorem dX0_fill_72 : decode cX0_fill 72 = .ok (.iinc 3 1, 3) := by decide +kernel
theorem dX0_fill_75 : decode cX0_fill 75 = .ok (.goto (-31), 3) := by decide +kernel
theorem dX0_fill_78 : decode cX0_fill 78 = .ok (.return_, 1) := by decide +kernel
theorem dX0_enter_0 : decode cX0_enter 0 = .ok (.aload_n 0, 1) := by decide +kernel
theorem dX0_enter_1 : decode cX0_enter 1 = .ok (.getfield 9, 3) := by decide +kernel
theorem dX0_enter_4 : decode cX0_enter 4 = .ok (.iload_n 1, 1) := by decide +kernel
theorem dX0_enter_5 : decode cX0_enter 5 = .ok (.aload_n 0, 1) := by decide +kernel
theorem dX0_enter_6 : decode cX0_enter 6 = .ok (.invokevirtual 59, 3) := by decide +kernel
theorem dX0_enter_9 : decode cX0_enter 9 = .ok (.iastore, 1) := by decide +kernel
theorem dX0_enter_10 : decode cX0_enter 10 = .ok (.aload_n 0, 1) := by decide +kernel
theorem dX0_enter_11 : decode cX0_enter 11 = .ok (.getfield 34, 3) := by decide +kernel
theorem dX0_enter_14 : decode cX0_enter 14 = .ok (.aload_n 0, 1) := by decide +kernel
theorem dX0_enter_15 : decode cX0_enter 15 = .ok (.getfield 9, 3) := by decide +kernel
theorem dX0_enter_18 : decode cX0_enter 18 = .ok (.iload_n 1, 1) := by decide +kernel
theorem dX0_enter_19 : decode cX0_enter 19 = .ok (.iaload, 1) := by decide +kernel
theorem dX0_enter_20 : decode cX0_enter 20 = .ok (.aload_n 0, 1) := by decide +kernel
theorem dX0_enter_21 : decode cX0_enter 21 = .ok (.getfield 38, 3) := by decide +kernel
theorem dX0_enter_24 : decode cX0_enter 24 = .ok (.invokevirtual 63, 3) := by decide +kernel
theorem dX0_enter_27 : decode cX0_enter 27 = .ok (.aload_n 0, 1) := by decide +kernel
theorem dX0_enter_28 : decode cX0_enter 28 = .ok (.getfield 15, 3) := by decide +kernel
theorem dX0_enter_31 : decode cX0_enter 31 = .ok (.iload_n 1, 1) := by decide +kernel
theorem dX0_enter_32 : decode cX0_enter 32 = .ok (.aload_n 0, 1) := by decide +kernel
theorem dX0_enter_33 : decode cX0_enter 33 = .ok (.getfield 34, 3) := by decide +kernel
theorem dX0_enter_36 : decode cX0_enter 36 = .ok (.invokevirtual 67, 3) := by decide +kernel
theorem dX0_enter_39 : decode cX0_enter 39 = .ok (.iastore, 1) := by decide +kernel
theorem dX0_enter_40 : decode cX0_enter 40 = .ok (.aload_n 0, 1) := by decide +kernel
theorem dX0_enter_41 : decode cX0_enter 41 = .ok (.getfield 18, 3) := by decide +kernel
theorem dX0_enter_44 : decode cX0_enter 44 = .ok (.iload_n 1, 1) := by decide +kernel
theorem dX0_enter_45 : decode cX0_enter 45 = .ok (.aload_n 0, 1) := by decide +kernel
theorem dX0_enter_46 : decode cX0_enter 46 = .ok (.getfield 34, 3) := by decide +kernel
theorem dX0_enter_49 : decode cX0_enter 49 = .ok (.invokevirtual 70, 3) := by decide +kernel
theorem dX0_enter_52 : decode cX0_enter 52 = .ok (.iastore, 1) := by decide +kernel
theorem dX0_enter_53 : decode cX0_enter 53 = .ok (.aload_n 0, 1) := by decide +kernel
theorem dX0_enter_54 : decode cX0_enter 54 = .ok (.getfield 21, 3) := by decide +kernel
theorem dX0_enter_57 : decode cX0_enter 57 = .ok (.iload_n 1, 1) := by decide +kernel
theorem dX0_enter_58 : decode cX0_enter 58 = .ok (.aload_n 0, 1) := by decide +kernel
theorem dX0_enter_59 : decode cX0_enter 59 = .ok (.getfield 34, 3) := by decide +kernel
theorem dX0_enter_62 : decode cX0_enter 62 = .ok (.getfield 73, 3) := by decide +kernel
theorem dX0_enter_65 : decode cX0_enter 65 = .ok (.iastore, 1) := by decide +kernel
theorem dX0_enter_66 : decode cX0_enter 66 = .ok (.aload_n 0, 1) := by decide +kernel
theorem dX0_enter_67 : decode cX0_enter 67 = .ok (.getfield 24, 3) := by decide +kernel
theorem dX0_enter_70 : decode cX0_enter 70 = .ok (.iload_n 1, 1) := by decide +kernel
theorem dX0_enter_71 : decode cX0_enter 71 = .ok (.aload_n 0, 1) := by decide +kernel
theorem dX0_enter_72 : decode cX0_enter 72 = .ok (.getfield 34, 3) := by decide +kernel
theorem dX0_enter_75 : decode cX0_enter 75 = .ok (.invokevirtual 76, 3) := by decide +kernel
theorem dX0_enter_78 : decode cX0_enter 78 = .ok (.bipush (-9), 2) := by decide +kernel
theorem dX0_enter_80 : decode cX0_enter 80 = .ok (.if_icmp .eq 7, 3) := by decide +kernel
theorem dX0_enter_83 : decode cX0_enter 83 = .ok (.iconst 1, 1) := by decide +kernel
theorem dX0_enter_84 : decode cX0_enter 84 = .ok (.goto 4, 3) := by decide +kernel
theorem dX0_enter_87 : decode cX0_enter 87 = .ok (.iconst 0, 1) := by decide +kernel
theorem dX0_enter_88 : decode cX0_enter 88 = .ok (.bastore, 1) := by decide +kernel
theorem dX0_enter_89 : decode cX0_enter 89 = .ok (.return_, 1) := by decide +kernel
theorem dX0_pairsOfGrowth_0 : decode cX0_pairsOfGrowth 0 = .ok (.iconst 0, 1) := by decide +kernel
theorem dX0_pairsOfGrowth_1 : decode cX0_pairsOfGrowth 1 = .ok (.istore_n 1, 1) := by decide +kernel
theorem dX0_pairsOfGrowth_2 : decode cX0_pairsOfGrowth 2 = .ok (.iconst 0, 1) := by decide +kernel
theorem dX0_pairsOfGrowth_3 : decode cX0_pairsOfGrowth 3 = .ok (.istore_n 2, 1) := by decide +kernel
theorem dX0_pairsOfGrowth_4 : decode cX0_pairsOfGrowth 4 = .ok (.iload_n 2, 1) := by decide +kernel
theorem dX0_pairsOfGrowth_5 : decode cX0_pairsOfGrowth 5 = .ok (.bipush 15, 2) := by decide +kernel
theorem dX0_pairsOfGrowth_7 : decode cX0_pairsOfGrowth 7 = .ok (.if_icmp .ge 50, 3) := by decide +kernel
theorem dX0_pairsOfGrowth_10 : decode cX0_pairsOfGrowth 10 = .ok (.getstatic 79, 3) := by decide +kernel
theorem dX0_pairsOfGrowth_13 : decode cX0_pairsOfGrowth 13 = .ok (.iload_n 2, 1) := by decide +kernel
theorem dX0_pairsOfGrowth_14 : decode cX0_pairsOfGrowth 14 = .ok (.iaload, 1) := by decide +kernel
theorem dX0_pairsOfGrowth_15 : decode cX0_pairsOfGrowth 15 = .ok (.aload_n 0, 1) := by decide +kernel
theorem dX0_pairsOfGrowth_16 : decode cX0_pairsOfGrowth 16 = .ok (.getfield 38, 3) := by decide +kernel
theorem dX0_pairsOfGrowth_19 : decode cX0_pairsOfGrowth 19 = .ok (.if_icmp .ge 32, 3) := by decide +kernel
theorem dX0_pairsOfGrowth_22 : decode cX0_pairsOfGrowth 22 = .ok (.aload_n 0, 1) := by decide +kernel
theorem dX0_pairsOfGrowth_23 : decode cX0_pairsOfGrowth 23 = .ok (.getfield 28, 3) := by decide +kernel
theorem dX0_pairsOfGrowth_26 : decode cX0_pairsOfGrowth 26 = .ok (.getstatic 82, 3) := by decide +kernel
theorem dX0_pairsOfGrowth_29 : decode cX0_pairsOfGrowth 29 = .ok (.iload_n 2, 1) := by decide +kernel
theorem dX0_pairsOfGrowth_30 : decode cX0_pairsOfGrowth 30 = .ok (.iaload, 1) := by decide +kernel
theorem dX0_pairsOfGrowth_31 : decode cX0_pairsOfGrowth 31 = .ok (.iaload, 1) := by decide +kernel
theorem dX0_pairsOfGrowth_32 : decode cX0_pairsOfGrowth 32 = .ok (.aload_n 0, 1) := by decide +kernel
theorem dX0_pairsOfGrowth_33 : decode cX0_pairsOfGrowth 33 = .ok (.getfield 28, 3) := by decide +kernel
theorem dX0_pairsOfGrowth_36 : decode cX0_pairsOfGrowth 36 = .ok (.getstatic 79, 3) := by decide +kernel
theorem dX0_pairsOfGrowth_39 : decode cX0_pairsOfGrowth 39 = .ok (.iload_n 2, 1) := by decide +kernel
theorem dX0_pairsOfGrowth_40 : decode cX0_pairsOfGrowth 40 = .ok (.iaload, 1) := by decide +kernel
theorem dX0_pairsOfGrowth_41 : decode cX0_pairsOfGrowth 41 = .ok (.iaload, 1) := by decide +kernel
theorem dX0_pairsOfGrowth_42 : decode cX0_pairsOfGrowth 42 = .ok (.if_icmp .ne 9, 3) := by decide +kernel
theorem dX0_pairsOfGrowth_45 : decode cX0_pairsOfGrowth 45 = .ok (.iload_n 1, 1) := by decide +kernel
theorem dX0_pairsOfGrowth_46 : decode cX0_pairsOfGrowth 46 = .ok (.iconst 1, 1) := by decide +kernel
theorem dX0_pairsOfGrowth_47 : decode cX0_pairsOfGrowth 47 = .ok (.iload_n 2, 1) := by decide +kernel
theorem dX0_pairsOfGrowth_48 : decode cX0_pairsOfGrowth 48 = .ok (.ishl, 1) := by decide +kernel
theorem dX0_pairsOfGrowth_49 : decode cX0_pairsOfGrowth 49 = .ok (.ior, 1) := by decide +kernel
theorem dX0_pairsOfGrowth_50 : decode cX0_pairsOfGrowth 50 = .ok (.istore_n 1, 1) := by decide +kernel
theorem dX0_pairsOfGrowth_51 : decode cX0_pairsOfGrowth 51 = .ok (.iinc 2 1, 3) := by decide +kernel
theorem dX0_pairsOfGrowth_54 : decode cX0_pairsOfGrowth 54 = .ok (.goto (-50), 3) := by decide +kernel
theorem dX0_pairsOfGrowth_57 : decode cX0_pairsOfGrowth 57 = .ok (.iload_n 1, 1) := by decide +kernel
theorem dX0_pairsOfGrowth_58 : decode cX0_pairsOfGrowth 58 = .ok (.ireturn, 1) := by decide +kernel
theorem dX0_advance_0 : decode cX0_advance 0 = .ok (.aload_n 0, 1) := by decide +kernel
theorem dX0_advance_1 : decode cX0_advance 1 = .ok (.getfield 38, 3) := by decide +kernel
theorem dX0_advance_4 : decode cX0_advance 4 = .ok (.iconst 1, 1) := by decide +kernel
theorem dX0_advance_5 : decode cX0_advance 5 = .ok (.isub, 1) := by decide +kernel
theorem dX0_advance_6 : decode cX0_advance 6 = .ok (.istore_n 1, 1) := by decide +kernel
theorem dX0_advance_7 : decode cX0_advance 7 = .ok (.iload_n 1, 1) := by decide +kernel
theorem dX0_advance_8 : decode cX0_advance 8 = .ok (.ifCond .le 42, 3) := by decide +kernel
theorem dX0_advance_11 : decode cX0_advance 11 = .ok (.aload_n 0, 1) := by decide +kernel
theorem dX0_advance_12 : decode cX0_advance 12 = .ok (.getfield 28, 3) := by decide +kernel
theorem dX0_advance_15 : decode cX0_advance 15 = .ok (.iload_n 1, 1) := by decide +kernel
theorem dX0_advance_16 : decode cX0_advance 16 = .ok (.iaload, 1) := by decide +kernel
theorem dX0_advance_17 : decode cX0_advance 17 = .ok (.aload_n 0, 1) := by decide +kernel
theorem dX0_advance_18 : decode cX0_advance 18 = .ok (.iload_n 1, 1) := by decide +kernel
theorem dX0_advance_19 : decode cX0_advance 19 = .ok (.invokevirtual 85, 3) := by decide +kernel
theorem dX0_advance_22 : decode cX0_advance 22 = .ok (.if_icmp .gt 15, 3) := by decide +kernel
theorem dX0_advance_25 : decode cX0_advance 25 = .ok (.aload_n 0, 1) := by decide +kernel
theorem dX0_advance_26 : decode cX0_advance 26 = .ok (.getfield 28, 3) := by decide +kernel
theorem dX0_advance_29 : decode cX0_advance 29 = .ok (.iload_n 1, 1) := by decide +kernel
theorem dX0_advance_30 : decode cX0_advance 30 = .ok (.dup2, 1) := by decide +kernel
theorem dX0_advance_31 : decode cX0_advance 31 = .ok (.iaload, 1) := by decide +kernel
theorem dX0_advance_32 : decode cX0_advance 32 = .ok (.iconst 1, 1) := by decide +kernel
theorem dX0_advance_33 : decode cX0_advance 33 = .ok (.iadd, 1) := by decide +kernel
theorem dX0_advance_34 : decode cX0_advance 34 = .ok (.iastore, 1) := by decide +kernel
theorem dX0_advance_35 : decode cX0_advance 35 = .ok (.iconst 1, 1) := by decide +kernel
theorem dX0_advance_36 : decode cX0_advance 36 = .ok (.ireturn, 1) := by decide +kernel
theorem dX0_advance_37 : decode cX0_advance 37 = .ok (.aload_n 0, 1) := by decide +kernel
theorem dX0_advance_38 : decode cX0_advance 38 = .ok (.getfield 28, 3) := by decide +kernel
theorem dX0_advance_41 : decode cX0_advance 41 = .ok (.iload_n 1, 1) := by decide +kernel
theorem dX0_advance_42 : decode cX0_advance 42 = .ok (.iconst 0, 1) := by decide +kernel
theorem dX0_advance_43 : decode cX0_advance 43 = .ok (.iastore, 1) := by decide +kernel
theorem dX0_advance_44 : decode cX0_advance 44 = .ok (.iinc 1 (-1), 3) := by decide +kernel
theorem dX0_advance_47 : decode cX0_advance 47 = .ok (.goto (-40), 3) := by decide +kernel
theorem dX0_advance_50 : decode cX0_advance 50 = .ok (.iconst 0, 1) := by decide +kernel
theorem dX0_advance_51 : decode cX0_advance 51 = .ok (.ireturn, 1) := by decide +kernel
theorem dX0_greatestBefore_0 : decode cX0_greatestBefore 0 = .ok (.iconst 0, 1) := by decide +kernel
theorem dX0_greatestBefore_1 : decode cX0_greatestBefore 1 = .ok (.istore_n 2, 1) := by decide +kernel
theorem dX0_greatestBefore_2 : decode cX0_greatestBefore 2 = .ok (.iconst 0, 1) := by decide +kernel
theorem dX0_greatestBefore_3 : decode cX0_greatestBefore 3 = .ok (.istore_n 3, 1) := by decide +kernel
theorem dX0_greatestBefore_4 : decode cX0_greatestBefore 4 = .ok (.iload_n 3, 1) := by decide +kernel
theorem dX0_greatestBefore_5 : decode cX0_greatestBefore 5 = .ok (.iload_n 1, 1) := by decide +kernel
theorem dX0_greatestBefore_6 : decode cX0_greatestBefore 6 = .ok (.if_icmp .ge 20, 3) := by decide +kernel
theorem dX0_greatestBefore_9 : decode cX0_greatestBefore 9 = .ok (.iload_n 2, 1) := by decide +kernel
theorem dX0_greatestBefore_10 : decode cX0_greatestBefore 10 = .ok (.aload_n 0, 1) := by decide +kernel
theorem dX0_greatestBefore_11 : decode cX0_greatestBefore 11 = .ok (.getfield 28, 3) := by decide +kernel
theorem dX0_greatestBefore_14 : decode cX0_greatestBefore 14 = .ok (.iload_n 3, 1) := by decide +kernel
theorem dX0_greatestBefore_15 : decode cX0_greatestBefore 15 = .ok (.iaload, 1) := by decide +kernel
theorem dX0_greatestBefore_16 : decode cX0_greatestBefore 16 = .ok (.invokestatic 89, 3) := by decide +kernel
theorem dX0_greatestBefore_19 : decode cX0_greatestBefore 19 = .ok (.istore_n 2, 1) := by decide +kernel
theorem dX0_greatestBefore_20 : decode cX0_greatestBefore 20 = .ok (.iinc 3 1, 3) := by decide +kernel
theorem dX0_greatestBefore_23 : decode cX0_greatestBefore 23 = .ok (.goto (-19), 3) := by decide +kernel
theorem dX0_greatestBefore_26 : decode cX0_greatestBefore 26 = .ok (.iload_n 2, 1) := by decide +kernel
theorem dX0_greatestBefore_27 : decode cX0_greatestBefore 27 = .ok (.ireturn, 1) := by decide +kernel
theorem dX0_closure_0 : decode cX0_closure 0 = .ok (.aload_n 0, 1) := by decide +kernel
theorem dX0_closure_1 : decode cX0_closure 1 = .ok (.getfield 52, 3) := by decide +kernel
theorem dX0_closure_4 : decode cX0_closure 4 = .ok (.iconst 1, 1) := by decide +kernel
theorem dX0_closure_5 : decode cX0_closure 5 = .ok (.isub, 1) := by decide +kernel
theorem dX0_closure_6 : decode cX0_closure 6 = .ok (.istore_n 2, 1) := by decide +kernel
theorem dX0_closure_7 : decode cX0_closure 7 = .ok (.iload_n 2, 1) := by decide +kernel
theorem dX0_closure_8 : decode cX0_closure 8 = .ok (.ifCond .lt 29, 3) := by decide +kernel
theorem dX0_closure_11 : decode cX0_closure 11 = .ok (.iload_n 1, 1) := by decide +kernel
theorem dX0_closure_12 : decode cX0_closure 12 = .ok (.aload_n 0, 1) := by decide +kernel
theorem dX0_closure_13 : decode cX0_closure 13 = .ok (.getfield 9, 3) := by decide +kernel
theorem dX0_closure_16 : decode cX0_closure 16 = .ok (.iload_n 2, 1) := by decide +kernel
theorem dX0_closure_17 : decode cX0_closure 17 = .ok (.iaload, 1) := by decide +kernel
theorem dX0_closure_18 : decode cX0_closure 18 = .ok (.invokestatic 92, 3) := by decide +kernel
theorem dX0_closure_21 : decode cX0_closure 21 = .ok (.ifCond .eq 10, 3) := by decide +kernel
theorem dX0_closure_24 : decode cX0_closure 24 = .ok (.aload_n 0, 1) := by decide +kernel
theorem dX0_closure_25 : decode cX0_closure 25 = .ok (.getfield 9, 3) := by decide +kernel
theorem dX0_closure_28 : decode cX0_closure 28 = .ok (.iload_n 2, 1) := by decide +kernel
theorem dX0_closure_29 : decode cX0_closure 29 = .ok (.iaload, 1) := by decide +kernel
theorem dX0_closure_30 : decode cX0_closure 30 = .ok (.ireturn, 1) := by decide +kernel
theorem dX0_closure_31 : decode cX0_closure 31 = .ok (.iinc 2 (-1), 3) := by decide +kernel
theorem dX0_closure_34 : decode cX0_closure 34 = .ok (.goto (-27), 3) := by decide +kernel
theorem dX0_closure_37 : decode cX0_closure 37 = .ok (.aload_n 0, 1) := by decide +kernel
theorem dX0_closure_38 : decode cX0_closure 38 = .ok (.getfield 38, 3) := by decide +kernel
theorem dX0_closure_41 : decode cX0_closure 41 = .ok (.invokestatic 96, 3) := by decide +kernel
theorem dX0_closure_44 : decode cX0_closure 44 = .ok (.ireturn, 1) := by decide +kernel
theorem dX1_init_0 : decode cX1_init 0 = .ok (.aload_n 0, 1) := by decide +kernel
theorem dX1_init_1 : decode cX1_init 1 = .ok (.invokespecial 3, 3) := by decide +kernel
theorem dX1_init_4 : decode cX1_init 4 = .ok (.aload_n 0, 1) := by decide +kernel
theorem dX1_init_5 : decode cX1_init 5 = .ok (.bipush 10, 2) := by decide +kernel
theorem dX1_init_7 : decode cX1_init 7 = .ok (.anewarray 9, 3) := by decide +kernel
theorem dX1_init_10 : decode cX1_init 10 = .ok (.putfield 11, 3) := by decide +kernel
theorem dX1_init_13 : decode cX1_init 13 = .ok (.iconst 0, 1) := by decide +kernel
theorem dX1_init_14 : decode cX1_init 14 = .ok (.istore_n 1, 1) := by decide +kernel
theorem dX1_init_15 : decode cX1_init 15 = .ok (.iload_n 1, 1) := by decide +kernel
theorem dX1_init_16 : decode cX1_init 16 = .ok (.bipush 10, 2) := by decide +kernel
theorem dX1_init_18 : decode cX1_init 18 = .ok (.if_icmp .ge 22, 3) := by decide +kernel
theorem dX1_init_21 : decode cX1_init 21 = .ok (.aload_n 0, 1) := by decide +kernel
theorem dX1_init_22 : decode cX1_init 22 = .ok (.getfield 11, 3) := by decide +kernel
theorem dX1_init_25 : decode cX1_init 25 = .ok (.iload_n 1, 1) := by decide +kernel
theorem dX1_init_26 : decode cX1_init 26 = .ok (.new 9, 3) := by decide +kernel
theorem dX1_init_29 : decode cX1_init 29 = .ok (.dup, 1) := by decide +kernel
theorem dX1_init_30 : decode cX1_init 30 = .ok (.invokespecial 17, 3) := by decide +kernel
theorem dX1_init_33 : decode cX1_init 33 = .ok (.aastore, 1) := by decide +kernel
theorem dX1_init_34 : decode cX1_init 34 = .ok (.iinc 1 1, 3) := by decide +kernel
theorem dX1_init_37 : decode cX1_init 37 = .ok (.goto (-22), 3) := by decide +kernel
theorem dX1_init_40 : decode cX1_init 40 = .ok (.return_, 1) := by decide +kernel
theorem dX1_remember_0 : decode cX1_remember 0 = .ok (.aload_n 0, 1) := by decide +kernel
theorem dX1_remember_1 : decode cX1_remember 1 = .ok (.getfield 11, 3) := by decide +kernel
theorem dX1_remember_4 : decode cX1_remember 4 = .ok (.aload_n 0, 1) := by decide +kernel
theorem dX1_remember_5 : decode cX1_remember 5 = .ok (.getfield 18, 3) := by decide +kernel
theorem dX1_remember_8 : decode cX1_remember 8 = .ok (.aaload, 1) := by decide +kernel
theorem dX1_remember_9 : decode cX1_remember 9 = .ok (.aload_n 1, 1) := by decide +kernel
theorem dX1_remember_10 : decode cX1_remember 10 = .ok (.invokevirtual 22, 3) := by decide +kernel
theorem dX1_remember_13 : decode cX1_remember 13 = .ok (.aload_n 0, 1) := by decide +kernel
theorem dX1_remember_14 : decode cX1_remember 14 = .ok (.aload_n 0, 1) := by decide +kernel
theorem dX1_remember_15 : decode cX1_remember 15 = .ok (.getfield 18, 3) := by decide +kernel
theorem dX1_remember_18 : decode cX1_remember 18 = .ok (.iconst 1, 1) := by decide +kernel
theorem dX1_remember_19 : decode cX1_remember 19 = .ok (.iadd, 1) := by decide +kernel
theorem dX1_remember_20 : decode cX1_remember 20 = .ok (.bipush 10, 2) := by decide +kernel
theorem dX1_remember_22 : decode cX1_remember 22 = .ok (.if_icmp .ge 12, 3) := by decide +kernel
theorem dX1_remember_25 : decode cX1_remember 25 = .ok (.aload_n 0, 1) := by decide +kernel
theorem dX1_remember_26 : decode cX1_remember 26 = .ok (.getfield 18, 3) := by decide +kernel
theorem dX1_remember_29 : decode cX1_remember 29 = .ok (.iconst 1, 1) := by decide +kernel
theorem dX1_remember_30 : decode cX1_remember 30 = .ok (.iadd, 1) := by decide +kernel
theorem dX1_remember_31 : decode cX1_remember 31 = .ok (.goto 4, 3) := by decide +kernel
theorem dX1_remember_34 : decode cX1_remember 34 = .ok (.iconst 0, 1) := by decide +kernel
theorem dX1_remember_35 : decode cX1_remember 35 = .ok (.putfield 18, 3) := by decide +kernel
theorem dX1_remember_38 : decode cX1_remember 38 = .ok (.aload_n 0, 1) := by decide +kernel
theorem dX1_remember_39 : decode cX1_remember 39 = .ok (.aload_n 0, 1) := by decide +kernel
theorem dX1_remember_40 : decode cX1_remember 40 = .ok (.getfield 26, 3) := by decide +kernel
theorem dX1_remember_43 : decode cX1_remember 43 = .ok (.iconst 1, 1) := by decide +kernel
theorem dX1_remember_44 : decode cX1_remember 44 = .ok (.iadd, 1) := by decide +kernel
theorem dX1_remember_45 : decode cX1_remember 45 = .ok (.bipush 10, 2) := by decide +kernel
theorem dX1_remember_47 : decode cX1_remember 47 = .ok (.invokestatic 29, 3) := by decide +kernel
theorem dX1_remember_50 : decode cX1_remember 50 = .ok (.putfield 26, 3) := by decide +kernel
theorem dX1_remember_53 : decode cX1_remember 53 = .ok (.return_, 1) := by decide +kernel
theorem dX1_restore_0 : decode cX1_restore 0 = .ok (.aload_n 0, 1) := by decide +kernel
theorem dX1_restore_1 : decode cX1_restore 1 = .ok (.getfield 26, 3) := by decide +kernel
theorem dX1_restore_4 : decode cX1_restore 4 = .ok (.ifCond .ne 5, 3) := by decide +kernel
theorem dX1_restore_7 : decode cX1_restore 7 = .ok (.iconst 0, 1) := by decide +kernel
theorem dX1_restore_8 : decode cX1_restore 8 = .ok (.ireturn, 1) := by decide +kernel
theorem dX1_restore_9 : decode cX1_restore 9 = .ok (.aload_n 0, 1) := by decide +kernel
theorem dX1_restore_10 : decode cX1_restore 10 = .ok (.aload_n 0, 1) := by decide +kernel
theorem dX1_restore_11 : decode cX1_restore 11 = .ok (.getfield 18, 3) := by decide +kernel
theorem dX1_restore_14 : decode cX1_restore 14 = .ok (.ifCond .le 12, 3) := by decide +kernel
theorem dX1_restore_17 : decode cX1_restore 17 = .ok (.aload_n 0, 1) := by decide +kernel
theorem dX1_restore_18 : decode cX1_restore 18 = .ok (.getfield 18, 3) := by decide +kernel
theorem dX1_restore_21 : decode cX1_restore 21 = .ok (.iconst 1, 1) := by decide +kernel
theorem dX1_restore_22 : decode cX1_restore 22 = .ok (.isub, 1) := by decide +kernel
theorem dX1_restore_23 : decode cX1_restore 23 = .ok (.goto 5, 3) := by decide +kernel
theorem dX1_restore_26 : decode cX1_restore 26 = .ok (.bipush 9, 2) := by decide +kernel
theorem dX1_restore_28 : decode cX1_restore 28 = .ok (.putfield 18, 3) := by decide +kernel
theorem dX1_restore_31 : decode cX1_restore 31 = .ok (.aload_n 0, 1) := by decide +kernel
theorem dX1_restore_32 : decode cX1_restore 32 = .ok (.dup, 1) := by decide +kernel
theorem dX1_restore_33 : decode cX1_restore 33 = .ok (.getfield 26, 3) := by decide +kernel
theorem dX1_restore_36 : decode cX1_restore 36 = .ok (.iconst 1, 1) := by decide +kernel
theorem dX1_restore_37 : decode cX1_restore 37 = .ok (.isub, 1) := by decide +kernel
theorem dX1_restore_38 : decode cX1_restore 38 = .ok (.putfield 26, 3) := by decide +kernel
theorem dX1_restore_41 : decode cX1_restore 41 = .ok (.aload_n 1, 1) := by decide +kernel
theorem dX1_restore_42 : decode cX1_restore 42 = .ok (.aload_n 0, 1) := by decide +kernel
theorem dX1_restore_43 : decode cX1_restore 43 = .ok (.getfield 11, 3) := by decide +kernel
theorem dX1_restore_46 : decode cX1_restore 46 = .ok (.aload_n 0, 1) := by decide +kernel
theorem dX1_restore_47 : decode cX1_restore 47 = .ok (.getfield 18, 3) := by decide +kernel
theorem dX1_restore_50 : decode cX1_restore 50 = .ok (.aaload, 1) := by decide +kernel
theorem dX1_restore_51 : decode cX1_restore 51 = .ok (.invokevirtual 22, 3) := by decide +kernel
theorem dX1_restore_54 : decode cX1_restore 54 = .ok (.iconst 1, 1) := by decide +kernel
theorem dX1_restore_55 : decode cX1_restore 55 = .ok (.ireturn, 1) := by decide +kernel
theorem dX2_init_0 : decode cX2_init 0 = .ok (.aload_n 0, 1) := by decide +kernel
theorem dX2_init_1 : decode cX2_init 1 = .ok (.invokespecial 3, 3) := by decide +kernel
theorem dX2_init_4 : decode cX2_init 4 = .ok (.aload_n 0, 1) := by decide +kernel
theorem dX2_init_5 : decode cX2_init 5 = .ok (.sipush 203, 3) := by decide +kernel
theorem dX2_init_8 : decode cX2_init 8 = .ok (.newarray .int, 2) := by decide +kernel
theorem dX2_init_10 : decode cX2_init 10 = .ok (.putfield 9, 3) := by decide +kernel
theorem dX2_init_13 : decode cX2_init 13 = .ok (.aload_n 0, 1) := by decide +kernel
theorem dX2_init_14 : decode cX2_init 14 = .ok (.sipush 203, 3) := by decide +kernel
theorem dX2_init_17 : decode cX2_init 17 = .ok (.newarray .int, 2) := by decide +kernel
theorem dX2_init_19 : decode cX2_init 19 = .ok (.putfield 15, 3) := by decide +kernel
theorem dX2_init_22 : decode cX2_init 22 = .ok (.aload_n 0, 1) := by decide +kernel
theorem dX2_init_23 : decode cX2_init 23 = .ok (.sipush 203, 3) := by decide +kernel
theorem dX2_init_26 : decode cX2_init 26 = .ok (.newarray .int, 2) := by decide +kernel
theorem dX2_init_28 : decode cX2_init 28 = .ok (.putfield 18, 3) := by decide +kernel
theorem dX2_init_31 : decode cX2_init 31 = .ok (.aload_n 0, 1) := by decide +kernel
theorem dX2_init_32 : decode cX2_init 32 = .ok (.bipush 7, 2) := by decide +kernel
theorem dX2_init_34 : decode cX2_init 34 = .ok (.newarray .int, 2) := by decide +kernel
theorem dX2_init_36 : decode cX2_init 36 = .ok (.putfield 21, 3) := by decide +kernel
theorem dX2_init_39 : decode cX2_init 39 = .ok (.aload_n 0, 1) := by decide +kernel
theorem dX2_init_40 : decode cX2_init 40 = .ok (.sipush 203, 3) := by decide +kernel
theorem dX2_init_43 : decode cX2_init 43 = .ok (.newarray .int, 2) := by decide +kernel
theorem dX2_init_45 : decode cX2_init 45 = .ok (.putfield 24, 3) := by decide +kernel
theorem dX2_init_48 : decode cX2_init 48 = .ok (.return_, 1) := by decide +kernel
theorem dX2_select_0 : decode cX2_select 0 = .ok (.aload_n 0, 1) := by decide +kernel
theorem dX2_select_1 : decode cX2_select 1 = .ok (.iconst 0, 1) := by decide +kernel
theorem dX2_select_2 : decode cX2_select 2 = .ok (.putfield 27, 3) := by decide +kernel
theorem dX2_select_5 : decode cX2_select 5 = .ok (.iconst 0, 1) := by decide +kernel
theorem dX2_select_6 : decode cX2_select 6 = .ok (.istore_n 3, 1) := by decide +kernel
theorem dX2_select_7 : decode cX2_select 7 = .ok (.iload_n 3, 1) := by decide +kernel
theorem dX2_select_8 : decode cX2_select 8 = .ok (.bipush 6, 2) := by decide +kernel
theorem dX2_select_10 : decode cX2_select 10 = .ok (.if_icmp .gt 16, 3) := by decide +kernel
theorem dX2_select_13 : decode cX2_select 13 = .ok (.aload_n 0, 1) := by decide +kernel
theorem dX2_select_14 : decode cX2_select 14 = .ok (.getfield 21, 3) := by decide +kernel
theorem dX2_select_17 : decode cX2_select 17 = .ok (.iload_n 3, 1) := by decide +kernel
theorem dX2_select_18 : decode cX2_select 18 = .ok (.iconst 0, 1) := by decide +kernel
theorem dX2_select_19 : decode cX2_select 19 = .ok (.iastore, 1) := by decide +kernel
theorem dX2_select_20 : decode cX2_select 20 = .ok (.iinc 3 1, 3) := by decide +kernel
theorem dX2_select_23 : decode cX2_select 23 = .ok (.goto (-16), 3) := by decide +kernel
theorem dX2_select_26 : decode cX2_select 26 = .ok (.iconst 0, 1) := by decide +kernel
theorem dX2_select_27 : decode cX2_select 27 = .ok (.istore_n 3, 1) := by decide +kernel
theorem dX2_select_28 : decode cX2_select 28 = .ok (.iload_n 3, 1) := by decide +kernel
theorem dX2_select_29 : decode cX2_select 29 = .ok (.aload_n 1, 1) := by decide +kernel
theorem dX2_select_30 : decode cX2_select 30 = .ok (.getfield 31, 3) := by decide +kernel
theorem dX2_select_33 : decode cX2_select 33 = .ok (.if_icmp .ge 110, 3) := by decide +kernel
theorem dX2_select_36 : decode cX2_select 36 = .ok (.aload_n 1, 1) := by decide +kernel
theorem dX2_select_37 : decode cX2_select 37 = .ok (.getfield 34, 3) := by decide +kernel
theorem dX2_select_40 : decode cX2_select 40 = .ok (.iload_n 3, 1) := by decide +kernel
theorem dX2_select_41 : decode cX2_select 41 = .ok (.iaload, 1) := by decide +kernel
theorem dX2_select_42 : decode cX2_select 42 = .ok (.istore 4, 2) := by decide +kernel
theorem dX2_select_44 : decode cX2_select 44 = .ok (.aload_n 2, 1) := by decide +kernel
theorem dX2_select_45 : decode cX2_select 45 = .ok (.aload_n 1, 1) := by decide +kernel
theorem dX2_select_46 : decode cX2_select 46 = .ok (.getfield 35, 3) := by decide +kernel
theorem dX2_select_49 : decode cX2_select 49 = .ok (.iload_n 3, 1) := by decide +kernel
theorem dX2_select_50 : decode cX2_select 50 = .ok (.iaload, 1) := by decide +kernel
theorem dX2_select_51 : decode cX2_select 51 = .ok (.aload_n 1, 1) := by decide +kernel
theorem dX2_select_52 : decode cX2_select 52 = .ok (.getfield 36, 3) := by decide +kernel
theorem dX2_select_55 : decode cX2_select 55 = .ok (.iload_n 3, 1) := by decide +kernel
theorem dX2_select_56 : decode cX2_select 56 = .ok (.iaload, 1) := by decide +kernel
theorem dX2_select_57 : decode cX2_select 57 = .ok (.iload 4, 2) := by decide +kernel
theorem dX2_select_59 : decode cX2_select 59 = .ok (.aload_n 1, 1) := by decide +kernel
theorem dX2_select_60 : decode cX2_select 60 = .ok (.getfield 39, 3) := by decide +kernel
theorem dX2_select_63 : decode cX2_select 63 = .ok (.iload_n 3, 1) := by decide +kernel
theorem dX2_select_64 : decode cX2_select 64 = .ok (.baload, 1) := by decide +kernel
theorem dX2_select_65 : decode cX2_select 65 = .ok (.invokevirtual 43, 3) := by decide +kernel
theorem dX2_select_68 : decode cX2_select 68 = .ok (.istore 5, 2) := by decide +kernel
theorem dX2_select_70 : decode cX2_select 70 = .ok (.iload 5, 2) := by decide +kernel
theorem dX2_select_72 : decode cX2_select 72 = .ok (.ifCond .ne 65, 3) := by decide +kernel
theorem dX2_select_75 : decode cX2_select 75 = .ok (.aload_n 0, 1) := by decide +kernel
theorem dX2_select_76 : decode cX2_select 76 = .ok (.getfield 9, 3) := by decide +kernel
theorem dX2_select_79 : decode cX2_select 79 = .ok (.aload_n 0, 1) := by decide +kernel
theorem dX2_select_80 : decode cX2_select 80 = .ok (.getfield 27, 3) := by decide +kernel
theorem dX2_select_83 : decode cX2_select 83 = .ok (.aload_n 1, 1) := by decide +kernel
theorem dX2_select_84 : decode cX2_select 84 = .ok (.getfield 35, 3) := by decide +kernel
theorem dX2_select_87 : decode cX2_select 87 = .ok (.iload_n 3, 1) := by decide +kernel
theorem dX2_select_88 : decode cX2_select 88 = .ok (.iaload, 1) := by decide +kernel
theorem dX2_select_89 : decode cX2_select 89 = .ok (.iastore, 1) := by decide +kernel
theorem dX2_select_90 : decode cX2_select 90 = .ok (.aload_n 0, 1) := by decide +kernel
theorem dX2_select_91 : decode cX2_select 91 = .ok (.getfield 15, 3) := by decide +kernel
theorem dX2_select_94 : decode cX2_select 94 = .ok (.aload_n 0, 1) := by decide +kernel
theorem dX2_select_95 : decode cX2_select 95 = .ok (.getfield 27, 3) := by decide +kernel
theorem dX2_select_98 : decode cX2_select 98 = .ok (.aload_n 1, 1) := by decide +kernel
theorem dX2_select_99 : decode cX2_select 99 = .ok (.getfield 49, 3) := by decide +kernel
theorem dX2_select_102 : decode cX2_select 102 = .ok (.iload_n 3, 1) := by decide +kernel
theorem dX2_select_103 : decode cX2_select 103 = .ok (.iaload, 1) := by decide +kernel
theorem dX2_select_104 : decode cX2_select 104 = .ok (.iastore, 1) := by decide +kernel
theorem dX2_select_105 : decode cX2_select 105 = .ok (.aload_n 0, 1) := by decide +kernel
theorem dX2_select_106 : decode cX2_select 106 = .ok (.getfield 18, 3) := by decide +kernel
theorem dX2_select_109 : decode cX2_select 109 = .ok (.aload_n 0, 1) := by decide +kernel
theorem dX2_select_110 : decode cX2_select 110 = .ok (.getfield 27, 3) := by decide +kernel
theorem dX2_select_113 : decode cX2_select 113 = .ok (.iload 4, 2) := by decide +kernel
theorem dX2_select_115 : decode cX2_select 115 = .ok (.iastore, 1) := by decide +kernel
theorem dX2_select_116 : decode cX2_select 116 = .ok (.aload_n 0, 1) := by decide +kernel
theorem dX2_select_117 : decode cX2_select 117 = .ok (.getfield 21, 3) := by decide +kernel
theorem dX2_select_120 : decode cX2_select 120 = .ok (.iload 4, 2) := by decide +kernel
theorem dX2_select_122 : decode cX2_select 122 = .ok (.dup2, 1) := by decide +kernel
theorem dX2_select_123 : decode cX2_select 123 = .ok (.iaload, 1) := by decide +kernel
theorem dX2_select_124 : decode cX2_select 124 = .ok (.iconst 1, 1) := by decide +kernel
theorem dX2_select_125 : decode cX2_select 125 = .ok (.iadd, 1) := by decide +kernel
theorem dX2_select_126 : decode cX2_select 126 = .ok (.iastore, 1) := by decide +kernel
theorem dX2_select_127 : decode cX2_select 127 = .ok (.aload_n 0, 1) := by decide +kernel
theorem dX2_select_128 : decode cX2_select 128 = .ok (.dup, 1) := by decide +kernel
theorem dX2_select_129 : decode cX2_select 129 = .ok (.getfield 27, 3) := by decide +kernel
theorem dX2_select_132 : decode cX2_select 132 = .ok (.iconst 1, 1) := by decide +kernel
theorem dX2_select_133 : decode cX2_select 133 = .ok (.iadd, 1) := by decide +kernel
theorem dX2_select_134 : decode cX2_select 134 = .ok (.putfield 27, 3) := by decide +kernel
theorem dX2_select_137 : decode cX2_select 137 = .ok (.iinc 3 1, 3) := by decide +kernel
theorem dX2_select_140 : decode cX2_select 140 = .ok (.goto (-112), 3) := by decide +kernel
theorem dX2_select_143 : decode cX2_select 143 = .ok (.return_, 1) := by decide +kernel
theorem dX2_has_0 : decode cX2_has 0 = .ok (.iload_n 1, 1) := by decide +kernel
theorem dX2_has_1 : decode cX2_has 1 = .ok (.ifCond .lt 15, 3) := by decide +kernel
theorem dX2_has_4 : decode cX2_has 4 = .ok (.iload_n 1, 1) := by decide +kernel
theorem dX2_has_5 : decode cX2_has 5 = .ok (.aload_n 0, 1) := by decide +kernel
theorem dX2_has_6 : decode cX2_has 6 = .ok (.getfield 27, 3) := by decide +kernel
theorem dX2_has_9 : decode cX2_has 9 = .ok (.if_icmp .ge 7, 3) := by decide +kernel
theorem dX2_has_12 : decode cX2_has 12 = .ok (.iconst 1, 1) := by decide +kernel
theorem dX2_has_13 : decode cX2_has 13 = .ok (.goto 4, 3) := by decide +kernel
theorem dX2_has_16 : decode cX2_has 16 = .ok (.iconst 0, 1) := by decide +kernel
theorem dX2_has_17 : decode cX2_has 17 = .ok (.ireturn, 1) := by decide +kernel
theorem dX2_find_0 : decode cX2_find 0 = .ok (.iconst 0, 1) := by decide +kernel
theorem dX2_find_1 : decode cX2_find 1 = .ok (.istore_n 2, 1) := by decide +kernel
theorem dX2_find_2 : decode cX2_find 2 = .ok (.iload_n 2, 1) := by decide +kernel
theorem dX2_find_3 : decode cX2_find 3 = .ok (.aload_n 0, 1) := by decide +kernel
theorem dX2_find_4 : decode cX2_find 4 = .ok (.getfield 27, 3) := by decide +kernel
theorem dX2_find_7 : decode cX2_find 7 = .ok (.if_icmp .ge 21, 3) := by decide +kernel
theorem dX2_find_10 : decode cX2_find 10 = .ok (.aload_n 0, 1) := by decide +kernel
theorem dX2_find_11 : decode cX2_find 11 = .ok (.getfield 9, 3) := by decide +kernel
theorem dX2_find_14 : decode cX2_find 14 = .ok (.iload_n 2, 1) := by decide +kernel
theorem dX2_find_15 : decode cX2_find 15 = .ok (.iaload, 1) := by decide +kernel
theorem dX2_find_16 : decode cX2_find 16 = .ok (.iload_n 1, 1) := by decide +kernel
theorem dX2_find_17 : decode cX2_find 17 = .ok (.if_icmp .ne 5, 3) := by decide +kernel
theorem dX2_find_20 : decode cX2_find 20 = .ok (.iload_n 2, 1) := by decide +kernel
theorem dX2_find_21 : decode cX2_find 21 = .ok (.ireturn, 1) := by decide +kernel
theorem dX2_find_22 : decode cX2_find 22 = .ok (.iinc 2 1, 3) := by decide +kernel
theorem dX2_find_25 : decode cX2_find 25 = .ok (.goto (-23), 3) := by decide +kernel
theorem dX2_find_28 : decode cX2_find 28 = .ok (.bipush (-9), 2) := by decide +kernel
theorem dX2_find_30 : decode cX2_find 30 = .ok (.ireturn, 1) := by decide +kernel
theorem dX2_firstBehind_0 : decode cX2_firstBehind 0 = .ok (.iconst 0, 1) := by decide +kernel
theorem dX2_firstBehind_1 : decode cX2_firstBehind 1 = .ok (.istore_n 2, 1) := by decide +kernel
theorem dX2_firstBehind_2 : decode cX2_firstBehind 2 = .ok (.iload_n 2, 1) := by decide +kernel
theorem dX2_firstBehind_3 : decode cX2_firstBehind 3 = .ok (.aload_n 0, 1) := by decide +kernel
theorem dX2_firstBehind_4 : decode cX2_firstBehind 4 = .ok (.getfield 27, 3) := by decide +kernel
theorem dX2_firstBehind_7 : decode cX2_firstBehind 7 = .ok (.if_icmp .ge 21, 3) := by decide +kernel
theorem dX2_firstBehind_10 : decode cX2_firstBehind 10 = .ok (.aload_n 0, 1) := by decide +kernel
theorem dX2_firstBehind_11 : decode cX2_firstBehind 11 = .ok (.getfield 15, 3) := by decide +kernel
theorem dX2_firstBehind_14 : decode cX2_firstBehind 14 = .ok (.iload_n 2, 1) := by decide +kernel
theorem dX2_firstBehind_15 : decode cX2_firstBehind 15 = .ok (.iaload, 1) := by decide +kernel
theorem dX2_firstBehind_16 : decode cX2_firstBehind 16 = .ok (.iload_n 1, 1) := by decide +kernel
theorem dX2_firstBehind_17 : decode cX2_firstBehind 17 = .ok (.if_icmp .le 5, 3) := by decide +kernel
theorem dX2_firstBehind_20 : decode cX2_firstBehind 20 = .ok (.iload_n 2, 1) := by decide +kernel
theorem dX2_firstBehind_21 : decode cX2_firstBehind 21 = .ok (.ireturn, 1) := by decide +kernel
theorem dX2_firstBehind_22 : decode cX2_firstBehind 22 = .ok (.iinc 2 1, 3) := by decide +kernel
theorem dX2_firstBehind_25 : decode cX2_firstBehind 25 = .ok (.goto (-23), 3) := by decide +kernel
theorem dX2_firstBehind_28 : decode cX2_firstBehind 28 = .ok (.bipush (-9), 2) := by decide +kernel
theorem dX2_firstBehind_30 : decode cX2_firstBehind 30 = .ok (.ireturn, 1) := by decide +kernel
theorem dX2_lastBefore_0 : decode cX2_lastBefore 0 = .ok (.aload_n 0, 1) := by decide +kernel
theorem dX2_lastBefore_1 : decode cX2_lastBefore 1 = .ok (.getfield 27, 3) := by decide +kernel
theorem dX2_lastBefore_4 : decode cX2_lastBefore 4 = .ok (.iconst 1, 1) := by decide +kernel
theorem dX2_lastBefore_5 : decode cX2_lastBefore 5 = .ok (.isub, 1) := by decide +kernel
theorem dX2_lastBefore_6 : decode cX2_lastBefore 6 = .ok (.istore_n 2, 1) := by decide +kernel
theorem dX2_lastBefore_7 : decode cX2_lastBefore 7 = .ok (.iload_n 2, 1) := by decide +kernel
theorem dX2_lastBefore_8 : decode cX2_lastBefore 8 = .ok (.ifCond .lt 21, 3) := by decide +kernel
theorem dX2_lastBefore_11 : decode cX2_lastBefore 11 = .ok (.aload_n 0, 1) := by decide +kernel
theorem dX2_lastBefore_12 : decode cX2_lastBefore 12 = .ok (.getfield 15, 3) := by decide +kernel
theorem dX2_lastBefore_15 : decode cX2_lastBefore 15 = .ok (.iload_n 2, 1) := by decide +kernel
theorem dX2_lastBefore_16 : decode cX2_lastBefore 16 = .ok (.iaload, 1) := by decide +kernel
theorem dX2_lastBefore_17 : decode cX2_lastBefore 17 = .ok (.iload_n 1, 1) := by decide +kernel
theorem dX2_lastBefore_18 : decode cX2_lastBefore 18 = .ok (.if_icmp .ge 5, 3) := by decide +kernel
theorem dX2_lastBefore_21 : decode cX2_lastBefore 21 = .ok (.iload_n 2, 1) := by decide +kernel
theorem dX2_lastBefore_22 : decode cX2_lastBefore 22 = .ok (.ireturn, 1) := by decide +kernel
theorem dX2_lastBefore_23 : decode cX2_lastBefore 23 = .ok (.iinc 2 (-1), 3) := by decide +kernel
theorem dX2_lastBefore_26 : decode cX2_lastBefore 26 = .ok (.goto (-19), 3) := by decide +kernel
theorem dX2_lastBefore_29 : decode cX2_lastBefore 29 = .ok (.bipush (-9), 2) := by decide +kernel
theorem dX2_lastBefore_31 : decode cX2_lastBefore 31 = .ok (.ireturn, 1) := by decide +kernel
theorem dX2_findNearest_0 : decode cX2_findNearest 0 = .ok (.aload_n 0, 1) := by decide +kernel
theorem dX2_findNearest_1 : decode cX2_findNearest 1 = .ok (.iconst 0, 1) := by decide +kernel
theorem dX2_findNearest_2 : decode cX2_findNearest 2 = .ok (.putfield 50, 3) := by decide +kernel
theorem dX2_findNearest_5 : decode cX2_findNearest 5 = .ok (.iconst 0, 1) := by decide +kernel
theorem dX2_findNearest_6 : decode cX2_findNearest 6 = .ok (.istore 4, 2) := by decide +kernel
theorem dX2_findNearest_8 : decode cX2_findNearest 8 = .ok (.iload 4, 2) := by decide +kernel
theorem dX2_findNearest_10 : decode cX2_findNearest 10 = .ok (.aload_n 0, 1) := by decide +kernel
theorem dX2_findNearest_11 : decode cX2_findNearest 11 = .ok (.getfield 27, 3) := by decide +kernel
theorem dX2_findNearest_14 : decode cX2_findNearest 14 = .ok (.if_icmp .ge 97, 3) := by decide +kernel
theorem dX2_findNearest_17 : decode cX2_findNearest 17 = .ok (.aload_n 0, 1) := by decide +kernel
theorem dX2_findNearest_18 : decode cX2_findNearest 18 = .ok (.getfield 9, 3) := by decide +kernel
theorem dX2_findNearest_21 : decode cX2_findNearest 21 = .ok (.iload_n 2, 1) := by decide +kernel
theorem dX2_findNearest_22 : decode cX2_findNearest 22 = .ok (.ifCond .eq 8, 3) := by decide +kernel
theorem dX2_findNearest_25 : decode cX2_findNearest 25 = .ok (.iload 4, 2) := by decide +kernel
theorem dX2_findNearest_27 : decode cX2_findNearest 27 = .ok (.goto 12, 3) := by decide +kernel
theorem dX2_findNearest_30 : decode cX2_findNearest 30 = .ok (.aload_n 0, 1) := by decide +kernel
theorem dX2_findNearest_31 : decode cX2_findNearest 31 = .ok (.getfield 27, 3) := by decide +kernel
theorem dX2_findNearest_34 : decode cX2_findNearest 34 = .ok (.iconst 1, 1) := by decide +kernel
theorem dX2_findNearest_35 : decode cX2_findNearest 35 = .ok (.isub, 1) := by decide +kernel
theorem dX2_findNearest_36 : decode cX2_findNearest 36 = .ok (.iload 4, 2) := by decide +kernel
theorem dX2_findNearest_38 : decode cX2_findNearest 38 = .ok (.isub, 1) := by decide +kernel
theorem dX2_findNearest_39 : decode cX2_findNearest 39 = .ok (.iaload, 1) := by decide +kernel
theorem dX2_findNearest_40 : decode cX2_findNearest 40 = .ok (.istore 5, 2) := by decide +kernel
theorem dX2_findNearest_42 : decode cX2_findNearest 42 = .ok (.iload_n 2, 1) := by decide +kernel
theorem dX2_findNearest_43 : decode cX2_findNearest 43 = .ok (.ifCond .eq 12, 3) := by decide +kernel
theorem dX2_findNearest_46 : decode cX2_findNearest 46 = .ok (.iload 5, 2) := by decide +kernel
theorem dX2_findNearest_48 : decode cX2_findNearest 48 = .ok (.iload_n 1, 1) := by decide +kernel
theorem dX2_findNearest_49 : decode cX2_findNearest 49 = .ok (.invokestatic 53, 3) := by decide +kernel
theorem dX2_findNearest_52 : decode cX2_findNearest 52 = .ok (.goto 9, 3) := by decide +kernel
theorem dX2_findNearest_55 : decode cX2_findNearest 55 = .ok (.iload_n 1, 1) := by decide +kernel
theorem dX2_findNearest_56 : decode cX2_findNearest 56 = .ok (.iload 5, 2) := by decide +kernel
theorem dX2_findNearest_58 : decode cX2_findNearest 58 = .ok (.invokestatic 53, 3) := by decide +kernel
theorem dX2_findNearest_61 : decode cX2_findNearest 61 = .ok (.istore 6, 2) := by decide +kernel
theorem dX2_findNearest_63 : decode cX2_findNearest 63 = .ok (.iload 6, 2) := by decide +kernel
theorem dX2_findNearest_65 : decode cX2_findNearest 65 = .ok (.ifCond .eq 40, 3) := by decide +kernel
theorem dX2_findNearest_68 : decode cX2_findNearest 68 = .ok (.iload 5, 2) := by decide +kernel
theorem dX2_findNearest_70 : decode cX2_findNearest 70 = .ok (.iload_n 3, 1) := by decide +kernel
theorem dX2_findNearest_71 : decode cX2_findNearest 71 = .ok (.if_icmp .eq 34, 3) := by decide +kernel
theorem dX2_findNearest_74 : decode cX2_findNearest 74 = .ok (.aload_n 0, 1) := by decide +kernel
theorem dX2_findNearest_75 : decode cX2_findNearest 75 = .ok (.iload 5, 2) := by decide +kernel
theorem dX2_findNearest_77 : decode cX2_findNearest 77 = .ok (.iload_n 2, 1) := by decide +kernel
theorem dX2_findNearest_78 : decode cX2_findNearest 78 = .ok (.invokevirtual 57, 3) := by decide +kernel
theorem dX2_findNearest_81 : decode cX2_findNearest 81 = .ok (.ifCond .ne 24, 3) := by decide +kernel
theorem dX2_findNearest_84 : decode cX2_findNearest 84 = .ok (.aload_n 0, 1) := by decide +kernel
theorem dX2_findNearest_85 : decode cX2_findNearest 85 = .ok (.getfield 24, 3) := by decide +kernel
theorem dX2_findNearest_88 : decode cX2_findNearest 88 = .ok (.aload_n 0, 1) := by decide +kernel
theorem dX2_findNearest_89 : decode cX2_findNearest 89 = .ok (.getfield 50, 3) := by decide +kernel
theorem dX2_findNearest_92 : decode cX2_findNearest 92 = .ok (.iload 5, 2) := by decide +kernel
theorem dX2_findNearest_94 : decode cX2_findNearest 94 = .ok (.iastore, 1) := by decide +kernel
theorem dX2_findNearest_95 : decode cX2_findNearest 95 = .ok (.aload_n 0, 1) := by decide +kernel
theorem dX2_findNearest_96 : decode cX2_findNearest 96 = .ok (.dup, 1) := by decide +kernel
theorem dX2_findNearest_97 : decode cX2_findNearest 97 = .ok (.getfield 50, 3) := by decide +kernel
theorem dX2_findNearest_100 : decode cX2_findNearest 100 = .ok (.iconst 1, 1) := by decide +kernel
theorem dX2_findNearest_101 : decode cX2_findNearest 101 = .ok (.iadd, 1) := by decide +kernel
theorem dX2_findNearest_102 : decode cX2_findNearest 102 = .ok (.putfield 50, 3) := by decide +kernel
theorem dX2_findNearest_105 : decode cX2_findNearest 105 = .ok (.iinc 4 1, 3) := by decide +kernel
theorem dX2_findNearest_108 : decode cX2_findNearest 108 = .ok (.goto (-100), 3) := by decide +kernel
theorem dX2_findNearest_111 : decode cX2_findNearest 111 = .ok (.return_, 1) := by decide +kernel
theorem dX2_isBehindNearest_0 : decode cX2_isBehindNearest 0 = .ok (.iconst 0, 1) := by decide +kernel
theorem dX2_isBehindNearest_1 : decode cX2_isBehindNearest 1 = .ok (.istore_n 3, 1) := by decide +kernel
theorem dX2_isBehindNearest_2 : decode cX2_isBehindNearest 2 = .ok (.iload_n 3, 1) := by decide +kernel
theorem dX2_isBehindNearest_3 : decode cX2_isBehindNearest 3 = .ok (.aload_n 0, 1) := by decide +kernel
theorem dX2_isBehindNearest_4 : decode cX2_isBehindNearest 4 = .ok (.getfield 50, 3) := by decide +kernel
theorem dX2_isBehindNearest_7 : decode cX2_isBehindNearest 7 = .ok (.if_icmp .ge 44, 3) := by decide +kernel
theorem dX2_isBehindNearest_10 : decode cX2_isBehindNearest 10 = .ok (.iload_n 2, 1) := by decide +kernel
theorem dX2_isBehindNearest_11 : decode cX2_isBehindNearest 11 = .ok (.ifCond .eq 19, 3) := by decide +kernel
theorem dX2_isBehindNearest_14 : decode cX2_isBehindNearest 14 = .ok (.iload_n 1, 1) := by decide +kernel
theorem dX2_isBehindNearest_15 : decode cX2_isBehindNearest 15 = .ok (.aload_n 0, 1) := by decide +kernel
theorem dX2_isBehindNearest_16 : decode cX2_isBehindNearest 16 = .ok (.getfield 24, 3) := by decide +kernel
theorem dX2_isBehindNearest_19 : decode cX2_isBehindNearest 19 = .ok (.iload_n 3, 1) := by decide +kernel
theorem dX2_isBehindNearest_20 : decode cX2_isBehindNearest 20 = .ok (.iaload, 1) := by decide +kernel
theorem dX2_isBehindNearest_21 : decode cX2_isBehindNearest 21 = .ok (.invokestatic 53, 3) := by decide +kernel
theorem dX2_isBehindNearest_24 : decode cX2_isBehindNearest 24 = .ok (.ifCond .eq 21, 3) := by decide +kernel
theorem dX2_isBehindNearest_27 : decode cX2_isBehindNearest 27 = .ok (.goto 16, 3) := by decide +kernel
theorem dX2_isBehindNearest_30 : decode cX2_isBehindNearest 30 = .ok (.aload_n 0, 1) := by decide +kernel
theorem dX2_isBehindNearest_31 : decode cX2_isBehindNearest 31 = .ok (.getfield 24, 3) := by decide +kernel
theorem dX2_isBehindNearest_34 : decode cX2_isBehindNearest 34 = .ok (.iload_n 3, 1) := by decide +kernel
theorem dX2_isBehindNearest_35 : decode cX2_isBehindNearest 35 = .ok (.iaload, 1) := by decide +kernel
theorem dX2_isBehindNearest_36 : decode cX2_isBehindNearest 36 = .ok (.iload_n 1, 1) := by decide +kernel
theorem dX2_isBehindNearest_37 : decode cX2_isBehindNearest 37 = .ok (.invokestatic 53, 3) := by decide +kernel
theorem dX2_isBehindNearest_40 : decode cX2_isBehindNearest 40 = .ok (.ifCond .eq 5, 3) := by decide +kernel
theorem dX2_isBehindNearest_43 : decode cX2_isBehindNearest 43 = .ok (.iconst 1, 1) := by decide +kernel
theorem dX2_isBehindNearest_44 : decode cX2_isBehindNearest 44 = .ok (.ireturn, 1) := by decide +kernel
theorem dX2_isBehindNearest_45 : decode cX2_isBehindNearest 45 = .ok (.iinc 3 1, 3) := by decide +kernel
theorem dX2_isBehindNearest_48 : decode cX2_isBehindNearest 48 = .ok (.goto (-46), 3) := by decide +kernel
theorem dX2_isBehindNearest_51 : decode cX2_isBehindNearest 51 = .ok (.iconst 0, 1) := by decide +kernel
theorem dX2_isBehindNearest_52 : decode cX2_isBehindNearest 52 = .ok (.ireturn, 1) := by decide +kernel
theorem dX3_init_0 : decode cX3_init 0 = .ok (.aload_n 0, 1) := by decide +kernel
theorem dX3_init_1 : decode cX3_init 1 = .ok (.invokespecial 3, 3) := by decide +kernel
theorem dX3_init_4 : decode cX3_init 4 = .ok (.aload_n 0, 1) := by decide +kernel
theorem dX3_init_5 : decode cX3_init 5 = .ok (.bipush 6, 2) := by decide +kernel
theorem dX3_init_7 : decode cX3_init 7 = .ok (.newarray .int, 2) := by decide +kernel
theorem dX3_init_9 : decode cX3_init 9 = .ok (.putfield 9, 3) := by decide +kernel
theorem dX3_init_12 : decode cX3_init 12 = .ok (.aload_n 0, 1) := by decide +kernel
theorem dX3_init_13 : decode cX3_init 13 = .ok (.bipush 6, 2) := by decide +kernel
theorem dX3_init_15 : decode cX3_init 15 = .ok (.newarray .int, 2) := by decide +kernel
theorem dX3_init_17 : decode cX3_init 17 = .ok (.putfield 15, 3) := by decide +kernel
theorem dX3_init_20 : decode cX3_init 20 = .ok (.return_, 1) := by decide +kernel
theorem dX3_spell_0 : decode cX3_spell 0 = .ok (.aload_n 0, 1) := by decide +kernel
theorem dX3_spell_1 : decode cX3_spell 1 = .ok (.iload_n 2, 1) := by decide +kernel
theorem dX3_spell_2 : decode cX3_spell 2 = .ok (.bipush 6, 2) := by decide +kernel
theorem dX3_spell_4 : decode cX3_spell 4 = .ok (.invokestatic 18, 3) := by decide +kernel
theorem dX3_spell_7 : decode cX3_spell 7 = .ok (.putfield 24, 3) := by decide +kernel
theorem dX3_spell_10 : decode cX3_spell 10 = .ok (.aload_n 0, 1) := by decide +kernel
theorem dX3_spell_11 : decode cX3_spell 11 = .ok (.iconst 0, 1) := by decide +kernel
theorem dX3_spell_12 : decode cX3_spell 12 = .ok (.putfield 28, 3) := by decide +kernel
theorem dX3_spell_15 : decode cX3_spell 15 = .ok (.iconst 0, 1) := by decide +kernel
theorem dX3_spell_16 : decode cX3_spell 16 = .ok (.istore_n 3, 1) := by decide +kernel
theorem dX3_spell_17 : decode cX3_spell 17 = .ok (.iload_n 3, 1) := by decide +kernel
theorem dX3_spell_18 : decode cX3_spell 18 = .ok (.aload_n 0, 1) := by decide +kernel
theorem dX3_spell_19 : decode cX3_spell 19 = .ok (.getfield 24, 3) := by decide +kernel
theorem dX3_spell_22 : decode cX3_spell 22 = .ok (.if_icmp .ge 65, 3) := by decide +kernel
theorem dX3_spell_25 : decode cX3_spell 25 = .ok (.aload_n 0, 1) := by decide +kernel
theorem dX3_spell_26 : decode cX3_spell 26 = .ok (.iload_n 1, 1) := by decide +kernel
theorem dX3_spell_27 : decode cX3_spell 27 = .ok (.iload_n 3, 1) := by decide +kernel
theorem dX3_spell_28 : decode cX3_spell 28 = .ok (.invokevirtual 31, 3) := by decide +kernel
theorem dX3_spell_31 : decode cX3_spell 31 = .ok (.istore 4, 2) := by decide +kernel
theorem dX3_spell_33 : decode cX3_spell 33 = .ok (.iload 4, 2) := by decide +kernel
theorem dX3_spell_35 : decode cX3_spell 35 = .ok (.aload_n 0, 1) := by decide +kernel
theorem dX3_spell_36 : decode cX3_spell 36 = .ok (.getfield 28, 3) := by decide +kernel
theorem dX3_spell_39 : decode cX3_spell 39 = .ok (.if_icmp .ne 21, 3) := by decide +kernel
theorem dX3_spell_42 : decode cX3_spell 42 = .ok (.aload_n 0, 1) := by decide +kernel
theorem dX3_spell_43 : decode cX3_spell 43 = .ok (.getfield 15, 3) := by decide +kernel
theorem dX3_spell_46 : decode cX3_spell 46 = .ok (.iload 4, 2) := by decide +kernel
theorem dX3_spell_48 : decode cX3_spell 48 = .ok (.iconst 0, 1) := by decide +kernel
theorem dX3_spell_49 : decode cX3_spell 49 = .ok (.iastore, 1) := by decide +kernel
theorem dX3_spell_50 : decode cX3_spell 50 = .ok (.aload_n 0, 1) := by decide +kernel
theorem dX3_spell_51 : decode cX3_spell 51 = .ok (.dup, 1) := by decide +kernel
theorem dX3_spell_52 : decode cX3_spell 52 = .ok (.getfield 28, 3) := by decide +kernel
theorem dX3_spell_55 : decode cX3_spell 55 = .ok (.iconst 1, 1) := by decide +kernel
theorem dX3_spell_56 : decode cX3_spell 56 = .ok (.iadd, 1) := by decide +kernel
theorem dX3_spell_57 : decode cX3_spell 57 = .ok (.putfield 28, 3) := by decide +kernel
theorem dX3_spell_60 : decode cX3_spell 60 = .ok (.aload_n 0, 1) := by decide +kernel
theorem dX3_spell_61 : decode cX3_spell 61 = .ok (.getfield 9, 3) := by decide +kernel
theorem dX3_spell_64 : decode cX3_spell 64 = .ok (.iload_n 3, 1) := by decide +kernel
theorem dX3_spell_65 : decode cX3_spell 65 = .ok (.iload 4, 2) := by decide +kernel
theorem dX3_spell_67 : decode cX3_spell 67 = .ok (.iastore, 1) := by decide +kernel
theorem dX3_spell_68 : decode cX3_spell 68 = .ok (.aload_n 0, 1) := by decide +kernel
theorem dX3_spell_69 : decode cX3_spell 69 = .ok (.getfield 15, 3) := by decide +kernel
theorem dX3_spell_72 : decode cX3_spell 72 = .ok (.iload 4, 2) := by decide +kernel
theorem dX3_spell_74 : decode cX3_spell 74 = .ok (.dup2, 1) := by decide +kernel
theorem dX3_spell_75 : decode cX3_spell 75 = .ok (.iaload, 1) := by decide +kernel
theorem dX3_spell_76 : decode cX3_spell 76 = .ok (.iconst 1, 1) := by decide +kernel
theorem dX3_spell_77 : decode cX3_spell 77 = .ok (.iload_n 3, 1) := by decide +kernel
theorem dX3_spell_78 : decode cX3_spell 78 = .ok (.ishl, 1) := by decide +kernel
theorem dX3_spell_79 : decode cX3_spell 79 = .ok (.ior, 1) := by decide +kernel
theorem dX3_spell_80 : decode cX3_spell 80 = .ok (.iastore, 1) := by decide +kernel
theorem dX3_spell_81 : decode cX3_spell 81 = .ok (.iinc 3 1, 3) := by decide +kernel
theorem dX3_spell_84 : decode cX3_spell 84 = .ok (.goto (-67), 3) := by decide +kernel
theorem dX3_spell_87 : decode cX3_spell 87 = .ok (.return_, 1) := by decide +kernel
theorem dX3_labelOfPartner_0 : decode cX3_labelOfPartner 0 = .ok (.iconst 0, 1) := by decide +kernel
theorem dX3_labelOfPartner_1 : decode cX3_labelOfPartner 1 = .ok (.istore_n 3, 1) := by decide +kernel
theorem dX3_labelOfPartner_2 : decode cX3_labelOfPartner 2 = .ok (.iload_n 3, 1) := by decide +kernel
theorem dX3_labelOfPartner_3 : decode cX3_labelOfPartner 3 = .ok (.iload_n 2, 1) := by decide +kernel
theorem dX3_labelOfPartner_4 : decode cX3_labelOfPartner 4 = .ok (.if_icmp .ge 26, 3) := by decide +kernel
theorem dX3_labelOfPartner_7 : decode cX3_labelOfPartner 7 = .ok (.iload_n 1, 1) := by decide +kernel
theorem dX3_labelOfPartner_8 : decode cX3_labelOfPartner 8 = .ok (.iload_n 3, 1) := by decide +kernel
theorem dX3_labelOfPartner_9 : decode cX3_labelOfPartner 9 = .ok (.iload_n 2, 1) := by decide +kernel
theorem dX3_labelOfPartner_10 : decode cX3_labelOfPartner 10 = .ok (.invokestatic 34, 3) := by decide +kernel
theorem dX3_labelOfPartner_13 : decode cX3_labelOfPartner 13 = .ok (.iand, 1) := by decide +kernel
theorem dX3_labelOfPartner_14 : decode cX3_labelOfPartner 14 = .ok (.ifCond .eq 10, 3) := by decide +kernel
theorem dX3_labelOfPartner_17 : decode cX3_labelOfPartner 17 = .ok (.aload_n 0, 1) := by decide +kernel
theorem dX3_labelOfPartner_18 : decode cX3_labelOfPartner 18 = .ok (.getfield 9, 3) := by decide +kernel
theorem dX3_labelOfPartner_21 : decode cX3_labelOfPartner 21 = .ok (.iload_n 3, 1) := by decide +kernel
theorem dX3_labelOfPartner_22 : decode cX3_labelOfPartner 22 = .ok (.iaload, 1) := by decide +kernel
theorem dX3_labelOfPartner_23 : decode cX3_labelOfPartner 23 = .ok (.ireturn, 1) := by decide +kernel
theorem dX3_labelOfPartner_24 : decode cX3_labelOfPartner 24 = .ok (.iinc 3 1, 3) := by decide +kernel
theorem dX3_labelOfPartner_27 : decode cX3_labelOfPartner 27 = .ok (.goto (-25), 3) := by decide +kernel
theorem dX3_labelOfPartner_30 : decode cX3_labelOfPartner 30 = .ok (.aload_n 0, 1) := by decide +kernel
theorem dX3_labelOfPartner_31 : decode cX3_labelOfPartner 31 = .ok (.getfield 28, 3) := by decide +kernel
theorem dX3_labelOfPartner_34 : decode cX3_labelOfPartner 34 = .ok (.ireturn, 1) := by decide +kernel
theorem dX3_growthNumber_0 : decode cX3_growthNumber 0 = .ok (.iconst 0, 1) := by decide +kernel
theorem dX3_growthNumber_1 : decode cX3_growthNumber 1 = .ok (.istore_n 1, 1) := by decide +kernel
theorem dX3_growthNumber_2 : decode cX3_growthNumber 2 = .ok (.iconst 0, 1) := by decide +kernel
theorem dX3_growthNumber_3 : decode cX3_growthNumber 3 = .ok (.istore_n 2, 1) := by decide +kernel
theorem dX3_growthNumber_4 : decode cX3_growthNumber 4 = .ok (.iload_n 2, 1) := by decide +kernel
theorem dX3_growthNumber_5 : decode cX3_growthNumber 5 = .ok (.aload_n 0, 1) := by decide +kernel
theorem dX3_growthNumber_6 : decode cX3_growthNumber 6 = .ok (.getfield 24, 3) := by decide +kernel
theorem dX3_growthNumber_9 : decode cX3_growthNumber 9 = .ok (.if_icmp .ge 21, 3) := by decide +kernel
theorem dX3_growthNumber_12 : decode cX3_growthNumber 12 = .ok (.iload_n 1, 1) := by decide +kernel
theorem dX3_growthNumber_13 : decode cX3_growthNumber 13 = .ok (.bipush 6, 2) := by decide +kernel
theorem dX3_growthNumber_15 : decode cX3_growthNumber 15 = .ok (.imul, 1) := by decide +kernel
theorem dX3_growthNumber_16 : decode cX3_growthNumber 16 = .ok (.aload_n 0, 1) := by decide +kernel
theorem dX3_growthNumber_17 : decode cX3_growthNumber 17 = .ok (.getfield 9, 3) := by decide +kernel
theorem dX3_growthNumber_20 : decode cX3_growthNumber 20 = .ok (.iload_n 2, 1) := by decide +kernel
theorem dX3_growthNumber_21 : decode cX3_growthNumber 21 = .ok (.iaload, 1) := by decide +kernel
theorem dX3_growthNumber_22 : decode cX3_growthNumber 22 = .ok (.iadd, 1) := by decide +kernel
theorem dX3_growthNumber_23 : decode cX3_growthNumber 23 = .ok (.istore_n 1, 1) := by decide +kernel
theorem dX3_growthNumber_24 : decode cX3_growthNumber 24 = .ok (.iinc 2 1, 3) := by decide +kernel
theorem dX3_growthNumber_27 : decode cX3_growthNumber 27 = .ok (.goto (-23), 3) := by decide +kernel
theorem dX3_growthNumber_30 : decode cX3_growthNumber 30 = .ok (.iload_n 1, 1) := by decide +kernel
theorem dX3_growthNumber_31 : decode cX3_growthNumber 31 = .ok (.ireturn, 1) := by decide +kernel
theorem dX3_sizeSet_0 : decode cX3_sizeSet 0 = .ok (.iconst 0, 1) := by decide +kernel
theorem dX3_sizeSet_1 : decode cX3_sizeSet 1 = .ok (.istore_n 1, 1) := by decide +kernel
theorem dX3_sizeSet_2 : decode cX3_sizeSet 2 = .ok (.iconst 0, 1) := by decide +kernel
theorem dX3_sizeSet_3 : decode cX3_sizeSet 3 = .ok (.istore_n 2, 1) := by decide +kernel
theorem dX3_sizeSet_4 : decode cX3_sizeSet 4 = .ok (.iload_n 2, 1) := by decide +kernel
theorem dX3_sizeSet_5 : decode cX3_sizeSet 5 = .ok (.aload_n 0, 1) := by decide +kernel
theorem dX3_sizeSet_6 : decode cX3_sizeSet 6 = .ok (.getfield 28, 3) := by decide +kernel
theorem dX3_sizeSet_9 : decode cX3_sizeSet 9 = .ok (.if_icmp .ge 23, 3) := by decide +kernel
theorem dX3_sizeSet_12 : decode cX3_sizeSet 12 = .ok (.iload_n 1, 1) := by decide +kernel
theorem dX3_sizeSet_13 : decode cX3_sizeSet 13 = .ok (.iconst 1, 1) := by decide +kernel
theorem dX3_sizeSet_14 : decode cX3_sizeSet 14 = .ok (.aload_n 0, 1) := by decide +kernel
theorem dX3_sizeSet_15 : decode cX3_sizeSet 15 = .ok (.getfield 15, 3) := by decide +kernel
theorem dX3_sizeSet_18 : decode cX3_sizeSet 18 = .ok (.iload_n 2, 1) := by decide +kernel
theorem dX3_sizeSet_19 : decode cX3_sizeSet 19 = .ok (.iaload, 1) := by decide +kernel
theorem dX3_sizeSet_20 : decode cX3_sizeSet 20 = .ok (.invokestatic 37, 3) := by decide +kernel
theorem dX3_sizeSet_23 : decode cX3_sizeSet 23 = .ok (.ishl, 1) := by decide +kernel
theorem dX3_sizeSet_24 : decode cX3_sizeSet 24 = .ok (.ior, 1) := by decide +kernel
theorem dX3_sizeSet_25 : decode cX3_sizeSet 25 = .ok (.istore_n 1, 1) := by decide +kernel
theorem dX3_sizeSet_26 : decode cX3_sizeSet 26 = .ok (.iinc 2 1, 3) := by decide +kernel
theorem dX3_sizeSet_29 : decode cX3_sizeSet 29 = .ok (.goto (-25), 3) := by decide +kernel
theorem dX3_sizeSet_32 : decode cX3_sizeSet 32 = .ok (.iload_n 1, 1) := by decide +kernel
theorem dX3_sizeSet_33 : decode cX3_sizeSet 33 = .ok (.ireturn, 1) := by decide +kernel
theorem dX3_typeNumber_0 : decode cX3_typeNumber 0 = .ok (.iconst 0, 1) := by decide +kernel
theorem dX3_typeNumber_1 : decode cX3_typeNumber 1 = .ok (.istore_n 1, 1) := by decide +kernel
theorem dX3_typeNumber_2 : decode cX3_typeNumber 2 = .ok (.iconst 0, 1) := by decide +kernel
theorem dX3_typeNumber_3 : decode cX3_typeNumber 3 = .ok (.istore_n 2, 1) := by decide +kernel
theorem dX3_typeNumber_4 : decode cX3_typeNumber 4 = .ok (.iload_n 2, 1) := by decide +kernel
theorem dX3_typeNumber_5 : decode cX3_typeNumber 5 = .ok (.aload_n 0, 1) := by decide +kernel
theorem dX3_typeNumber_6 : decode cX3_typeNumber 6 = .ok (.getfield 28, 3) := by decide +kernel
theorem dX3_typeNumber_9 : decode cX3_typeNumber 9 = .ok (.if_icmp .ge 27, 3) := by decide +kernel
theorem dX3_typeNumber_12 : decode cX3_typeNumber 12 = .ok (.iload_n 1, 1) := by decide +kernel
theorem dX3_typeNumber_13 : decode cX3_typeNumber 13 = .ok (.iconst 1, 1) := by decide +kernel
theorem dX3_typeNumber_14 : decode cX3_typeNumber 14 = .ok (.iconst 3, 1) := by decide +kernel
theorem dX3_typeNumber_15 : decode cX3_typeNumber 15 = .ok (.aload_n 0, 1) := by decide +kernel
theorem dX3_typeNumber_16 : decode cX3_typeNumber 16 = .ok (.getfield 15, 3) := by decide +kernel
theorem dX3_typeNumber_19 : decode cX3_typeNumber 19 = .ok (.iload_n 2, 1) := by decide +kernel
theorem dX3_typeNumber_20 : decode cX3_typeNumber 20 = .ok (.iaload, 1) := by decide +kernel
theorem dX3_typeNumber_21 : decode cX3_typeNumber 21 = .ok (.invokestatic 37, 3) := by decide +kernel
theorem dX3_typeNumber_24 : decode cX3_typeNumber 24 = .ok (.iconst 1, 1) := by decide +kernel
theorem dX3_typeNumber_25 : decode cX3_typeNumber 25 = .ok (.isub, 1) := by decide +kernel
theorem dX3_typeNumber_26 : decode cX3_typeNumber 26 = .ok (.imul, 1) := by decide +kernel
theorem dX3_typeNumber_27 : decode cX3_typeNumber 27 = .ok (.ishl, 1) := by decide +kernel
theorem dX3_typeNumber_28 : decode cX3_typeNumber 28 = .ok (.iadd, 1) := by decide +kernel
theorem dX3_typeNumber_29 : decode cX3_typeNumber 29 = .ok (.istore_n 1, 1) := by decide +kernel
theorem dX3_typeNumber_30 : decode cX3_typeNumber 30 = .ok (.iinc 2 1, 3) := by decide +kernel
theorem dX3_typeNumber_33 : decode cX3_typeNumber 33 = .ok (.goto (-29), 3) := by decide +kernel
theorem dX3_typeNumber_36 : decode cX3_typeNumber 36 = .ok (.iload_n 1, 1) := by decide +kernel
theorem dX3_typeNumber_37 : decode cX3_typeNumber 37 = .ok (.ireturn, 1) := by decide +kernel
theorem dX3_firstBlockNotIn_0 : decode cX3_firstBlockNotIn 0 = .ok (.iconst 0, 1) := by decide +kernel
theorem dX3_firstBlockNotIn_1 : decode cX3_firstBlockNotIn 1 = .ok (.istore_n 2, 1) := by decide +kernel
theorem dX3_firstBlockNotIn_2 : decode cX3_firstBlockNotIn 2 = .ok (.iload_n 2, 1) := by decide +kernel
theorem dX3_firstBlockNotIn_3 : decode cX3_firstBlockNotIn 3 = .ok (.aload_n 0, 1) := by decide +kernel
theorem dX3_firstBlockNotIn_4 : decode cX3_firstBlockNotIn 4 = .ok (.getfield 28, 3) := by decide +kernel
theorem dX3_firstBlockNotIn_7 : decode cX3_firstBlockNotIn 7 = .ok (.if_icmp .ge 27, 3) := by decide +kernel
theorem dX3_firstBlockNotIn_10 : decode cX3_firstBlockNotIn 10 = .ok (.iload_n 1, 1) := by decide +kernel
theorem dX3_firstBlockNotIn_11 : decode cX3_firstBlockNotIn 11 = .ok (.aload_n 0, 1) := by decide +kernel
theorem dX3_firstBlockNotIn_12 : decode cX3_firstBlockNotIn 12 = .ok (.getfield 15, 3) := by decide +kernel
theorem dX3_firstBlockNotIn_15 : decode cX3_firstBlockNotIn 15 = .ok (.iload_n 2, 1) := by decide +kernel
theorem dX3_firstBlockNotIn_16 : decode cX3_firstBlockNotIn 16 = .ok (.iaload, 1) := by decide +kernel
theorem dX3_firstBlockNotIn_17 : decode cX3_firstBlockNotIn 17 = .ok (.invokestatic 37, 3) := by decide +kernel
theorem dX3_firstBlockNotIn_20 : decode cX3_firstBlockNotIn 20 = .ok (.ishr, 1) := by decide +kernel
theorem dX3_firstBlockNotIn_21 : decode cX3_firstBlockNotIn 21 = .ok (.iconst 1, 1) := by decide +kernel
theorem dX3_firstBlockNotIn_22 : decode cX3_firstBlockNotIn 22 = .ok (.iand, 1) := by decide +kernel
theorem dX3_firstBlockNotIn_23 : decode cX3_firstBlockNotIn 23 = .ok (.ifCond .ne 5, 3) := by decide +kernel
theorem dX3_firstBlockNotIn_26 : decode cX3_firstBlockNotIn 26 = .ok (.iload_n 2, 1) := by decide +kernel
theorem dX3_firstBlockNotIn_27 : decode cX3_firstBlockNotIn 27 = .ok (.ireturn, 1) := by decide +kernel
theorem dX3_firstBlockNotIn_28 : decode cX3_firstBlockNotIn 28 = .ok (.iinc 2 1, 3) := by decide +kernel
theorem dX3_firstBlockNotIn_31 : decode cX3_firstBlockNotIn 31 = .ok (.goto (-29), 3) := by decide +kernel
theorem dX3_firstBlockNotIn_34 : decode cX3_firstBlockNotIn 34 = .ok (.bipush (-9), 2) := by decide +kernel
theorem dX3_firstBlockNotIn_36 : decode cX3_firstBlockNotIn 36 = .ok (.ireturn, 1) := by decide +kernel
theorem dX3_crossingCount_0 : decode cX3_crossingCount 0 = .ok (.iconst 0, 1) := by decide +kernel
theorem dX3_crossingCount_1 : decode cX3_crossingCount 1 = .ok (.istore_n 1, 1) := by decide +kernel
theorem dX3_crossingCount_2 : decode cX3_crossingCount 2 = .ok (.iconst 0, 1) := by decide +kernel
theorem dX3_crossingCount_3 : decode cX3_crossingCount 3 = .ok (.istore_n 2, 1) := by decide +kernel
theorem dX3_crossingCount_4 : decode cX3_crossingCount 4 = .ok (.iload_n 2, 1) := by decide +kernel
theorem dX3_crossingCount_5 : decode cX3_crossingCount 5 = .ok (.aload_n 0, 1) := by decide +kernel
theorem dX3_crossingCount_6 : decode cX3_crossingCount 6 = .ok (.getfield 28, 3) := by decide +kernel
theorem dX3_crossingCount_9 : decode cX3_crossingCount 9 = .ok (.if_icmp .ge 48, 3) := by decide +kernel
theorem dX3_crossingCount_12 : decode cX3_crossingCount 12 = .ok (.iload_n 2, 1) := by decide +kernel
theorem dX3_crossingCount_13 : decode cX3_crossingCount 13 = .ok (.iconst 1, 1) := by decide +kernel
theorem dX3_crossingCount_14 : decode cX3_crossingCount 14 = .ok (.iadd, 1) := by decide +kernel
theorem dX3_crossingCount_15 : decode cX3_crossingCount 15 = .ok (.istore_n 3, 1) := by decide +kernel
theorem dX3_crossingCount_16 : decode cX3_crossingCount 16 = .ok (.iload_n 3, 1) := by decide +kernel
theorem dX3_crossingCount_17 : decode cX3_crossingCount 17 = .ok (.aload_n 0, 1) := by decide +kernel
theorem dX3_crossingCount_18 : decode cX3_crossingCount 18 = .ok (.getfield 28, 3) := by decide +kernel
theorem dX3_crossingCount_21 : decode cX3_crossingCount 21 = .ok (.if_icmp .ge 30, 3) := by decide +kernel
theorem dX3_crossingCount_24 : decode cX3_crossingCount 24 = .ok (.aload_n 0, 1) := by decide +kernel
theorem dX3_crossingCount_25 : decode cX3_crossingCount 25 = .ok (.getfield 15, 3) := by decide +kernel
theorem dX3_crossingCount_28 : decode cX3_crossingCount 28 = .ok (.iload_n 2, 1) := by decide +kernel
theorem dX3_crossingCount_29 : decode cX3_crossingCount 29 = .ok (.iaload, 1) := by decide +kernel
theorem dX3_crossingCount_30 : decode cX3_crossingCount 30 = .ok (.aload_n 0, 1) := by decide +kernel
theorem dX3_crossingCount_31 : decode cX3_crossingCount 31 = .ok (.getfield 15, 3) := by decide +kernel
theorem dX3_crossingCount_34 : decode cX3_crossingCount 34 = .ok (.iload_n 3, 1) := by decide +kernel
theorem dX3_crossingCount_35 : decode cX3_crossingCount 35 = .ok (.iaload, 1) := by decide +kernel
theorem dX3_crossingCount_36 : decode cX3_crossingCount 36 = .ok (.invokestatic 43, 3) := by decide +kernel
theorem dX3_crossingCount_39 : decode cX3_crossingCount 39 = .ok (.ifCond .eq 6, 3) := by decide +kernel
theorem dX3_crossingCount_42 : decode cX3_crossingCount 42 = .ok (.iinc 1 1, 3) := by decide +kernel
theorem dX3_crossingCount_45 : decode cX3_crossingCount 45 = .ok (.iinc 3 1, 3) := by decide +kernel
theorem dX3_crossingCount_48 : decode cX3_crossingCount 48 = .ok (.goto (-32), 3) := by decide +kernel
theorem dX3_crossingCount_51 : decode cX3_crossingCount 51 = .ok (.iinc 2 1, 3) := by decide +kernel
theorem dX3_crossingCount_54 : decode cX3_crossingCount 54 = .ok (.goto (-50), 3) := by decide +kernel
theorem dX3_crossingCount_57 : decode cX3_crossingCount 57 = .ok (.iload_n 1, 1) := by decide +kernel
theorem dX3_crossingCount_58 : decode cX3_crossingCount 58 = .ok (.ireturn, 1) := by decide +kernel
theorem dX3_firstCrossing_0 : decode cX3_firstCrossing 0 = .ok (.iconst 0, 1) := by decide +kernel
theorem dX3_firstCrossing_1 : decode cX3_firstCrossing 1 = .ok (.istore_n 1, 1) := by decide +kernel
theorem dX3_firstCrossing_2 : decode cX3_firstCrossing 2 = .ok (.iload_n 1, 1) := by decide +kernel
theorem dX3_firstCrossing_3 : decode cX3_firstCrossing 3 = .ok (.aload_n 0, 1) := by decide +kernel
theorem dX3_firstCrossing_4 : decode cX3_firstCrossing 4 = .ok (.getfield 28, 3) := by decide +kernel
theorem dX3_firstCrossing_7 : decode cX3_firstCrossing 7 = .ok (.if_icmp .ge 52, 3) := by decide +kernel
theorem dX3_firstCrossing_10 : decode cX3_firstCrossing 10 = .ok (.iload_n 1, 1) := by decide +kernel
theorem dX3_firstCrossing_11 : decode cX3_firstCrossing 11 = .ok (.iconst 1, 1) := by decide +kernel
theorem dX3_firstCrossing_12 : decode cX3_firstCrossing 12 = .ok (.iadd, 1) := by decide +kernel
theorem dX3_firstCrossing_13 : decode cX3_firstCrossing 13 = .ok (.istore_n 2, 1) := by decide +kernel
theorem dX3_firstCrossing_14 : decode cX3_firstCrossing 14 = .ok (.iload_n 2, 1) := by decide +kernel
theorem dX3_firstCrossing_15 : decode cX3_firstCrossing 15 = .ok (.aload_n 0, 1) := by decide +kernel
theorem dX3_firstCrossing_16 : decode cX3_firstCrossing 16 = .ok (.getfield 28, 3) := by decide +kernel
theorem dX3_firstCrossing_19 : decode cX3_firstCrossing 19 = .ok (.if_icmp .ge 34, 3) := by decide +kernel
theorem dX3_firstCrossing_22 : decode cX3_firstCrossing 22 = .ok (.aload_n 0, 1) := by decide +kernel
theorem dX3_firstCrossing_23 : decode cX3_firstCrossing 23 = .ok (.getfield 15, 3) := by decide +kernel
theorem dX3_firstCrossing_26 : decode cX3_firstCrossing 26 = .ok (.iload_n 1, 1) := by decide +kernel
theorem dX3_firstCrossing_27 : decode cX3_firstCrossing 27 = .ok (.iaload, 1) := by decide +kernel
theorem dX3_firstCrossing_28 : decode cX3_firstCrossing 28 = .ok (.aload_n 0, 1) := by decide +kernel
theorem dX3_firstCrossing_29 : decode cX3_firstCrossing 29 = .ok (.getfield 15, 3) := by decide +kernel
theorem dX3_firstCrossing_32 : decode cX3_firstCrossing 32 = .ok (.iload_n 2, 1) := by decide +kernel
theorem dX3_firstCrossing_33 : decode cX3_firstCrossing 33 = .ok (.iaload, 1) := by decide +kernel
theorem dX3_firstCrossing_34 : decode cX3_firstCrossing 34 = .ok (.invokestatic 43, 3) := by decide +kernel
theorem dX3_firstCrossing_37 : decode cX3_firstCrossing 37 = .ok (.ifCond .eq 10, 3) := by decide +kernel
theorem dX3_firstCrossing_40 : decode cX3_firstCrossing 40 = .ok (.bipush 10, 2) := by decide +kernel
theorem dX3_firstCrossing_42 : decode cX3_firstCrossing 42 = .ok (.iload_n 1, 1) := by decide +kernel
theorem dX3_firstCrossing_43 : decode cX3_firstCrossing 43 = .ok (.imul, 1) := by decide +kernel
theorem dX3_firstCrossing_44 : decode cX3_firstCrossing 44 = .ok (.iload_n 2, 1) := by decide +kernel
theorem dX3_firstCrossing_45 : decode cX3_firstCrossing 45 = .ok (.iadd, 1) := by decide +kernel
theorem dX3_firstCrossing_46 : decode cX3_firstCrossing 46 = .ok (.ireturn, 1) := by decide +kernel
theorem dX3_firstCrossing_47 : decode cX3_firstCrossing 47 = .ok (.iinc 2 1, 3) := by decide +kernel
theorem dX3_firstCrossing_50 : decode cX3_firstCrossing 50 = .ok (.goto (-36), 3) := by decide +kernel
theorem dX3_firstCrossing_53 : decode cX3_firstCrossing 53 = .ok (.iinc 1 1, 3) := by decide +kernel
theorem dX3_firstCrossing_56 : decode cX3_firstCrossing 56 = .ok (.goto (-54), 3) := by decide +kernel
theorem dX3_firstCrossing_59 : decode cX3_firstCrossing 59 = .ok (.bipush (-9), 2) := by decide +kernel
theorem dX3_firstCrossing_61 : decode cX3_firstCrossing 61 = .ok (.ireturn, 1) := by decide +kernel
theorem dX3_areCrossing_0 : decode cX3_areCrossing 0 = .ok (.iconst 0, 1) := by decide +kernel
theorem dX3_areCrossing_1 : decode cX3_areCrossing 1 = .ok (.istore_n 2, 1) := by decide +kernel
theorem dX3_areCrossing_2 : decode cX3_areCrossing 2 = .ok (.iconst 0, 1) := by decide +kernel
theorem dX3_areCrossing_3 : decode cX3_areCrossing 3 = .ok (.istore_n 3, 1) := by decide +kernel
theorem dX3_areCrossing_4 : decode cX3_areCrossing 4 = .ok (.iconst 0, 1) := by decide +kernel
theorem dX3_areCrossing_5 : decode cX3_areCrossing 5 = .ok (.istore 4, 2) := by decide +kernel
theorem dX3_areCrossing_7 : decode cX3_areCrossing 7 = .ok (.iload 4, 2) := by decide +kernel
theorem dX3_areCrossing_9 : decode cX3_areCrossing 9 = .ok (.bipush 6, 2) := by decide +kernel
theorem dX3_areCrossing_11 : decode cX3_areCrossing 11 = .ok (.if_icmp .ge 50, 3) := by decide +kernel
theorem dX3_areCrossing_14 : decode cX3_areCrossing 14 = .ok (.iload_n 0, 1) := by decide +kernel
theorem dX3_areCrossing_15 : decode cX3_areCrossing 15 = .ok (.iload 4, 2) := by decide +kernel
theorem dX3_areCrossing_17 : decode cX3_areCrossing 17 = .ok (.ishr, 1) := by decide +kernel
theorem dX3_areCrossing_18 : decode cX3_areCrossing 18 = .ok (.iconst 1, 1) := by decide +kernel
theorem dX3_areCrossing_19 : decode cX3_areCrossing 19 = .ok (.iand, 1) := by decide +kernel
theorem dX3_areCrossing_20 : decode cX3_areCrossing 20 = .ok (.ifCond .eq 7, 3) := by decide +kernel
theorem dX3_areCrossing_23 : decode cX3_areCrossing 23 = .ok (.iconst 1, 1) := by decide +kernel
theorem dX3_areCrossing_24 : decode cX3_areCrossing 24 = .ok (.goto 17, 3) := by decide +kernel
theorem dX3_areCrossing_27 : decode cX3_areCrossing 27 = .ok (.iload_n 1, 1) := by decide +kernel
theorem dX3_areCrossing_28 : decode cX3_areCrossing 28 = .ok (.iload 4, 2) := by decide +kernel
theorem dX3_areCrossing_30 : decode cX3_areCrossing 30 = .ok (.ishr, 1) := by decide +kernel
theorem dX3_areCrossing_31 : decode cX3_areCrossing 31 = .ok (.iconst 1, 1) := by decide +kernel
theorem dX3_areCrossing_32 : decode cX3_areCrossing 32 = .ok (.iand, 1) := by decide +kernel
theorem dX3_areCrossing_33 : decode cX3_areCrossing 33 = .ok (.ifCond .eq 7, 3) := by decide +kernel
theorem dX3_areCrossing_36 : decode cX3_areCrossing 36 = .ok (.iconst 2, 1) := by decide +kernel
theorem dX3_areCrossing_37 : decode cX3_areCrossing 37 = .ok (.goto 4, 3) := by decide +kernel
theorem dX3_areCrossing_40 : decode cX3_areCrossing 40 = .ok (.iload_n 3, 1) := by decide +kernel
theorem dX3_areCrossing_41 : decode cX3_areCrossing 41 = .ok (.istore 5, 2) := by decide +kernel
theorem dX3_areCrossing_43 : decode cX3_areCrossing 43 = .ok (.iload 5, 2) := by decide +kernel
theorem dX3_areCrossing_45 : decode cX3_areCrossing 45 = .ok (.iload_n 3, 1) := by decide +kernel
theorem dX3_areCrossing_46 : decode cX3_areCrossing 46 = .ok (.if_icmp .eq 9, 3) := by decide +kernel
theorem dX3_areCrossing_49 : decode cX3_areCrossing 49 = .ok (.iload 5, 2) := by decide +kernel
theorem dX3_areCrossing_51 : decode cX3_areCrossing 51 = .ok (.istore_n 3, 1) := by decide +kernel
theorem dX3_areCrossing_52 : decode cX3_areCrossing 52 = .ok (.iinc 2 1, 3) := by decide +kernel
theorem dX3_areCrossing_55 : decode cX3_areCrossing 55 = .ok (.iinc 4 1, 3) := by decide +kernel
theorem dX3_areCrossing_58 : decode cX3_areCrossing 58 = .ok (.goto (-51), 3) := by decide +kernel
theorem dX3_areCrossing_61 : decode cX3_areCrossing 61 = .ok (.iload_n 2, 1) := by decide +kernel
theorem dX3_areCrossing_62 : decode cX3_areCrossing 62 = .ok (.iconst 4, 1) := by decide +kernel
theorem dX3_areCrossing_63 : decode cX3_areCrossing 63 = .ok (.if_icmp .lt 7, 3) := by decide +kernel
theorem dX3_areCrossing_66 : decode cX3_areCrossing 66 = .ok (.iconst 1, 1) := by decide +kernel
theorem dX3_areCrossing_67 : decode cX3_areCrossing 67 = .ok (.goto 4, 3) := by decide +kernel
theorem dX3_areCrossing_70 : decode cX3_areCrossing 70 = .ok (.iconst 0, 1) := by decide +kernel
theorem dX3_areCrossing_71 : decode cX3_areCrossing 71 = .ok (.ireturn, 1) := by decide +kernel
theorem dX4_init_0 : decode cX4_init 0 = .ok (.aload_n 0, 1) := by decide +kernel
theorem dX4_init_1 : decode cX4_init 1 = .ok (.invokespecial 3, 3) := by decide +kernel
theorem dX4_init_4 : decode cX4_init 4 = .ok (.aload_n 0, 1) := by decide +kernel
theorem dX4_init_5 : decode cX4_init 5 = .ok (.sipush 203, 3) := by decide +kernel
theorem dX4_init_8 : decode cX4_init 8 = .ok (.newarray .int, 2) := by decide +kernel
theorem dX4_init_10 : decode cX4_init 10 = .ok (.putfield 9, 3) := by decide +kernel
theorem dX4_init_13 : decode cX4_init 13 = .ok (.aload_n 0, 1) := by decide +kernel
theorem dX4_init_14 : decode cX4_init 14 = .ok (.sipush 203, 3) := by decide +kernel
theorem dX4_init_17 : decode cX4_init 17 = .ok (.newarray .int, 2) := by decide +kernel
theorem dX4_init_19 : decode cX4_init 19 = .ok (.putfield 15, 3) := by decide +kernel
theorem dX4_init_22 : decode cX4_init 22 = .ok (.aload_n 0, 1) := by decide +kernel
theorem dX4_init_23 : decode cX4_init 23 = .ok (.sipush 203, 3) := by decide +kernel
theorem dX4_init_26 : decode cX4_init 26 = .ok (.newarray .long, 2) := by decide +kernel
theorem dX4_init_28 : decode cX4_init 28 = .ok (.putfield 18, 3) := by decide +kernel
theorem dX4_init_31 : decode cX4_init 31 = .ok (.aload_n 0, 1) := by decide +kernel
theorem dX4_init_32 : decode cX4_init 32 = .ok (.sipush 203, 3) := by decide +kernel
theorem dX4_init_35 : decode cX4_init 35 = .ok (.newarray .int, 2) := by decide +kernel
theorem dX4_init_37 : decode cX4_init 37 = .ok (.putfield 22, 3) := by decide +kernel
theorem dX4_init_40 : decode cX4_init 40 = .ok (.return_, 1) := by decide +kernel
theorem dX4_select_0 : decode cX4_select 0 = .ok (.aload_n 0, 1) := by decide +kernel
theorem dX4_select_1 : decode cX4_select 1 = .ok (.iconst 0, 1) := by decide +kernel
theorem dX4_select_2 : decode cX4_select 2 = .ok (.putfield 25, 3) := by decide +kernel
theorem dX4_select_5 : decode cX4_select 5 = .ok (.aload_n 1, 1) := by decide +kernel
theorem dX4_select_6 : decode cX4_select 6 = .ok (.getfield 29, 3) := by decide +kernel
theorem dX4_select_9 : decode cX4_select 9 = .ok (.iconst 1, 1) := by decide +kernel
theorem dX4_select_10 : decode cX4_select 10 = .ok (.isub, 1) := by decide +kernel
theorem dX4_select_11 : decode cX4_select 11 = .ok (.istore 4, 2) := by decide +kernel
theorem dX4_select_13 : decode cX4_select 13 = .ok (.iload 4, 2) := by decide +kernel
theorem dX4_select_15 : decode cX4_select 15 = .ok (.ifCond .lt 73, 3) := by decide +kernel
theorem dX4_select_18 : decode cX4_select 18 = .ok (.aload_n 1, 1) := by decide +kernel
theorem dX4_select_19 : decode cX4_select 19 = .ok (.getfield 32, 3) := by decide +kernel
theorem dX4_select_22 : decode cX4_select 22 = .ok (.iload 4, 2) := by decide +kernel
theorem dX4_select_24 : decode cX4_select 24 = .ok (.iaload, 1) := by decide +kernel
theorem dX4_select_25 : decode cX4_select 25 = .ok (.istore 5, 2) := by decide +kernel
theorem dX4_select_27 : decode cX4_select 27 = .ok (.iload_n 2, 1) := by decide +kernel
theorem dX4_select_28 : decode cX4_select 28 = .ok (.iload 5, 2) := by decide +kernel
theorem dX4_select_30 : decode cX4_select 30 = .ok (.invokestatic 33, 3) := by decide +kernel
theorem dX4_select_33 : decode cX4_select 33 = .ok (.ifCond .eq 49, 3) := by decide +kernel
theorem dX4_select_36 : decode cX4_select 36 = .ok (.iload 5, 2) := by decide +kernel
theorem dX4_select_38 : decode cX4_select 38 = .ok (.iload_n 3, 1) := by decide +kernel
theorem dX4_select_39 : decode cX4_select 39 = .ok (.invokestatic 33, 3) := by decide +kernel
theorem dX4_select_42 : decode cX4_select 42 = .ok (.ifCond .eq 40, 3) := by decide +kernel
theorem dX4_select_45 : decode cX4_select 45 = .ok (.aload_n 0, 1) := by decide +kernel
theorem dX4_select_46 : decode cX4_select 46 = .ok (.getfield 9, 3) := by decide +kernel
theorem dX4_select_49 : decode cX4_select 49 = .ok (.aload_n 0, 1) := by decide +kernel
theorem dX4_select_50 : decode cX4_select 50 = .ok (.getfield 25, 3) := by decide +kernel
theorem dX4_select_53 : decode cX4_select 53 = .ok (.iload 5, 2) := by decide +kernel
theorem dX4_select_55 : decode cX4_select 55 = .ok (.iastore, 1) := by decide +kernel
theorem dX4_select_56 : decode cX4_select 56 = .ok (.aload_n 0, 1) := by decide +kernel
theorem dX4_select_57 : decode cX4_select 57 = .ok (.getfield 15, 3) := by decide +kernel
theorem dX4_select_60 : decode cX4_select 60 = .ok (.aload_n 0, 1) := by decide +kernel
theorem dX4_select_61 : decode cX4_select 61 = .ok (.getfield 25, 3) := by decide +kernel
theorem dX4_select_64 : decode cX4_select 64 = .ok (.aload_n 1, 1) := by decide +kernel
theorem dX4_select_65 : decode cX4_select 65 = .ok (.getfield 37, 3) := by decide +kernel
theorem dX4_select_68 : decode cX4_select 68 = .ok (.iload 4, 2) := by decide +kernel
theorem dX4_select_70 : decode cX4_select 70 = .ok (.iaload, 1) := by decide +kernel
theorem dX4_select_71 : decode cX4_select 71 = .ok (.iastore, 1) := by decide +kernel
theorem dX4_select_72 : decode cX4_select 72 = .ok (.aload_n 0, 1) := by decide +kernel
theorem dX4_select_73 : decode cX4_select 73 = .ok (.dup, 1) := by decide +kernel
theorem dX4_select_74 : decode cX4_select 74 = .ok (.getfield 25, 3) := by decide +kernel
theorem dX4_select_77 : decode cX4_select 77 = .ok (.iconst 1, 1) := by decide +kernel
theorem dX4_select_78 : decode cX4_select 78 = .ok (.iadd, 1) := by decide +kernel
theorem dX4_select_79 : decode cX4_select 79 = .ok (.putfield 25, 3) := by decide +kernel
theorem dX4_select_82 : decode cX4_select 82 = .ok (.iinc 4 (-1), 3) := by decide +kernel
theorem dX4_select_85 : decode cX4_select 85 = .ok (.goto (-72), 3) := by decide +kernel
theorem dX4_select_88 : decode cX4_select 88 = .ok (.return_, 1) := by decide +kernel
theorem dX4_lastValue_0 : decode cX4_lastValue 0 = .ok (.aload_n 0, 1) := by decide +kernel
theorem dX4_lastValue_1 : decode cX4_lastValue 1 = .ok (.getfield 25, 3) := by decide +kernel
theorem dX4_lastValue_4 : decode cX4_lastValue 4 = .ok (.ifCond .ne 7, 3) := by decide +kernel
theorem dX4_lastValue_7 : decode cX4_lastValue 7 = .ok (.lconst 0, 1) := by decide +kernel
theorem dX4_lastValue_8 : decode cX4_lastValue 8 = .ok (.goto 14, 3) := by decide +kernel
theorem dX4_lastValue_11 : decode cX4_lastValue 11 = .ok (.aload_n 0, 1) := by decide +kernel
theorem dX4_lastValue_12 : decode cX4_lastValue 12 = .ok (.getfield 18, 3) := by decide +kernel
theorem dX4_lastValue_15 : decode cX4_lastValue 15 = .ok (.aload_n 0, 1) := by decide +kernel
theorem dX4_lastValue_16 : decode cX4_lastValue 16 = .ok (.getfield 25, 3) := by decide +kernel
theorem dX4_lastValue_19 : decode cX4_lastValue 19 = .ok (.iconst 1, 1) := by decide +kernel
theorem dX4_lastValue_20 : decode cX4_lastValue 20 = .ok (.isub, 1) := by decide +kernel
theorem dX4_lastValue_21 : decode cX4_lastValue 21 = .ok (.laload, 1) := by decide +kernel
theorem dX4_lastValue_22 : decode cX4_lastValue 22 = .ok (.lreturn, 1) := by decide +kernel
theorem dX4_startAtFirst_0 : decode cX4_startAtFirst 0 = .ok (.iconst 0, 1) := by decide +kernel
theorem dX4_startAtFirst_1 : decode cX4_startAtFirst 1 = .ok (.istore_n 1, 1) := by decide +kernel
theorem dX4_startAtFirst_2 : decode cX4_startAtFirst 2 = .ok (.iload_n 1, 1) := by decide +kernel
theorem dX4_startAtFirst_3 : decode cX4_startAtFirst 3 = .ok (.aload_n 0, 1) := by decide +kernel
theorem dX4_startAtFirst_4 : decode cX4_startAtFirst 4 = .ok (.getfield 25, 3) := by decide +kernel
theorem dX4_startAtFirst_7 : decode cX4_startAtFirst 7 = .ok (.if_icmp .ge 24, 3) := by decide +kernel
theorem dX4_startAtFirst_10 : decode cX4_startAtFirst 10 = .ok (.aload_n 0, 1) := by decide +kernel
theorem dX4_startAtFirst_11 : decode cX4_startAtFirst 11 = .ok (.getfield 18, 3) := by decide +kernel
theorem dX4_startAtFirst_14 : decode cX4_startAtFirst 14 = .ok (.iload_n 1, 1) := by decide +kernel
theorem dX4_startAtFirst_15 : decode cX4_startAtFirst 15 = .ok (.iload_n 1, 1) := by decide +kernel
theorem dX4_startAtFirst_16 : decode cX4_startAtFirst 16 = .ok (.ifCond .ne 7, 3) := by decide +kernel
theorem dX4_startAtFirst_19 : decode cX4_startAtFirst 19 = .ok (.lconst 1, 1) := by decide +kernel
theorem dX4_startAtFirst_20 : decode cX4_startAtFirst 20 = .ok (.goto 4, 3) := by decide +kernel
theorem dX4_startAtFirst_23 : decode cX4_startAtFirst 23 = .ok (.lconst 0, 1) := by decide +kernel
theorem dX4_startAtFirst_24 : decode cX4_startAtFirst 24 = .ok (.lastore, 1) := by decide +kernel
theorem dX4_startAtFirst_25 : decode cX4_startAtFirst 25 = .ok (.iinc 1 1, 3) := by decide +kernel
theorem dX4_startAtFirst_28 : decode cX4_startAtFirst 28 = .ok (.goto (-26), 3) := by decide +kernel
theorem dX4_startAtFirst_31 : decode cX4_startAtFirst 31 = .ok (.return_, 1) := by decide +kernel
theorem dX4_putMoebius_0 : decode cX4_putMoebius 0 = .ok (.aload_n 0, 1) := by decide +kernel
theorem dX4_putMoebius_1 : decode cX4_putMoebius 1 = .ok (.invokevirtual 38, 3) := by decide +kernel
theorem dX4_putMoebius_4 : decode cX4_putMoebius 4 = .ok (.iconst 1, 1) := by decide +kernel
theorem dX4_putMoebius_5 : decode cX4_putMoebius 5 = .ok (.istore_n 1, 1) := by decide +kernel
theorem dX4_putMoebius_6 : decode cX4_putMoebius 6 = .ok (.iload_n 1, 1) := by decide +kernel
theorem dX4_putMoebius_7 : decode cX4_putMoebius 7 = .ok (.aload_n 0, 1) := by decide +kernel
theorem dX4_putMoebius_8 : decode cX4_putMoebius 8 = .ok (.getfield 25, 3) := by decide +kernel
theorem dX4_putMoebius_11 : decode cX4_putMoebius 11 = .ok (.if_icmp .ge 21, 3) := by decide +kernel
theorem dX4_putMoebius_14 : decode cX4_putMoebius 14 = .ok (.aload_n 0, 1) := by decide +kernel
theorem dX4_putMoebius_15 : decode cX4_putMoebius 15 = .ok (.getfield 18, 3) := by decide +kernel
theorem dX4_putMoebius_18 : decode cX4_putMoebius 18 = .ok (.iload_n 1, 1) := by decide +kernel
theorem dX4_putMoebius_19 : decode cX4_putMoebius 19 = .ok (.aload_n 0, 1) := by decide +kernel
theorem dX4_putMoebius_20 : decode cX4_putMoebius 20 = .ok (.iload_n 1, 1) := by decide +kernel
theorem dX4_putMoebius_21 : decode cX4_putMoebius 21 = .ok (.invokevirtual 41, 3) := by decide +kernel
theorem dX4_putMoebius_24 : decode cX4_putMoebius 24 = .ok (.lneg, 1) := by decide +kernel
theorem dX4_putMoebius_25 : decode cX4_putMoebius 25 = .ok (.lastore, 1) := by decide +kernel
theorem dX4_putMoebius_26 : decode cX4_putMoebius 26 = .ok (.iinc 1 1, 3) := by decide +kernel
theorem dX4_putMoebius_29 : decode cX4_putMoebius 29 = .ok (.goto (-23), 3) := by decide +kernel
theorem dX4_putMoebius_32 : decode cX4_putMoebius 32 = .ok (.return_, 1) := by decide +kernel
theorem dX4_putChains_0 : decode cX4_putChains 0 = .ok (.aload_n 0, 1) := by decide +kernel
theorem dX4_putChains_1 : decode cX4_putChains 1 = .ok (.invokevirtual 38, 3) := by decide +kernel
theorem dX4_putChains_4 : decode cX4_putChains 4 = .ok (.iconst 0, 1) := by decide +kernel
theorem dX4_putChains_5 : decode cX4_putChains 5 = .ok (.istore_n 2, 1) := by decide +kernel
theorem dX4_putChains_6 : decode cX4_putChains 6 = .ok (.iload_n 2, 1) := by decide +kernel
theorem dX4_putChains_7 : decode cX4_putChains 7 = .ok (.iload_n 1, 1) := by decide +kernel
theorem dX4_putChains_8 : decode cX4_putChains 8 = .ok (.if_icmp .ge 37, 3) := by decide +kernel
theorem dX4_putChains_11 : decode cX4_putChains 11 = .ok (.aload_n 0, 1) := by decide +kernel
theorem dX4_putChains_12 : decode cX4_putChains 12 = .ok (.getfield 25, 3) := by decide +kernel
theorem dX4_putChains_15 : decode cX4_putChains 15 = .ok (.iconst 1, 1) := by decide +kernel
theorem dX4_putChains_16 : decode cX4_putChains 16 = .ok (.isub, 1) := by decide +kernel
theorem dX4_putChains_17 : decode cX4_putChains 17 = .ok (.istore_n 3, 1) := by decide +kernel
theorem dX4_putChains_18 : decode cX4_putChains 18 = .ok (.iload_n 3, 1) := by decide +kernel
theorem dX4_putChains_19 : decode cX4_putChains 19 = .ok (.ifCond .lt 20, 3) := by decide +kernel
theorem dX4_putChains_22 : decode cX4_putChains 22 = .ok (.aload_n 0, 1) := by decide +kernel
theorem dX4_putChains_23 : decode cX4_putChains 23 = .ok (.getfield 18, 3) := by decide +kernel
theorem dX4_putChains_26 : decode cX4_putChains 26 = .ok (.iload_n 3, 1) := by decide +kernel
theorem dX4_putChains_27 : decode cX4_putChains 27 = .ok (.aload_n 0, 1) := by decide +kernel
theorem dX4_putChains_28 : decode cX4_putChains 28 = .ok (.iload_n 3, 1) := by decide +kernel
theorem dX4_putChains_29 : decode cX4_putChains 29 = .ok (.invokevirtual 41, 3) := by decide +kernel
theorem dX4_putChains_32 : decode cX4_putChains 32 = .ok (.lastore, 1) := by decide +kernel
theorem dX4_putChains_33 : decode cX4_putChains 33 = .ok (.iinc 3 (-1), 3) := by decide +kernel
theorem dX4_putChains_36 : decode cX4_putChains 36 = .ok (.goto (-18), 3) := by decide +kernel
theorem dX4_putChains_39 : decode cX4_putChains 39 = .ok (.iinc 2 1, 3) := by decide +kernel
theorem dX4_putChains_42 : decode cX4_putChains 42 = .ok (.goto (-36), 3) := by decide +kernel
theorem dX4_putChains_45 : decode cX4_putChains 45 = .ok (.return_, 1) := by decide +kernel
theorem dX4_putMaximalChains_0 : decode cX4_putMaximalChains 0 = .ok (.aload_n 0, 1) := by decide +kernel
theorem dX4_putMaximalChains_1 : decode cX4_putMaximalChains 1 = .ok (.invokevirtual 38, 3) := by decide +kernel
theorem dX4_putMaximalChains_4 : decode cX4_putMaximalChains 4 = .ok (.iconst 1, 1) := by decide +kernel
theorem dX4_putMaximalChains_5 : decode cX4_putMaximalChains 5 = .ok (.istore_n 1, 1) := by decide +kernel
theorem dX4_putMaximalChains_6 : decode cX4_putMaximalChains 6 = .ok (.iload_n 1, 1) := by decide +kernel
theorem dX4_putMaximalChains_7 : decode cX4_putMaximalChains 7 = .ok (.aload_n 0, 1) := by decide +kernel
theorem dX4_putMaximalChains_8 : decode cX4_putMaximalChains 8 = .ok (.getfield 25, 3) := by decide +kernel
theorem dX4_putMaximalChains_11 : decode cX4_putMaximalChains 11 = .ok (.if_icmp .ge 20, 3) := by decide +kernel
theorem dX4_putMaximalChains_14 : decode cX4_putMaximalChains 14 = .ok (.aload_n 0, 1) := by decide +kernel
theorem dX4_putMaximalChains_15 : decode cX4_putMaximalChains 15 = .ok (.getfield 18, 3) := by decide +kernel
theorem dX4_putMaximalChains_18 : decode cX4_putMaximalChains 18 = .ok (.iload_n 1, 1) := by decide +kernel
theorem dX4_putMaximalChains_19 : decode cX4_putMaximalChains 19 = .ok (.aload_n 0, 1) := by decide +kernel
theorem dX4_putMaximalChains_20 : decode cX4_putMaximalChains 20 = .ok (.iload_n 1, 1) := by decide +kernel
theorem dX4_putMaximalChains_21 : decode cX4_putMaximalChains 21 = .ok (.invokevirtual 45, 3) := by decide +kernel
theorem dX4_putMaximalChains_24 : decode cX4_putMaximalChains 24 = .ok (.lastore, 1) := by decide +kernel
theorem dX4_putMaximalChains_25 : decode cX4_putMaximalChains 25 = .ok (.iinc 1 1, 3) := by decide +kernel
theorem dX4_putMaximalChains_28 : decode cX4_putMaximalChains 28 = .ok (.goto (-22), 3) := by decide +kernel
theorem dX4_putMaximalChains_31 : decode cX4_putMaximalChains 31 = .ok (.return_, 1) := by decide +kernel
theorem dX4_putHeights_0 : decode cX4_putHeights 0 = .ok (.iconst 0, 1) := by decide +kernel
theorem dX4_putHeights_1 : decode cX4_putHeights 1 = .ok (.istore_n 1, 1) := by decide +kernel
theorem dX4_putHeights_2 : decode cX4_putHeights 2 = .ok (.iload_n 1, 1) := by decide +kernel
theorem dX4_putHeights_3 : decode cX4_putHeights 3 = .ok (.aload_n 0, 1) := by decide +kernel
theorem dX4_putHeights_4 : decode cX4_putHeights 4 = .ok (.getfield 25, 3) := by decide +kernel
theorem dX4_putHeights_7 : decode cX4_putHeights 7 = .ok (.if_icmp .ge 66, 3) := by decide +kernel
theorem dX4_putHeights_10 : decode cX4_putHeights 10 = .ok (.lconst 0, 1) := by decide +kernel
theorem dX4_putHeights_11 : decode cX4_putHeights 11 = .ok (.lstore_n 2, 1) := by decide +kernel
theorem dX4_putHeights_12 : decode cX4_putHeights 12 = .ok (.iconst 0, 1) := by decide +kernel
theorem dX4_putHeights_13 : decode cX4_putHeights 13 = .ok (.istore 4, 2) := by decide +kernel
theorem dX4_putHeights_15 : decode cX4_putHeights 15 = .ok (.iload 4, 2) := by decide +kernel
theorem dX4_putHeights_17 : decode cX4_putHeights 17 = .ok (.iload_n 1, 1) := by decide +kernel
theorem dX4_putHeights_18 : decode cX4_putHeights 18 = .ok (.if_icmp .ge 42, 3) := by decide +kernel
theorem dX4_putHeights_21 : decode cX4_putHeights 21 = .ok (.aload_n 0, 1) := by decide +kernel
theorem dX4_putHeights_22 : decode cX4_putHeights 22 = .ok (.getfield 9, 3) := by decide +kernel
theorem dX4_putHeights_25 : decode cX4_putHeights 25 = .ok (.iload 4, 2) := by decide +kernel
theorem dX4_putHeights_27 : decode cX4_putHeights 27 = .ok (.iaload, 1) := by decide +kernel
theorem dX4_putHeights_28 : decode cX4_putHeights 28 = .ok (.aload_n 0, 1) := by decide +kernel
theorem dX4_putHeights_29 : decode cX4_putHeights 29 = .ok (.getfield 9, 3) := by decide +kernel
theorem dX4_putHeights_32 : decode cX4_putHeights 32 = .ok (.iload_n 1, 1) := by decide +kernel
theorem dX4_putHeights_33 : decode cX4_putHeights 33 = .ok (.iaload, 1) := by decide +kernel
theorem dX4_putHeights_34 : decode cX4_putHeights 34 = .ok (.invokestatic 33, 3) := by decide +kernel
theorem dX4_putHeights_37 : decode cX4_putHeights 37 = .ok (.ifCond .eq 17, 3) := by decide +kernel
theorem dX4_putHeights_40 : decode cX4_putHeights 40 = .ok (.lload_n 2, 1) := by decide +kernel
theorem dX4_putHeights_41 : decode cX4_putHeights 41 = .ok (.aload_n 0, 1) := by decide +kernel
theorem dX4_putHeights_42 : decode cX4_putHeights 42 = .ok (.getfield 18, 3) := by decide +kernel
theorem dX4_putHeights_45 : decode cX4_putHeights 45 = .ok (.iload 4, 2) := by decide +kernel
theorem dX4_putHeights_47 : decode cX4_putHeights 47 = .ok (.laload, 1) := by decide +kernel
theorem dX4_putHeights_48 : decode cX4_putHeights 48 = .ok (.lconst 1, 1) := by decide +kernel
theorem dX4_putHeights_49 : decode cX4_putHeights 49 = .ok (.ladd, 1) := by decide +kernel
theorem dX4_putHeights_50 : decode cX4_putHeights 50 = .ok (.invokestatic 48, 3) := by decide +kernel
theorem dX4_putHeights_53 : decode cX4_putHeights 53 = .ok (.lstore_n 2, 1) := by decide +kernel
theorem dX4_putHeights_54 : decode cX4_putHeights 54 = .ok (.iinc 4 1, 3) := by decide +kernel
theorem dX4_putHeights_57 : decode cX4_putHeights 57 = .ok (.goto (-42), 3) := by decide +kernel
theorem dX4_putHeights_60 : decode cX4_putHeights 60 = .ok (.aload_n 0, 1) := by decide +kernel
theorem dX4_putHeights_61 : decode cX4_putHeights 61 = .ok (.getfield 18, 3) := by decide +kernel
theorem dX4_putHeights_64 : decode cX4_putHeights 64 = .ok (.iload_n 1, 1) := by decide +kernel
theorem dX4_putHeights_65 : decode cX4_putHeights 65 = .ok (.lload_n 2, 1) := by decide +kernel
theorem dX4_putHeights_66 : decode cX4_putHeights 66 = .ok (.lastore, 1) := by decide +kernel
theorem dX4_putHeights_67 : decode cX4_putHeights 67 = .ok (.iinc 1 1, 3) := by decide +kernel
theorem dX4_putHeights_70 : decode cX4_putHeights 70 = .ok (.goto (-68), 3) := by decide +kernel
theorem dX4_putHeights_73 : decode cX4_putHeights 73 = .ok (.return_, 1) := by decide +kernel
theorem dX4_sumStrictlyBelow_0 : decode cX4_sumStrictlyBelow 0 = .ok (.lconst 0, 1) := by decide +kernel
theorem dX4_sumStrictlyBelow_1 : decode cX4_sumStrictlyBelow 1 = .ok (.lstore_n 2, 1) := by decide +kernel
theorem dX4_sumStrictlyBelow_2 : decode cX4_sumStrictlyBelow 2 = .ok (.iconst 0, 1) := by decide +kernel
theorem dX4_sumStrictlyBelow_3 : decode cX4_sumStrictlyBelow 3 = .ok (.istore 4, 2) := by decide +kernel
theorem dX4_sumStrictlyBelow_5 : decode cX4_sumStrictlyBelow 5 = .ok (.iload 4, 2) := by decide +kernel
theorem dX4_sumStrictlyBelow_7 : decode cX4_sumStrictlyBelow 7 = .ok (.iload_n 1, 1) := by decide +kernel
theorem dX4_sumStrictlyBelow_8 : decode cX4_sumStrictlyBelow 8 = .ok (.if_icmp .ge 38, 3) := by decide +kernel
theorem dX4_sumStrictlyBelow_11 : decode cX4_sumStrictlyBelow 11 = .ok (.aload_n 0, 1) := by decide +kernel
theorem dX4_sumStrictlyBelow_12 : decode cX4_sumStrictlyBelow 12 = .ok (.getfield 9, 3) := by decide +kernel
theorem dX4_sumStrictlyBelow_15 : decode cX4_sumStrictlyBelow 15 = .ok (.iload 4, 2) := by decide +kernel
theorem dX4_sumStrictlyBelow_17 : decode cX4_sumStrictlyBelow 17 = .ok (.iaload, 1) := by decide +kernel
theorem dX4_sumStrictlyBelow_18 : decode cX4_sumStrictlyBelow 18 = .ok (.aload_n 0, 1) := by decide +kernel
theorem dX4_sumStrictlyBelow_19 : decode cX4_sumStrictlyBelow 19 = .ok (.getfield 9, 3) := by decide +kernel
theorem dX4_sumStrictlyBelow_22 : decode cX4_sumStrictlyBelow 22 = .ok (.iload_n 1, 1) := by decide +kernel
theorem dX4_sumStrictlyBelow_23 : decode cX4_sumStrictlyBelow 23 = .ok (.iaload, 1) := by decide +kernel
theorem dX4_sumStrictlyBelow_24 : decode cX4_sumStrictlyBelow 24 = .ok (.invokestatic 33, 3) := by decide +kernel
theorem dX4_sumStrictlyBelow_27 : decode cX4_sumStrictlyBelow 27 = .ok (.ifCond .eq 13, 3) := by decide +kernel
theorem dX4_sumStrictlyBelow_30 : decode cX4_sumStrictlyBelow 30 = .ok (.lload_n 2, 1) := by decide +kernel
theorem dX4_sumStrictlyBelow_31 : decode cX4_sumStrictlyBelow 31 = .ok (.aload_n 0, 1) := by decide +kernel
theorem dX4_sumStrictlyBelow_32 : decode cX4_sumStrictlyBelow 32 = .ok (.getfield 18, 3) := by decide +kernel
theorem dX4_sumStrictlyBelow_35 : decode cX4_sumStrictlyBelow 35 = .ok (.iload 4, 2) := by decide +kernel
theorem dX4_sumStrictlyBelow_37 : decode cX4_sumStrictlyBelow 37 = .ok (.laload, 1) := by decide +kernel
theorem dX4_sumStrictlyBelow_38 : decode cX4_sumStrictlyBelow 38 = .ok (.ladd, 1) := by decide +kernel
theorem dX4_sumStrictlyBelow_39 : decode cX4_sumStrictlyBelow 39 = .ok (.lstore_n 2, 1) := by decide +kernel
theorem dX4_sumStrictlyBelow_40 : decode cX4_sumStrictlyBelow 40 = .ok (.iinc 4 1, 3) := by decide +kernel
theorem dX4_sumStrictlyBelow_43 : decode cX4_sumStrictlyBelow 43 = .ok (.goto (-38), 3) := by decide +kernel
theorem dX4_sumStrictlyBelow_46 : decode cX4_sumStrictlyBelow 46 = .ok (.lload_n 2, 1) := by decide +kernel
theorem dX4_sumStrictlyBelow_47 : decode cX4_sumStrictlyBelow 47 = .ok (.lreturn, 1) := by decide +kernel
theorem dX4_sumCovered_0 : decode cX4_sumCovered 0 = .ok (.lconst 0, 1) := by decide +kernel
theorem dX4_sumCovered_1 : decode cX4_sumCovered 1 = .ok (.lstore_n 2, 1) := by decide +kernel
theorem dX4_sumCovered_2 : decode cX4_sumCovered 2 = .ok (.iconst 0, 1) := by decide +kernel
theorem dX4_sumCovered_3 : decode cX4_sumCovered 3 = .ok (.istore 4, 2) := by decide +kernel
theorem dX4_sumCovered_5 : decode cX4_sumCovered 5 = .ok (.iload_n 1, 1) := by decide +kernel
theorem dX4_sumCovered_6 : decode cX4_sumCovered 6 = .ok (.iconst 1, 1) := by decide +kernel
theorem dX4_sumCovered_7 : decode cX4_sumCovered 7 = .ok (.isub, 1) := by decide +kernel
theorem dX4_sumCovered_8 : decode cX4_sumCovered 8 = .ok (.istore 5, 2) := by decide +kernel
theorem dX4_sumCovered_10 : decode cX4_sumCovered 10 = .ok (.iload 5, 2) := by decide +kernel
theorem dX4_sumCovered_12 : decode cX4_sumCovered 12 = .ok (.ifCond .lt 71, 3) := by decide +kernel
theorem dX4_sumCovered_15 : decode cX4_sumCovered 15 = .ok (.aload_n 0, 1) := by decide +kernel
theorem dX4_sumCovered_16 : decode cX4_sumCovered 16 = .ok (.getfield 9, 3) := by decide +kernel
theorem dX4_sumCovered_19 : decode cX4_sumCovered 19 = .ok (.iload 5, 2) := by decide +kernel
theorem dX4_sumCovered_21 : decode cX4_sumCovered 21 = .ok (.iaload, 1) := by decide +kernel
theorem dX4_sumCovered_22 : decode cX4_sumCovered 22 = .ok (.aload_n 0, 1) := by decide +kernel
theorem dX4_sumCovered_23 : decode cX4_sumCovered 23 = .ok (.getfield 9, 3) := by decide +kernel
theorem dX4_sumCovered_26 : decode cX4_sumCovered 26 = .ok (.iload_n 1, 1) := by decide +kernel
theorem dX4_sumCovered_27 : decode cX4_sumCovered 27 = .ok (.iaload, 1) := by decide +kernel
theorem dX4_sumCovered_28 : decode cX4_sumCovered 28 = .ok (.invokestatic 33, 3) := by decide +kernel
theorem dX4_sumCovered_31 : decode cX4_sumCovered 31 = .ok (.ifCond .eq 46, 3) := by decide +kernel
theorem dX4_sumCovered_34 : decode cX4_sumCovered 34 = .ok (.aload_n 0, 1) := by decide +kernel
theorem dX4_sumCovered_35 : decode cX4_sumCovered 35 = .ok (.aload_n 0, 1) := by decide +kernel
theorem dX4_sumCovered_36 : decode cX4_sumCovered 36 = .ok (.getfield 9, 3) := by decide +kernel
theorem dX4_sumCovered_39 : decode cX4_sumCovered 39 = .ok (.iload 5, 2) := by decide +kernel
theorem dX4_sumCovered_41 : decode cX4_sumCovered 41 = .ok (.iaload, 1) := by decide +kernel
theorem dX4_sumCovered_42 : decode cX4_sumCovered 42 = .ok (.iload 4, 2) := by decide +kernel
theorem dX4_sumCovered_44 : decode cX4_sumCovered 44 = .ok (.invokevirtual 54, 3) := by decide +kernel
theorem dX4_sumCovered_47 : decode cX4_sumCovered 47 = .ok (.ifCond .ne 30, 3) := by decide +kernel
theorem dX4_sumCovered_50 : decode cX4_sumCovered 50 = .ok (.aload_n 0, 1) := by decide +kernel
theorem dX4_sumCovered_51 : decode cX4_sumCovered 51 = .ok (.getfield 22, 3) := by decide +kernel
theorem dX4_sumCovered_54 : decode cX4_sumCovered 54 = .ok (.iload 4, 2) := by decide +kernel
theorem dX4_sumCovered_56 : decode cX4_sumCovered 56 = .ok (.aload_n 0, 1) := by decide +kernel
theorem dX4_sumCovered_57 : decode cX4_sumCovered 57 = .ok (.getfield 9, 3) := by decide +kernel
theorem dX4_sumCovered_60 : decode cX4_sumCovered 60 = .ok (.iload 5, 2) := by decide +kernel
theorem dX4_sumCovered_62 : decode cX4_sumCovered 62 = .ok (.iaload, 1) := by decide +kernel
theorem dX4_sumCovered_63 : decode cX4_sumCovered 63 = .ok (.iastore, 1) := by decide +kernel
theorem dX4_sumCovered_64 : decode cX4_sumCovered 64 = .ok (.iinc 4 1, 3) := by decide +kernel
theorem dX4_sumCovered_67 : decode cX4_sumCovered 67 = .ok (.lload_n 2, 1) := by decide +kernel
theorem dX4_sumCovered_68 : decode cX4_sumCovered 68 = .ok (.aload_n 0, 1) := by decide +kernel
theorem dX4_sumCovered_69 : decode cX4_sumCovered 69 = .ok (.getfield 18, 3) := by decide +kernel
theorem dX4_sumCovered_72 : decode cX4_sumCovered 72 = .ok (.iload 5, 2) := by decide +kernel
theorem dX4_sumCovered_74 : decode cX4_sumCovered 74 = .ok (.laload, 1) := by decide +kernel
theorem dX4_sumCovered_75 : decode cX4_sumCovered 75 = .ok (.ladd, 1) := by decide +kernel
theorem dX4_sumCovered_76 : decode cX4_sumCovered 76 = .ok (.lstore_n 2, 1) := by decide +kernel
theorem dX4_sumCovered_77 : decode cX4_sumCovered 77 = .ok (.iinc 5 (-1), 3) := by decide +kernel
theorem dX4_sumCovered_80 : decode cX4_sumCovered 80 = .ok (.goto (-70), 3) := by decide +kernel
theorem dX4_sumCovered_83 : decode cX4_sumCovered 83 = .ok (.lload_n 2, 1) := by decide +kernel
theorem dX4_sumCovered_84 : decode cX4_sumCovered 84 = .ok (.lreturn, 1) := by decide +kernel
theorem dX4_isBelowCovered_0 : decode cX4_isBelowCovered 0 = .ok (.iconst 0, 1) := by decide +kernel
theorem dX4_isBelowCovered_1 : decode cX4_isBelowCovered 1 = .ok (.istore_n 3, 1) := by decide +kernel
theorem dX4_isBelowCovered_2 : decode cX4_isBelowCovered 2 = .ok (.iload_n 3, 1) := by decide +kernel
theorem dX4_isBelowCovered_3 : decode cX4_isBelowCovered 3 = .ok (.iload_n 2, 1) := by decide +kernel
theorem dX4_isBelowCovered_4 : decode cX4_isBelowCovered 4 = .ok (.if_icmp .ge 24, 3) := by decide +kernel
theorem dX4_isBelowCovered_7 : decode cX4_isBelowCovered 7 = .ok (.iload_n 1, 1) := by decide +kernel
theorem dX4_isBelowCovered_8 : decode cX4_isBelowCovered 8 = .ok (.aload_n 0, 1) := by decide +kernel
theorem dX4_isBelowCovered_9 : decode cX4_isBelowCovered 9 = .ok (.getfield 22, 3) := by decide +kernel
theorem dX4_isBelowCovered_12 : decode cX4_isBelowCovered 12 = .ok (.iload_n 3, 1) := by decide +kernel
theorem dX4_isBelowCovered_13 : decode cX4_isBelowCovered 13 = .ok (.iaload, 1) := by decide +kernel
theorem dX4_isBelowCovered_14 : decode cX4_isBelowCovered 14 = .ok (.invokestatic 33, 3) := by decide +kernel
theorem dX4_isBelowCovered_17 : decode cX4_isBelowCovered 17 = .ok (.ifCond .eq 5, 3) := by decide +kernel
theorem dX4_isBelowCovered_20 : decode cX4_isBelowCovered 20 = .ok (.iconst 1, 1) := by decide +kernel
theorem dX4_isBelowCovered_21 : decode cX4_isBelowCovered 21 = .ok (.ireturn, 1) := by decide +kernel
theorem dX4_isBelowCovered_22 : decode cX4_isBelowCovered 22 = .ok (.iinc 3 1, 3) := by decide +kernel
theorem dX4_isBelowCovered_25 : decode cX4_isBelowCovered 25 = .ok (.goto (-23), 3) := by decide +kernel
theorem dX4_isBelowCovered_28 : decode cX4_isBelowCovered 28 = .ok (.iconst 0, 1) := by decide +kernel
theorem dX4_isBelowCovered_29 : decode cX4_isBelowCovered 29 = .ok (.ireturn, 1) := by decide +kernel
theorem dX5_init_0 : decode cX5_init 0 = .ok (.aload_n 0, 1) := by decide +kernel
theorem dX5_init_1 : decode cX5_init 1 = .ok (.invokespecial 3, 3) := by decide +kernel
theorem dX5_init_4 : decode cX5_init 4 = .ok (.aload_n 0, 1) := by decide +kernel
theorem dX5_init_5 : decode cX5_init 5 = .ok (.bipush 8, 2) := by decide +kernel
theorem dX5_init_7 : decode cX5_init 7 = .ok (.newarray .int, 2) := by decide +kernel
theorem dX5_init_9 : decode cX5_init 9 = .ok (.putfield 9, 3) := by decide +kernel
theorem dX5_init_12 : decode cX5_init 12 = .ok (.return_, 1) := by decide +kernel
theorem dX5_reset_0 : decode cX5_reset 0 = .ok (.iconst 0, 1) := by decide +kernel
theorem dX5_reset_1 : decode cX5_reset 1 = .ok (.istore_n 2, 1) := by decide +kernel
theorem dX5_reset_2 : decode cX5_reset 2 = .ok (.iload_n 2, 1) := by decide +kernel
theorem dX5_reset_3 : decode cX5_reset 3 = .ok (.bipush 8, 2) := by decide +kernel
theorem dX5_reset_5 : decode cX5_reset 5 = .ok (.if_icmp .ge 16, 3) := by decide +kernel
theorem dX5_reset_8 : decode cX5_reset 8 = .ok (.aload_n 0, 1) := by decide +kernel
theorem dX5_reset_9 : decode cX5_reset 9 = .ok (.getfield 9, 3) := by decide +kernel
theorem dX5_reset_12 : decode cX5_reset 12 = .ok (.iload_n 2, 1) := by decide +kernel
theorem dX5_reset_13 : decode cX5_reset 13 = .ok (.iconst (-1), 1) := by decide +kernel
theorem dX5_reset_14 : decode cX5_reset 14 = .ok (.iastore, 1) := by decide +kernel
theorem dX5_reset_15 : decode cX5_reset 15 = .ok (.iinc 2 1, 3) := by decide +kernel
theorem dX5_reset_18 : decode cX5_reset 18 = .ok (.goto (-16), 3) := by decide +kernel
theorem dX5_reset_21 : decode cX5_reset 21 = .ok (.aload_n 0, 1) := by decide +kernel
theorem dX5_reset_22 : decode cX5_reset 22 = .ok (.iload_n 1, 1) := by decide +kernel
theorem dX5_reset_23 : decode cX5_reset 23 = .ok (.putfield 15, 3) := by decide +kernel
theorem dX5_reset_26 : decode cX5_reset 26 = .ok (.aload_n 0, 1) := by decide +kernel
theorem dX5_reset_27 : decode cX5_reset 27 = .ok (.bipush 126, 2) := by decide +kernel
theorem dX5_reset_29 : decode cX5_reset 29 = .ok (.putfield 19, 3) := by decide +kernel
theorem dX5_reset_32 : decode cX5_reset 32 = .ok (.aload_n 0, 1) := by decide +kernel
theorem dX5_reset_33 : decode cX5_reset 33 = .ok (.bipush 126, 2) := by decide +kernel
theorem dX5_reset_35 : decode cX5_reset 35 = .ok (.putfield 22, 3) := by decide +kernel
theorem dX5_reset_38 : decode cX5_reset 38 = .ok (.aload_n 0, 1) := by decide +kernel
theorem dX5_reset_39 : decode cX5_reset 39 = .ok (.iconst 0, 1) := by decide +kernel
theorem dX5_reset_40 : decode cX5_reset 40 = .ok (.putfield 25, 3) := by decide +kernel
theorem dX5_reset_43 : decode cX5_reset 43 = .ok (.aload_n 0, 1) := by decide +kernel
theorem dX5_reset_44 : decode cX5_reset 44 = .ok (.iconst 0, 1) := by decide +kernel
theorem dX5_reset_45 : decode cX5_reset 45 = .ok (.putfield 28, 3) := by decide +kernel
theorem dX5_reset_48 : decode cX5_reset 48 = .ok (.aload_n 0, 1) := by decide +kernel
theorem dX5_reset_49 : decode cX5_reset 49 = .ok (.iconst 0, 1) := by decide +kernel
theorem dX5_reset_50 : decode cX5_reset 50 = .ok (.putfield 31, 3) := by decide +kernel
theorem dX5_reset_53 : decode cX5_reset 53 = .ok (.return_, 1) := by decide +kernel
theorem dX5_takeFrom_0 : decode cX5_takeFrom 0 = .ok (.iconst 0, 1) := by decide +kernel
theorem dX5_takeFrom_1 : decode cX5_takeFrom 1 = .ok (.istore_n 2, 1) := by decide +kernel
theorem dX5_takeFrom_2 : decode cX5_takeFrom 2 = .ok (.iload_n 2, 1) := by decide +kernel
theorem dX5_takeFrom_3 : decode cX5_takeFrom 3 = .ok (.bipush 8, 2) := by decide +kernel
theorem dX5_takeFrom_5 : decode cX5_takeFrom 5 = .ok (.if_icmp .ge 21, 3) := by decide +kernel
theorem dX5_takeFrom_8 : decode cX5_takeFrom 8 = .ok (.aload_n 0, 1) := by decide +kernel
theorem dX5_takeFrom_9 : decode cX5_takeFrom 9 = .ok (.getfield 9, 3) := by decide +kernel
theorem dX5_takeFrom_12 : decode cX5_takeFrom 12 = .ok (.iload_n 2, 1) := by decide +kernel
theorem dX5_takeFrom_13 : decode cX5_takeFrom 13 = .ok (.aload_n 1, 1) := by decide +kernel
theorem dX5_takeFrom_14 : decode cX5_takeFrom 14 = .ok (.getfield 9, 3) := by decide +kernel
theorem dX5_takeFrom_17 : decode cX5_takeFrom 17 = .ok (.iload_n 2, 1) := by decide +kernel
theorem dX5_takeFrom_18 : decode cX5_takeFrom 18 = .ok (.iaload, 1) := by decide +kernel
theorem dX5_takeFrom_19 : decode cX5_takeFrom 19 = .ok (.iastore, 1) := by decide +kernel
theorem dX5_takeFrom_20 : decode cX5_takeFrom 20 = .ok (.iinc 2 1, 3) := by decide +kernel
theorem dX5_takeFrom_23 : decode cX5_takeFrom 23 = .ok (.goto (-21), 3) := by decide +kernel
theorem dX5_takeFrom_26 : decode cX5_takeFrom 26 = .ok (.aload_n 0, 1) := by decide +kernel
theorem dX5_takeFrom_27 : decode cX5_takeFrom 27 = .ok (.aload_n 1, 1) := by decide +kernel
theorem dX5_takeFrom_28 : decode cX5_takeFrom 28 = .ok (.getfield 15, 3) := by decide +kernel
theorem dX5_takeFrom_31 : decode cX5_takeFrom 31 = .ok (.putfield 15, 3) := by decide +kernel
theorem dX5_takeFrom_34 : decode cX5_takeFrom 34 = .ok (.aload_n 0, 1) := by decide +kernel
theorem dX5_takeFrom_35 : decode cX5_takeFrom 35 = .ok (.aload_n 1, 1) := by decide +kernel
theorem dX5_takeFrom_36 : decode cX5_takeFrom 36 = .ok (.getfield 19, 3) := by decide +kernel
theorem dX5_takeFrom_39 : decode cX5_takeFrom 39 = .ok (.putfield 19, 3) := by decide +kernel
theorem dX5_takeFrom_42 : decode cX5_takeFrom 42 = .ok (.aload_n 0, 1) := by decide +kernel
theorem dX5_takeFrom_43 : decode cX5_takeFrom 43 = .ok (.aload_n 1, 1) := by decide +kernel
theorem dX5_takeFrom_44 : decode cX5_takeFrom 44 = .ok (.getfield 22, 3) := by decide +kernel
theorem dX5_takeFrom_47 : decode cX5_takeFrom 47 = .ok (.putfield 22, 3) := by decide +kernel
theorem dX5_takeFrom_50 : decode cX5_takeFrom 50 = .ok (.aload_n 0, 1) := by decide +kernel
theorem dX5_takeFrom_51 : decode cX5_takeFrom 51 = .ok (.aload_n 1, 1) := by decide +kernel
theorem dX5_takeFrom_52 : decode cX5_takeFrom 52 = .ok (.getfield 25, 3) := by decide +kernel
theorem dX5_takeFrom_55 : decode cX5_takeFrom 55 = .ok (.putfield 25, 3) := by decide +kernel
theorem dX5_takeFrom_58 : decode cX5_takeFrom 58 = .ok (.aload_n 0, 1) := by decide +kernel
theorem dX5_takeFrom_59 : decode cX5_takeFrom 59 = .ok (.aload_n 1, 1) := by decide +kernel
theorem dX5_takeFrom_60 : decode cX5_takeFrom 60 = .ok (.getfield 28, 3) := by decide +kernel
theorem dX5_takeFrom_63 : decode cX5_takeFrom 63 = .ok (.putfield 28, 3) := by decide +kernel
theorem dX5_takeFrom_66 : decode cX5_takeFrom 66 = .ok (.aload_n 0, 1) := by decide +kernel
theorem dX5_takeFrom_67 : decode cX5_takeFrom 67 = .ok (.aload_n 1, 1) := by decide +kernel
theorem dX5_takeFrom_68 : decode cX5_takeFrom 68 = .ok (.getfield 31, 3) := by decide +kernel
theorem dX5_takeFrom_71 : decode cX5_takeFrom 71 = .ok (.putfield 31, 3) := by decide +kernel
theorem dX5_takeFrom_74 : decode cX5_takeFrom 74 = .ok (.return_, 1) := by decide +kernel
theorem dX5_filledRegisters_0 : decode cX5_filledRegisters 0 = .ok (.iconst 0, 1) := by decide +kernel
theorem dX5_filledRegisters_1 : decode cX5_filledRegisters 1 = .ok (.istore_n 1, 1) := by decide +kernel
theorem dX5_filledRegisters_2 : decode cX5_filledRegisters 2 = .ok (.iconst 0, 1) := by decide +kernel
theorem dX5_filledRegisters_3 : decode cX5_filledRegisters 3 = .ok (.istore_n 2, 1) := by decide +kernel
theorem dX5_filledRegisters_4 : decode cX5_filledRegisters 4 = .ok (.iload_n 2, 1) := by decide +kernel
theorem dX5_filledRegisters_5 : decode cX5_filledRegisters 5 = .ok (.bipush 8, 2) := by decide +kernel
theorem dX5_filledRegisters_7 : decode cX5_filledRegisters 7 = .ok (.if_icmp .ge 22, 3) := by decide +kernel
theorem dX5_filledRegisters_10 : decode cX5_filledRegisters 10 = .ok (.aload_n 0, 1) := by decide +kernel
theorem dX5_filledRegisters_11 : decode cX5_filledRegisters 11 = .ok (.getfield 9, 3) := by decide +kernel
theorem dX5_filledRegisters_14 : decode cX5_filledRegisters 14 = .ok (.iload_n 2, 1) := by decide +kernel
theorem dX5_filledRegisters_15 : decode cX5_filledRegisters 15 = .ok (.iaload, 1) := by decide +kernel
theorem dX5_filledRegisters_16 : decode cX5_filledRegisters 16 = .ok (.iconst (-1), 1) := by decide +kernel
theorem dX5_filledRegisters_17 : decode cX5_filledRegisters 17 = .ok (.if_icmp .eq 6, 3) := by decide +kernel
theorem dX5_filledRegisters_20 : decode cX5_filledRegisters 20 = .ok (.iinc 1 1, 3) := by decide +kernel
theorem dX5_filledRegisters_23 : decode cX5_filledRegisters 23 = .ok (.iinc 2 1, 3) := by decide +kernel
theorem dX5_filledRegisters_26 : decode cX5_filledRegisters 26 = .ok (.goto (-22), 3) := by decide +kernel
theorem dX5_filledRegisters_29 : decode cX5_filledRegisters 29 = .ok (.iload_n 1, 1) := by decide +kernel
theorem dX5_filledRegisters_30 : decode cX5_filledRegisters 30 = .ok (.ireturn, 1) := by decide +kernel
theorem dX5_reason_0 : decode cX5_reason 0 = .ok (.iload_n 2, 1) := by decide +kernel
theorem dX5_reason_1 : decode cX5_reason 1 = .ok (.aload_n 0, 1) := by decide +kernel
theorem dX5_reason_2 : decode cX5_reason 2 = .ok (.getfield 19, 3) := by decide +kernel
theorem dX5_reason_5 : decode cX5_reason 5 = .ok (.iconst (-1), 1) := by decide +kernel
theorem dX5_reason_6 : decode cX5_reason 6 = .ok (.ixor, 1) := by decide +kernel
theorem dX5_reason_7 : decode cX5_reason 7 = .ok (.iand, 1) := by decide +kernel
theorem dX5_reason_8 : decode cX5_reason 8 = .ok (.ifCond .eq 5, 3) := by decide +kernel
theorem dX5_reason_11 : decode cX5_reason 11 = .ok (.iconst 1, 1) := by decide +kernel
theorem dX5_reason_12 : decode cX5_reason 12 = .ok (.ireturn, 1) := by decide +kernel
theorem dX5_reason_13 : decode cX5_reason 13 = .ok (.aload_n 0, 1) := by decide +kernel
theorem dX5_reason_14 : decode cX5_reason 14 = .ok (.getfield 22, 3) := by decide +kernel
theorem dX5_reason_17 : decode cX5_reason 17 = .ok (.iload_n 3, 1) := by decide +kernel
theorem dX5_reason_18 : decode cX5_reason 18 = .ok (.ishr, 1) := by decide +kernel
theorem dX5_reason_19 : decode cX5_reason 19 = .ok (.iconst 1, 1) := by decide +kernel
theorem dX5_reason_20 : decode cX5_reason 20 = .ok (.iand, 1) := by decide +kernel
theorem dX5_reason_21 : decode cX5_reason 21 = .ok (.ifCond .ne 5, 3) := by decide +kernel
theorem dX5_reason_24 : decode cX5_reason 24 = .ok (.iconst 2, 1) := by decide +kernel
theorem dX5_reason_25 : decode cX5_reason 25 = .ok (.ireturn, 1) := by decide +kernel
theorem dX5_reason_26 : decode cX5_reason 26 = .ok (.iload_n 1, 1) := by decide +kernel
theorem dX5_reason_27 : decode cX5_reason 27 = .ok (.aload_n 0, 1) := by decide +kernel
theorem dX5_reason_28 : decode cX5_reason 28 = .ok (.getfield 25, 3) := by decide +kernel
theorem dX5_reason_31 : decode cX5_reason 31 = .ok (.iand, 1) := by decide +kernel
theorem dX5_reason_32 : decode cX5_reason 32 = .ok (.ifCond .eq 5, 3) := by decide +kernel
theorem dX5_reason_35 : decode cX5_reason 35 = .ok (.iconst 3, 1) := by decide +kernel
theorem dX5_reason_36 : decode cX5_reason 36 = .ok (.ireturn, 1) := by decide +kernel
theorem dX5_reason_37 : decode cX5_reason 37 = .ok (.aload_n 0, 1) := by decide +kernel
theorem dX5_reason_38 : decode cX5_reason 38 = .ok (.getfield 28, 3) := by decide +kernel
theorem dX5_reason_41 : decode cX5_reason 41 = .ok (.iload_n 1, 1) := by decide +kernel
theorem dX5_reason_42 : decode cX5_reason 42 = .ok (.iconst (-1), 1) := by decide +kernel
theorem dX5_reason_43 : decode cX5_reason 43 = .ok (.ixor, 1) := by decide +kernel
theorem dX5_reason_44 : decode cX5_reason 44 = .ok (.iand, 1) := by decide +kernel
theorem dX5_reason_45 : decode cX5_reason 45 = .ok (.ifCond .eq 5, 3) := by decide +kernel
theorem dX5_reason_48 : decode cX5_reason 48 = .ok (.iconst 4, 1) := by decide +kernel
theorem dX5_reason_49 : decode cX5_reason 49 = .ok (.ireturn, 1) := by decide +kernel
theorem dX5_reason_50 : decode cX5_reason 50 = .ok (.aload_n 0, 1) := by decide +kernel
theorem dX5_reason_51 : decode cX5_reason 51 = .ok (.getfield 31, 3) := by decide +kernel
theorem dX5_reason_54 : decode cX5_reason 54 = .ok (.ifCond .eq 12, 3) := by decide +kernel
theorem dX5_reason_57 : decode cX5_reason 57 = .ok (.iload 4, 2) := by decide +kernel
theorem dX5_reason_59 : decode cX5_reason 59 = .ok (.ifCond .eq 7, 3) := by decide +kernel
theorem dX5_reason_62 : decode cX5_reason 62 = .ok (.iconst 5, 1) := by decide +kernel
theorem dX5_reason_63 : decode cX5_reason 63 = .ok (.goto 4, 3) := by decide +kernel
theorem dX5_reason_66 : decode cX5_reason 66 = .ok (.iconst 0, 1) := by decide +kernel
theorem dX5_reason_67 : decode cX5_reason 67 = .ok (.ireturn, 1) := by decide +kernel
theorem dX6_init_0 : decode cX6_init 0 = .ok (.aload_n 0, 1) := by decide +kernel
theorem dX6_init_1 : decode cX6_init 1 = .ok (.invokespecial 3, 3) := by decide +kernel
theorem dX6_init_4 : decode cX6_init 4 = .ok (.aload_n 0, 1) := by decide +kernel
theorem dX6_init_5 : decode cX6_init 5 = .ok (.bipush 20, 2) := by decide +kernel
theorem dX6_init_7 : decode cX6_init 7 = .ok (.newarray .int, 2) := by decide +kernel
theorem dX6_init_9 : decode cX6_init 9 = .ok (.putfield 9, 3) := by decide +kernel
theorem dX6_init_12 : decode cX6_init 12 = .ok (.return_, 1) := by decide +kernel
theorem dX6_append_0 : decode cX6_append 0 = .ok (.aload_n 0, 1) := by decide +kernel
theorem dX6_append_1 : decode cX6_append 1 = .ok (.getfield 15, 3) := by decide +kernel
theorem dX6_append_4 : decode cX6_append 4 = .ok (.bipush 20, 2) := by decide +kernel
theorem dX6_append_6 : decode cX6_append 6 = .ok (.if_icmp .lt 5, 3) := by decide +kernel
theorem dX6_append_9 : decode cX6_append 9 = .ok (.iconst 0, 1) := by decide +kernel
theorem dX6_append_10 : decode cX6_append 10 = .ok (.ireturn, 1) := by decide +kernel
theorem dX6_append_11 : decode cX6_append 11 = .ok (.aload_n 0, 1) := by decide +kernel
theorem dX6_append_12 : decode cX6_append 12 = .ok (.getfield 9, 3) := by decide +kernel
theorem dX6_append_15 : decode cX6_append 15 = .ok (.aload_n 0, 1) := by decide +kernel
theorem dX6_append_16 : decode cX6_append 16 = .ok (.getfield 15, 3) := by decide +kernel
theorem dX6_append_19 : decode cX6_append 19 = .ok (.iload_n 1, 1) := by decide +kernel
theorem dX6_append_20 : decode cX6_append 20 = .ok (.iastore, 1) := by decide +kernel
theorem dX6_append_21 : decode cX6_append 21 = .ok (.aload_n 0, 1) := by decide +kernel
theorem dX6_append_22 : decode cX6_append 22 = .ok (.dup, 1) := by decide +kernel
theorem dX6_append_23 : decode cX6_append 23 = .ok (.getfield 15, 3) := by decide +kernel
theorem dX6_append_26 : decode cX6_append 26 = .ok (.iconst 1, 1) := by decide +kernel
theorem dX6_append_27 : decode cX6_append 27 = .ok (.iadd, 1) := by decide +kernel
theorem dX6_append_28 : decode cX6_append 28 = .ok (.putfield 15, 3) := by decide +kernel
theorem dX6_append_31 : decode cX6_append 31 = .ok (.iconst 1, 1) := by decide +kernel
theorem dX6_append_32 : decode cX6_append 32 = .ok (.ireturn, 1) := by decide +kernel
theorem dX6_parse_0 : decode cX6_parse 0 = .ok (.iconst 0, 1) := by decide +kernel
theorem dX6_parse_1 : decode cX6_parse 1 = .ok (.istore_n 2, 1) := by decide +kernel
theorem dX6_parse_2 : decode cX6_parse 2 = .ok (.iconst 0, 1) := by decide +kernel
theorem dX6_parse_3 : decode cX6_parse 3 = .ok (.istore_n 3, 1) := by decide +kernel
theorem dX6_parse_4 : decode cX6_parse 4 = .ok (.iconst 0, 1) := by decide +kernel
theorem dX6_parse_5 : decode cX6_parse 5 = .ok (.istore 4, 2) := by decide +kernel
theorem dX6_parse_7 : decode cX6_parse 7 = .ok (.iconst 0, 1) := by decide +kernel
theorem dX6_parse_8 : decode cX6_parse 8 = .ok (.istore 5, 2) := by decide +kernel
theorem dX6_parse_10 : decode cX6_parse 10 = .ok (.iload 5, 2) := by decide +kernel
theorem dX6_parse_12 : decode cX6_parse 12 = .ok (.aload_n 0, 1) := by decide +kernel
theorem dX6_parse_13 : decode cX6_parse 13 = .ok (.getfield 15, 3) := by decide +kernel
theorem dX6_parse_16 : decode cX6_parse 16 = .ok (.if_icmp .ge 99, 3) := by decide +kernel
theorem dX6_parse_19 : decode cX6_parse 19 = .ok (.aload_n 0, 1) := by decide +kernel
theorem dX6_parse_20 : decode cX6_parse 20 = .ok (.getfield 9, 3) := by decide +kernel
theorem dX6_parse_23 : decode cX6_parse 23 = .ok (.iload 5, 2) := by decide +kernel
theorem dX6_parse_25 : decode cX6_parse 25 = .ok (.iaload, 1) := by decide +kernel
theorem dX6_parse_26 : decode cX6_parse 26 = .ok (.bipush 48, 2) := by decide +kernel
theorem dX6_parse_28 : decode cX6_parse 28 = .ok (.isub, 1) := by decide +kernel
theorem dX6_parse_29 : decode cX6_parse 29 = .ok (.istore 6, 2) := by decide +kernel
theorem dX6_parse_31 : decode cX6_parse 31 = .ok (.iload 6, 2) := by decide +kernel
theorem dX6_parse_33 : decode cX6_parse 33 = .ok (.ifCond .lt 47, 3) := by decide +kernel
theorem dX6_parse_36 : decode cX6_parse 36 = .ok (.iload 6, 2) := by decide +kernel
theorem dX6_parse_38 : decode cX6_parse 38 = .ok (.iload_n 1, 1) := by decide +kernel
theorem dX6_parse_39 : decode cX6_parse 39 = .ok (.if_icmp .ge 41, 3) := by decide +kernel
theorem dX6_parse_42 : decode cX6_parse 42 = .ok (.iload_n 3, 1) := by decide +kernel
theorem dX6_parse_43 : decode cX6_parse 43 = .ok (.iload 6, 2) := by decide +kernel
theorem dX6_parse_45 : decode cX6_parse 45 = .ok (.ishr, 1) := by decide +kernel
theorem dX6_parse_46 : decode cX6_parse 46 = .ok (.iconst 1, 1) := by decide +kernel
theorem dX6_parse_47 : decode cX6_parse 47 = .ok (.iand, 1) := by decide +kernel
theorem dX6_parse_48 : decode cX6_parse 48 = .ok (.ifCond .ne 32, 3) := by decide +kernel
theorem dX6_parse_51 : decode cX6_parse 51 = .ok (.iload_n 2, 1) := by decide +kernel
theorem dX6_parse_52 : decode cX6_parse 52 = .ok (.iload 4, 2) := by decide +kernel
theorem dX6_parse_54 : decode cX6_parse 54 = .ok (.iload 6, 2) := by decide +kernel
theorem dX6_parse_56 : decode cX6_parse 56 = .ok (.invokestatic 19, 3) := by decide +kernel
theorem dX6_parse_59 : decode cX6_parse 59 = .ok (.ior, 1) := by decide +kernel
theorem dX6_parse_60 : decode cX6_parse 60 = .ok (.istore_n 2, 1) := by decide +kernel
theorem dX6_parse_61 : decode cX6_parse 61 = .ok (.iload 4, 2) := by decide +kernel
theorem dX6_parse_63 : decode cX6_parse 63 = .ok (.iconst 1, 1) := by decide +kernel
theorem dX6_parse_64 : decode cX6_parse 64 = .ok (.iload 6, 2) := by decide +kernel
theorem dX6_parse_66 : decode cX6_parse 66 = .ok (.ishl, 1) := by decide +kernel
theorem dX6_parse_67 : decode cX6_parse 67 = .ok (.ior, 1) := by decide +kernel
theorem dX6_parse_68 : decode cX6_parse 68 = .ok (.istore 4, 2) := by decide +kernel
theorem dX6_parse_70 : decode cX6_parse 70 = .ok (.iload_n 3, 1) := by decide +kernel
theorem dX6_parse_71 : decode cX6_parse 71 = .ok (.iconst 1, 1) := by decide +kernel
theorem dX6_parse_72 : decode cX6_parse 72 = .ok (.iload 6, 2) := by decide +kernel
theorem dX6_parse_74 : decode cX6_parse 74 = .ok (.ishl, 1) := by decide +kernel
theorem dX6_parse_75 : decode cX6_parse 75 = .ok (.ior, 1) := by decide +kernel
theorem dX6_parse_76 : decode cX6_parse 76 = .ok (.istore_n 3, 1) := by decide +kernel
theorem dX6_parse_77 : decode cX6_parse 77 = .ok (.goto 32, 3) := by decide +kernel
theorem dX6_parse_80 : decode cX6_parse 80 = .ok (.aload_n 0, 1) := by decide +kernel
theorem dX6_parse_81 : decode cX6_parse 81 = .ok (.getfield 9, 3) := by decide +kernel
theorem dX6_parse_84 : decode cX6_parse 84 = .ok (.iload 5, 2) := by decide +kernel
theorem dX6_parse_86 : decode cX6_parse 86 = .ok (.iaload, 1) := by decide +kernel
theorem dX6_parse_87 : decode cX6_parse 87 = .ok (.bipush 47, 2) := by decide +kernel
theorem dX6_parse_89 : decode cX6_parse 89 = .ok (.if_icmp .ne 14, 3) := by decide +kernel
theorem dX6_parse_92 : decode cX6_parse 92 = .ok (.iload 4, 2) := by decide +kernel
theorem dX6_parse_94 : decode cX6_parse 94 = .ok (.ifCond .eq 9, 3) := by decide +kernel
theorem dX6_parse_97 : decode cX6_parse 97 = .ok (.iconst 0, 1) := by decide +kernel
theorem dX6_parse_98 : decode cX6_parse 98 = .ok (.istore 4, 2) := by decide +kernel
theorem dX6_parse_100 : decode cX6_parse 100 = .ok (.goto 9, 3) := by decide +kernel
theorem dX6_parse_103 : decode cX6_parse 103 = .ok (.bipush (-10), 2) := by decide +kernel
theorem dX6_parse_105 : decode cX6_parse 105 = .ok (.iload 5, 2) := by decide +kernel
theorem dX6_parse_107 : decode cX6_parse 107 = .ok (.isub, 1) := by decide +kernel
theorem dX6_parse_108 : decode cX6_parse 108 = .ok (.ireturn, 1) := by decide +kernel
theorem dX6_parse_109 : decode cX6_parse 109 = .ok (.iinc 5 1, 3) := by decide +kernel
theorem dX6_parse_112 : decode cX6_parse 112 = .ok (.goto (-102), 3) := by decide +kernel
theorem dX6_parse_115 : decode cX6_parse 115 = .ok (.iload 4, 2) := by decide +kernel
theorem dX6_parse_117 : decode cX6_parse 117 = .ok (.ifCond .eq 16, 3) := by decide +kernel
theorem dX6_parse_120 : decode cX6_parse 120 = .ok (.iload_n 3, 1) := by decide +kernel
theorem dX6_parse_121 : decode cX6_parse 121 = .ok (.iconst 1, 1) := by decide +kernel
theorem dX6_parse_122 : decode cX6_parse 122 = .ok (.iload_n 1, 1) := by decide +kernel
theorem dX6_parse_123 : decode cX6_parse 123 = .ok (.ishl, 1) := by decide +kernel
theorem dX6_parse_124 : decode cX6_parse 124 = .ok (.iconst 1, 1) := by decide +kernel
theorem dX6_parse_125 : decode cX6_parse 125 = .ok (.isub, 1) := by decide +kernel
theorem dX6_parse_126 : decode cX6_parse 126 = .ok (.if_icmp .ne 7, 3) := by decide +kernel
theorem dX6_parse_129 : decode cX6_parse 129 = .ok (.iconst 1, 1) := by decide +kernel
theorem dX6_parse_130 : decode cX6_parse 130 = .ok (.goto 4, 3) := by decide +kernel
theorem dX6_parse_133 : decode cX6_parse 133 = .ok (.iconst 0, 1) := by decide +kernel
theorem dX6_parse_134 : decode cX6_parse 134 = .ok (.istore 5, 2) := by decide +kernel
theorem dX6_parse_136 : decode cX6_parse 136 = .ok (.iload 5, 2) := by decide +kernel
theorem dX6_parse_138 : decode cX6_parse 138 = .ok (.ifCond .eq 7, 3) := by decide +kernel
theorem dX6_parse_141 : decode cX6_parse 141 = .ok (.iload_n 2, 1) := by decide +kernel
theorem dX6_parse_142 : decode cX6_parse 142 = .ok (.goto 10, 3) := by decide +kernel
theorem dX6_parse_145 : decode cX6_parse 145 = .ok (.bipush (-10), 2) := by decide +kernel
theorem dX6_parse_147 : decode cX6_parse 147 = .ok (.aload_n 0, 1) := by decide +kernel
theorem dX6_parse_148 : decode cX6_parse 148 = .ok (.getfield 15, 3) := by decide +kernel
theorem dX6_parse_151 : decode cX6_parse 151 = .ok (.isub, 1) := by decide +kernel
theorem dX6_parse_152 : decode cX6_parse 152 = .ok (.ireturn, 1) := by decide +kernel
theorem dX7_init_0 : decode cX7_init 0 = .ok (.aload_n 0, 1) := by decide +kernel
theorem dX7_init_1 : decode cX7_init 1 = .ok (.invokespecial 1, 3) := by decide +kernel
theorem dX7_init_4 : decode cX7_init 4 = .ok (.aload_n 0, 1) := by decide +kernel
theorem dX7_init_5 : decode cX7_init 5 = .ok (.new 7, 3) := by decide +kernel
theorem dX7_init_8 : decode cX7_init 8 = .ok (.dup, 1) := by decide +kernel
theorem dX7_init_9 : decode cX7_init 9 = .ok (.invokespecial 9, 3) := by decide +kernel
theorem dX7_init_12 : decode cX7_init 12 = .ok (.putfield 10, 3) := by decide +kernel
theorem dX7_init_15 : decode cX7_init 15 = .ok (.aload_n 0, 1) := by decide +kernel
theorem dX7_init_16 : decode cX7_init 16 = .ok (.new 16, 3) := by decide +kernel
theorem dX7_init_19 : decode cX7_init 19 = .ok (.dup, 1) := by decide +kernel
theorem dX7_init_20 : decode cX7_init 20 = .ok (.invokespecial 18, 3) := by decide +kernel
theorem dX7_init_23 : decode cX7_init 23 = .ok (.putfield 19, 3) := by decide +kernel
theorem dX7_init_26 : decode cX7_init 26 = .ok (.aload_n 0, 1) := by decide +kernel
theorem dX7_init_27 : decode cX7_init 27 = .ok (.new 23, 3) := by decide +kernel
theorem dX7_init_30 : decode cX7_init 30 = .ok (.dup, 1) := by decide +kernel
theorem dX7_init_31 : decode cX7_init 31 = .ok (.invokespecial 25, 3) := by decide +kernel
theorem dX7_init_34 : decode cX7_init 34 = .ok (.putfield 26, 3) := by decide +kernel
theorem dX7_init_37 : decode cX7_init 37 = .ok (.aload_n 0, 1) := by decide +kernel
theorem dX7_init_38 : decode cX7_init 38 = .ok (.new 30, 3) := by decide +kernel
theorem dX7_init_41 : decode cX7_init 41 = .ok (.dup, 1) := by decide +kernel
theorem dX7_init_42 : decode cX7_init 42 = .ok (.invokespecial 32, 3) := by decide +kernel
theorem dX7_init_45 : decode cX7_init 45 = .ok (.putfield 33, 3) := by decide +kernel
theorem dX7_init_48 : decode cX7_init 48 = .ok (.aload_n 0, 1) := by decide +kernel
theorem dX7_init_49 : decode cX7_init 49 = .ok (.new 37, 3) := by decide +kernel
theorem dX7_init_52 : decode cX7_init 52 = .ok (.dup, 1) := by decide +kernel
theorem dX7_init_53 : decode cX7_init 53 = .ok (.invokespecial 39, 3) := by decide +kernel
theorem dX7_init_56 : decode cX7_init 56 = .ok (.putfield 40, 3) := by decide +kernel
theorem dX7_init_59 : decode cX7_init 59 = .ok (.aload_n 0, 1) := by decide +kernel
theorem dX7_init_60 : decode cX7_init 60 = .ok (.new 44, 3) := by decide +kernel
theorem dX7_init_63 : decode cX7_init 63 = .ok (.dup, 1) := by decide +kernel
theorem dX7_init_64 : decode cX7_init 64 = .ok (.invokespecial 46, 3) := by decide +kernel
theorem dX7_init_67 : decode cX7_init 67 = .ok (.putfield 47, 3) := by decide +kernel
theorem dX7_init_70 : decode cX7_init 70 = .ok (.aload_n 0, 1) := by decide +kernel
theorem dX7_init_71 : decode cX7_init 71 = .ok (.new 51, 3) := by decide +kernel
theorem dX7_init_74 : decode cX7_init 74 = .ok (.dup, 1) := by decide +kernel
theorem dX7_init_75 : decode cX7_init 75 = .ok (.invokespecial 53, 3) := by decide +kernel
theorem dX7_init_78 : decode cX7_init 78 = .ok (.putfield 54, 3) := by decide +kernel
theorem dX7_init_81 : decode cX7_init 81 = .ok (.aload_n 0, 1) := by decide +kernel
theorem dX7_init_82 : decode cX7_init 82 = .ok (.new 51, 3) := by decide +kernel
theorem dX7_init_85 : decode cX7_init 85 = .ok (.dup, 1) := by decide +kernel
theorem dX7_init_86 : decode cX7_init 86 = .ok (.invokespecial 53, 3) := by decide +kernel
theorem dX7_init_89 : decode cX7_init 89 = .ok (.putfield 58, 3) := by decide +kernel
theorem dX7_init_92 : decode cX7_init 92 = .ok (.aload_n 0, 1) := by decide +kernel
theorem dX7_init_93 : decode cX7_init 93 = .ok (.bipush 6, 2) := by decide +kernel
theorem dX7_init_95 : decode cX7_init 95 = .ok (.newarray .int, 2) := by decide +kernel
theorem dX7_init_97 : decode cX7_init 97 = .ok (.putfield 61, 3) := by decide +kernel
theorem dX7_init_100 : decode cX7_init 100 = .ok (.aload_n 0, 1) := by decide +kernel
theorem dX7_init_101 : decode cX7_init 101 = .ok (.bipush 64, 2) := by decide +kernel
theorem dX7_init_103 : decode cX7_init 103 = .ok (.newarray .int, 2) := by decide +kernel
theorem dX7_init_105 : decode cX7_init 105 = .ok (.putfield 65, 3) := by decide +kernel
theorem dX7_init_108 : decode cX7_init 108 = .ok (.aload_n 0, 1) := by decide +kernel
theorem dX7_init_109 : decode cX7_init 109 = .ok (.getfield 10, 3) := by decide +kernel
theorem dX7_init_112 : decode cX7_init 112 = .ok (.iconst 5, 1) := by decide +kernel
theorem dX7_init_113 : decode cX7_init 113 = .ok (.invokevirtual 68, 3) := by decide +kernel
theorem dX7_init_116 : decode cX7_init 116 = .ok (.aload_n 0, 1) := by decide +kernel
theorem dX7_init_117 : decode cX7_init 117 = .ok (.invokevirtual 72, 3) := by decide +kernel
theorem dX7_init_120 : decode cX7_init 120 = .ok (.return_, 1) := by decide +kernel
theorem dX7_setSize_0 : decode cX7_setSize 0 = .ok (.iload_n 1, 1) := by decide +kernel
theorem dX7_setSize_1 : decode cX7_setSize 1 = .ok (.iconst 1, 1) := by decide +kernel
theorem dX7_setSize_2 : decode cX7_setSize 2 = .ok (.if_icmp .lt 9, 3) := by decide +kernel
theorem dX7_setSize_5 : decode cX7_setSize 5 = .ok (.iload_n 1, 1) := by decide +kernel
theorem dX7_setSize_6 : decode cX7_setSize 6 = .ok (.bipush 6, 2) := by decide +kernel
theorem dX7_setSize_8 : decode cX7_setSize 8 = .ok (.if_icmp .le 5, 3) := by decide +kernel
theorem dX7_setSize_11 : decode cX7_setSize 11 = .ok (.iconst (-1), 1) := by decide +kernel
theorem dX7_setSize_12 : decode cX7_setSize 12 = .ok (.ireturn, 1) := by decide +kernel
theorem dX7_setSize_13 : decode cX7_setSize 13 = .ok (.aload_n 0, 1) := by decide +kernel
theorem dX7_setSize_14 : decode cX7_setSize 14 = .ok (.getfield 10, 3) := by decide +kernel
theorem dX7_setSize_17 : decode cX7_setSize 17 = .ok (.getfield 75, 3) := by decide +kernel
theorem dX7_setSize_20 : decode cX7_setSize 20 = .ok (.istore_n 2, 1) := by decide +kernel
theorem dX7_setSize_21 : decode cX7_setSize 21 = .ok (.aload_n 0, 1) := by decide +kernel
theorem dX7_setSize_22 : decode cX7_setSize 22 = .ok (.getfield 19, 3) := by decide +kernel
theorem dX7_setSize_25 : decode cX7_setSize 25 = .ok (.aload_n 0, 1) := by decide +kernel
theorem dX7_setSize_26 : decode cX7_setSize 26 = .ok (.getfield 10, 3) := by decide +kernel
theorem dX7_setSize_29 : decode cX7_setSize 29 = .ok (.invokevirtual 79, 3) := by decide +kernel
theorem dX7_setSize_32 : decode cX7_setSize 32 = .ok (.aload_n 0, 1) := by decide +kernel
theorem dX7_setSize_33 : decode cX7_setSize 33 = .ok (.getfield 10, 3) := by decide +kernel
theorem dX7_setSize_36 : decode cX7_setSize 36 = .ok (.iload_n 1, 1) := by decide +kernel
theorem dX7_setSize_37 : decode cX7_setSize 37 = .ok (.invokevirtual 68, 3) := by decide +kernel
theorem dX7_setSize_40 : decode cX7_setSize 40 = .ok (.aload_n 0, 1) := by decide +kernel
theorem dX7_setSize_41 : decode cX7_setSize 41 = .ok (.invokevirtual 72, 3) := by decide +kernel
theorem dX7_setSize_44 : decode cX7_setSize 44 = .ok (.iload_n 2, 1) := by decide +kernel
theorem dX7_setSize_45 : decode cX7_setSize 45 = .ok (.ireturn, 1) := by decide +kernel
theorem dX7_allowSize_0 : decode cX7_allowSize 0 = .ok (.iload_n 1, 1) := by decide +kernel
theorem dX7_allowSize_1 : decode cX7_allowSize 1 = .ok (.iconst 1, 1) := by decide +kernel
theorem dX7_allowSize_2 : decode cX7_allowSize 2 = .ok (.if_icmp .lt 9, 3) := by decide +kernel
theorem dX7_allowSize_5 : decode cX7_allowSize 5 = .ok (.iload_n 1, 1) := by decide +kernel
theorem dX7_allowSize_6 : decode cX7_allowSize 6 = .ok (.bipush 6, 2) := by decide +kernel
theorem dX7_allowSize_8 : decode cX7_allowSize 8 = .ok (.if_icmp .le 5, 3) := by decide +kernel
theorem dX7_allowSize_11 : decode cX7_allowSize 11 = .ok (.iconst (-1), 1) := by decide +kernel
theorem dX7_allowSize_12 : decode cX7_allowSize 12 = .ok (.ireturn, 1) := by decide +kernel
theorem dX7_allowSize_13 : decode cX7_allowSize 13 = .ok (.aload_n 0, 1) := by decide +kernel
theorem dX7_allowSize_14 : decode cX7_allowSize 14 = .ok (.getfield 10, 3) := by decide +kernel
theorem dX7_allowSize_17 : decode cX7_allowSize 17 = .ok (.getfield 83, 3) := by decide +kernel
theorem dX7_allowSize_20 : decode cX7_allowSize 20 = .ok (.iload_n 1, 1) := by decide +kernel
theorem dX7_allowSize_21 : decode cX7_allowSize 21 = .ok (.ishr, 1) := by decide +kernel
theorem dX7_allowSize_22 : decode cX7_allowSize 22 = .ok (.iconst 1, 1) := by decide +kernel
theorem dX7_allowSize_23 : decode cX7_allowSize 23 = .ok (.iand, 1) := by decide +kernel
theorem dX7_allowSize_24 : decode cX7_allowSize 24 = .ok (.istore_n 3, 1) := by decide +kernel
theorem dX7_allowSize_25 : decode cX7_allowSize 25 = .ok (.aload_n 0, 1) := by decide +kernel
theorem dX7_allowSize_26 : decode cX7_allowSize 26 = .ok (.getfield 19, 3) := by decide +kernel
theorem dX7_allowSize_29 : decode cX7_allowSize 29 = .ok (.aload_n 0, 1) := by decide +kernel
theorem dX7_allowSize_30 : decode cX7_allowSize 30 = .ok (.getfield 10, 3) := by decide +kernel
theorem dX7_allowSize_33 : decode cX7_allowSize 33 = .ok (.invokevirtual 79, 3) := by decide +kernel
theorem dX7_allowSize_36 : decode cX7_allowSize 36 = .ok (.aload_n 0, 1) := by decide +kernel
theorem dX7_allowSize_37 : decode cX7_allowSize 37 = .ok (.getfield 10, 3) := by decide +kernel
theorem dX7_allowSize_40 : decode cX7_allowSize 40 = .ok (.aload_n 0, 1) := by decide +kernel
theorem dX7_allowSize_41 : decode cX7_allowSize 41 = .ok (.getfield 10, 3) := by decide +kernel
theorem dX7_allowSize_44 : decode cX7_allowSize 44 = .ok (.getfield 83, 3) := by decide +kernel
theorem dX7_allowSize_47 : decode cX7_allowSize 47 = .ok (.iconst 1, 1) := by decide +kernel
theorem dX7_allowSize_48 : decode cX7_allowSize 48 = .ok (.iload_n 1, 1) := by decide +kernel
theorem dX7_allowSize_49 : decode cX7_allowSize 49 = .ok (.ishl, 1) := by decide +kernel
theorem dX7_allowSize_50 : decode cX7_allowSize 50 = .ok (.iload_n 2, 1) := by decide +kernel
theorem dX7_allowSize_51 : decode cX7_allowSize 51 = .ok (.invokestatic 86, 3) := by decide +kernel
theorem dX7_allowSize_54 : decode cX7_allowSize 54 = .ok (.putfield 83, 3) := by decide +kernel
theorem dX7_allowSize_57 : decode cX7_allowSize 57 = .ok (.aload_n 0, 1) := by decide +kernel
theorem dX7_allowSize_58 : decode cX7_allowSize 58 = .ok (.invokevirtual 72, 3) := by decide +kernel
theorem dX7_allowSize_61 : decode cX7_allowSize 61 = .ok (.iload_n 3, 1) := by decide +kernel
theorem dX7_allowSize_62 : decode cX7_allowSize 62 = .ok (.ireturn, 1) := by decide +kernel
theorem dX7_allowNumber_0 : decode cX7_allowNumber 0 = .ok (.iload_n 1, 1) := by decide +kernel
theorem dX7_allowNumber_1 : decode cX7_allowNumber 1 = .ok (.iconst 1, 1) := by decide +kernel
theorem dX7_allowNumber_2 : decode cX7_allowNumber 2 = .ok (.if_icmp .lt 9, 3) := by decide +kernel
theorem dX7_allowNumber_5 : decode cX7_allowNumber 5 = .ok (.iload_n 1, 1) := by decide +kernel
theorem dX7_allowNumber_6 : decode cX7_allowNumber 6 = .ok (.bipush 6, 2) := by decide +kernel
theorem dX7_allowNumber_8 : decode cX7_allowNumber 8 = .ok (.if_icmp .le 5, 3) := by decide +kernel
theorem dX7_allowNumber_11 : decode cX7_allowNumber 11 = .ok (.iconst (-1), 1) := by decide +kernel
theorem dX7_allowNumber_12 : decode cX7_allowNumber 12 = .ok (.ireturn, 1) := by decide +kernel
theorem dX7_allowNumber_13 : decode cX7_allowNumber 13 = .ok (.aload_n 0, 1) := by decide +kernel
theorem dX7_allowNumber_14 : decode cX7_allowNumber 14 = .ok (.getfield 10, 3) := by decide +kernel
theorem dX7_allowNumber_17 : decode cX7_allowNumber 17 = .ok (.getfield 90, 3) := by decide +kernel
theorem dX7_allowNumber_20 : decode cX7_allowNumber 20 = .ok (.iload_n 1, 1) := by decide +kernel
theorem dX7_allowNumber_21 : decode cX7_allowNumber 21 = .ok (.ishr, 1) := by decide +kernel
theorem dX7_allowNumber_22 : decode cX7_allowNumber 22 = .ok (.iconst 1, 1) := by decide +kernel
theorem dX7_allowNumber_23 : decode cX7_allowNumber 23 = .ok (.iand, 1) := by decide +kernel
theorem dX7_allowNumber_24 : decode cX7_allowNumber 24 = .ok (.istore_n 3, 1) := by decide +kernel
theorem dX7_allowNumber_25 : decode cX7_allowNumber 25 = .ok (.aload_n 0, 1) := by decide +kernel
theorem dX7_allowNumber_26 : decode cX7_allowNumber 26 = .ok (.getfield 19, 3) := by decide +kernel
theorem dX7_allowNumber_29 : decode cX7_allowNumber 29 = .ok (.aload_n 0, 1) := by decide +kernel
theorem dX7_allowNumber_30 : decode cX7_allowNumber 30 = .ok (.getfield 10, 3) := by decide +kernel
theorem dX7_allowNumber_33 : decode cX7_allowNumber 33 = .ok (.invokevirtual 79, 3) := by decide +kernel
theorem dX7_allowNumber_36 : decode cX7_allowNumber 36 = .ok (.aload_n 0, 1) := by decide +kernel
theorem dX7_allowNumber_37 : decode cX7_allowNumber 37 = .ok (.getfield 10, 3) := by decide +kernel
theorem dX7_allowNumber_40 : decode cX7_allowNumber 40 = .ok (.aload_n 0, 1) := by decide +kernel
theorem dX7_allowNumber_41 : decode cX7_allowNumber 41 = .ok (.getfield 10, 3) := by decide +kernel
theorem dX7_allowNumber_44 : decode cX7_allowNumber 44 = .ok (.getfield 90, 3) := by decide +kernel
theorem dX7_allowNumber_47 : decode cX7_allowNumber 47 = .ok (.iconst 1, 1) := by decide +kernel
theorem dX7_allowNumber_48 : decode cX7_allowNumber 48 = .ok (.iload_n 1, 1) := by decide +kernel
theorem dX7_allowNumber_49 : decode cX7_allowNumber 49 = .ok (.ishl, 1) := by decide +kernel
theorem dX7_allowNumber_50 : decode cX7_allowNumber 50 = .ok (.iload_n 2, 1) := by decide +kernel
theorem dX7_allowNumber_51 : decode cX7_allowNumber 51 = .ok (.invokestatic 86, 3) := by decide +kernel
theorem dX7_allowNumber_54 : decode cX7_allowNumber 54 = .ok (.putfield 90, 3) := by decide +kernel
theorem dX7_allowNumber_57 : decode cX7_allowNumber 57 = .ok (.aload_n 0, 1) := by decide +kernel
theorem dX7_allowNumber_58 : decode cX7_allowNumber 58 = .ok (.invokevirtual 72, 3) := by decide +kernel
theorem dX7_allowNumber_61 : decode cX7_allowNumber 61 = .ok (.iload_n 3, 1) := by decide +kernel
theorem dX7_allowNumber_62 : decode cX7_allowNumber 62 = .ok (.ireturn, 1) := by decide +kernel
theorem dX7_apart_0 : decode cX7_apart 0 = .ok (.aload_n 0, 1) := by decide +kernel
theorem dX7_apart_1 : decode cX7_apart 1 = .ok (.iload_n 1, 1) := by decide +kernel
theorem dX7_apart_2 : decode cX7_apart 2 = .ok (.invokevirtual 93, 3) := by decide +kernel
theorem dX7_apart_5 : decode cX7_apart 5 = .ok (.ifCond .eq 16, 3) := by decide +kernel
theorem dX7_apart_8 : decode cX7_apart 8 = .ok (.aload_n 0, 1) := by decide +kernel
theorem dX7_apart_9 : decode cX7_apart 9 = .ok (.iload_n 2, 1) := by decide +kernel
theorem dX7_apart_10 : decode cX7_apart 10 = .ok (.invokevirtual 93, 3) := by decide +kernel
theorem dX7_apart_13 : decode cX7_apart 13 = .ok (.ifCond .eq 8, 3) := by decide +kernel
theorem dX7_apart_16 : decode cX7_apart 16 = .ok (.iload_n 1, 1) := by decide +kernel
theorem dX7_apart_17 : decode cX7_apart 17 = .ok (.iload_n 2, 1) := by decide +kernel
theorem dX7_apart_18 : decode cX7_apart 18 = .ok (.if_icmp .ne 5, 3) := by decide +kernel
theorem dX7_apart_21 : decode cX7_apart 21 = .ok (.iconst (-1), 1) := by decide +kernel
theorem dX7_apart_22 : decode cX7_apart 22 = .ok (.ireturn, 1) := by decide +kernel
theorem dX7_apart_23 : decode cX7_apart 23 = .ok (.iload_n 1, 1) := by decide +kernel
theorem dX7_apart_24 : decode cX7_apart 24 = .ok (.iload_n 2, 1) := by decide +kernel
theorem dX7_apart_25 : decode cX7_apart 25 = .ok (.invokestatic 97, 3) := by decide +kernel
theorem dX7_apart_28 : decode cX7_apart 28 = .ok (.istore 4, 2) := by decide +kernel
theorem dX7_apart_30 : decode cX7_apart 30 = .ok (.aload_n 0, 1) := by decide +kernel
theorem dX7_apart_31 : decode cX7_apart 31 = .ok (.getfield 10, 3) := by decide +kernel
theorem dX7_apart_34 : decode cX7_apart 34 = .ok (.getfield 101, 3) := by decide +kernel
theorem dX7_apart_37 : decode cX7_apart 37 = .ok (.iload 4, 2) := by decide +kernel
theorem dX7_apart_39 : decode cX7_apart 39 = .ok (.iand, 1) := by decide +kernel
theorem dX7_apart_40 : decode cX7_apart 40 = .ok (.ifCond .eq 7, 3) := by decide +kernel
theorem dX7_apart_43 : decode cX7_apart 43 = .ok (.iconst 1, 1) := by decide +kernel
theorem dX7_apart_44 : decode cX7_apart 44 = .ok (.goto 4, 3) := by decide +kernel
theorem dX7_apart_47 : decode cX7_apart 47 = .ok (.iconst 0, 1) := by decide +kernel
theorem dX7_apart_48 : decode cX7_apart 48 = .ok (.istore 5, 2) := by decide +kernel
theorem dX7_apart_50 : decode cX7_apart 50 = .ok (.aload_n 0, 1) := by decide +kernel
theorem dX7_apart_51 : decode cX7_apart 51 = .ok (.getfield 19, 3) := by decide +kernel
theorem dX7_apart_54 : decode cX7_apart 54 = .ok (.aload_n 0, 1) := by decide +kernel
theorem dX7_apart_55 : decode cX7_apart 55 = .ok (.getfield 10, 3) := by decide +kernel
theorem dX7_apart_58 : decode cX7_apart 58 = .ok (.invokevirtual 79, 3) := by decide +kernel
theorem dX7_apart_61 : decode cX7_apart 61 = .ok (.aload_n 0, 1) := by decide +kernel
theorem dX7_apart_62 : decode cX7_apart 62 = .ok (.getfield 10, 3) := by decide +kernel
theorem dX7_apart_65 : decode cX7_apart 65 = .ok (.aload_n 0, 1) := by decide +kernel
theorem dX7_apart_66 : decode cX7_apart 66 = .ok (.getfield 10, 3) := by decide +kernel
theorem dX7_apart_69 : decode cX7_apart 69 = .ok (.getfield 101, 3) := by decide +kernel
theorem dX7_apart_72 : decode cX7_apart 72 = .ok (.iload 4, 2) := by decide +kernel
theorem dX7_apart_74 : decode cX7_apart 74 = .ok (.iload_n 3, 1) := by decide +kernel
theorem dX7_apart_75 : decode cX7_apart 75 = .ok (.invokestatic 86, 3) := by decide +kernel
theorem dX7_apart_78 : decode cX7_apart 78 = .ok (.putfield 101, 3) := by decide +kernel
theorem dX7_apart_81 : decode cX7_apart 81 = .ok (.aload_n 0, 1) := by decide +kernel
theorem dX7_apart_82 : decode cX7_apart 82 = .ok (.invokevirtual 72, 3) := by decide +kernel
theorem dX7_apart_85 : decode cX7_apart 85 = .ok (.iload 5, 2) := by decide +kernel
theorem dX7_apart_87 : decode cX7_apart 87 = .ok (.ireturn, 1) := by decide +kernel
theorem dX7_together_0 : decode cX7_together 0 = .ok (.aload_n 0, 1) := by decide +kernel
theorem dX7_together_1 : decode cX7_together 1 = .ok (.iload_n 1, 1) := by decide +kernel
theorem dX7_together_2 : decode cX7_together 2 = .ok (.invokevirtual 93, 3) := by decide +kernel
theorem dX7_together_5 : decode cX7_together 5 = .ok (.ifCond .eq 16, 3) := by decide +kernel
theorem dX7_together_8 : decode cX7_together 8 = .ok (.aload_n 0, 1) := by decide +kernel
theorem dX7_together_9 : decode cX7_together 9 = .ok (.iload_n 2, 1) := by decide +kernel
theorem dX7_together_10 : decode cX7_together 10 = .ok (.invokevirtual 93, 3) := by decide +kernel
theorem dX7_together_13 : decode cX7_together 13 = .ok (.ifCond .eq 8, 3) := by decide +kernel
theorem dX7_together_16 : decode cX7_together 16 = .ok (.iload_n 1, 1) := by decide +kernel
theorem dX7_together_17 : decode cX7_together 17 = .ok (.iload_n 2, 1) := by decide +kernel
theorem dX7_together_18 : decode cX7_together 18 = .ok (.if_icmp .ne 5, 3) := by decide +kernel
theorem dX7_together_21 : decode cX7_together 21 = .ok (.iconst (-1), 1) := by decide +kernel
theorem dX7_together_22 : decode cX7_together 22 = .ok (.ireturn, 1) := by decide +kernel
theorem dX7_together_23 : decode cX7_together 23 = .ok (.iload_n 1, 1) := by decide +kernel
theorem dX7_together_24 : decode cX7_together 24 = .ok (.iload_n 2, 1) := by decide +kernel
theorem dX7_together_25 : decode cX7_together 25 = .ok (.invokestatic 97, 3) := by decide +kernel
theorem dX7_together_28 : decode cX7_together 28 = .ok (.istore 4, 2) := by decide +kernel
theorem dX7_together_30 : decode cX7_together 30 = .ok (.aload_n 0, 1) := by decide +kernel
theorem dX7_together_31 : decode cX7_together 31 = .ok (.getfield 10, 3) := by decide +kernel
theorem dX7_together_34 : decode cX7_together 34 = .ok (.getfield 104, 3) := by decide +kernel
theorem dX7_together_37 : decode cX7_together 37 = .ok (.iload 4, 2) := by decide +kernel
theorem dX7_together_39 : decode cX7_together 39 = .ok (.iand, 1) := by decide +kernel
theorem dX7_together_40 : decode cX7_together 40 = .ok (.ifCond .eq 7, 3) := by decide +kernel
theorem dX7_together_43 : decode cX7_together 43 = .ok (.iconst 1, 1) := by decide +kernel
theorem dX7_together_44 : decode cX7_together 44 = .ok (.goto 4, 3) := by decide +kernel
theorem dX7_together_47 : decode cX7_together 47 = .ok (.iconst 0, 1) := by decide +kernel
theorem dX7_together_48 : decode cX7_together 48 = .ok (.istore 5, 2) := by decide +kernel
theorem dX7_together_50 : decode cX7_together 50 = .ok (.aload_n 0, 1) := by decide +kernel
theorem dX7_together_51 : decode cX7_together 51 = .ok (.getfield 19, 3) := by decide +kernel
theorem dX7_together_54 : decode cX7_together 54 = .ok (.aload_n 0, 1) := by decide +kernel
theorem dX7_together_55 : decode cX7_together 55 = .ok (.getfield 10, 3) := by decide +kernel
theorem dX7_together_58 : decode cX7_together 58 = .ok (.invokevirtual 79, 3) := by decide +kernel
theorem dX7_together_61 : decode cX7_together 61 = .ok (.aload_n 0, 1) := by decide +kernel
theorem dX7_together_62 : decode cX7_together 62 = .ok (.getfield 10, 3) := by decide +kernel
theorem dX7_together_65 : decode cX7_together 65 = .ok (.aload_n 0, 1) := by decide +kernel
theorem dX7_together_66 : decode cX7_together 66 = .ok (.getfield 10, 3) := by decide +kernel
theorem dX7_together_69 : decode cX7_together 69 = .ok (.getfield 104, 3) := by decide +kernel
theorem dX7_together_72 : decode cX7_together 72 = .ok (.iload 4, 2) := by decide +kernel
theorem dX7_together_74 : decode cX7_together 74 = .ok (.iload_n 3, 1) := by decide +kernel
theorem dX7_together_75 : decode cX7_together 75 = .ok (.invokestatic 86, 3) := by decide +kernel
theorem dX7_together_78 : decode cX7_together 78 = .ok (.putfield 104, 3) := by decide +kernel
theorem dX7_together_81 : decode cX7_together 81 = .ok (.aload_n 0, 1) := by decide +kernel
theorem dX7_together_82 : decode cX7_together 82 = .ok (.invokevirtual 72, 3) := by decide +kernel
theorem dX7_together_85 : decode cX7_together 85 = .ok (.iload 5, 2) := by decide +kernel
theorem dX7_together_87 : decode cX7_together 87 = .ok (.ireturn, 1) := by decide +kernel
theorem dX7_noncrossing_0 : decode cX7_noncrossing 0 = .ok (.aload_n 0, 1) := by decide +kernel
theorem dX7_noncrossing_1 : decode cX7_noncrossing 1 = .ok (.getfield 10, 3) := by decide +kernel
theorem dX7_noncrossing_4 : decode cX7_noncrossing 4 = .ok (.getfield 107, 3) := by decide +kernel
theorem dX7_noncrossing_7 : decode cX7_noncrossing 7 = .ok (.ifCond .eq 7, 3) := by decide +kernel
theorem dX7_noncrossing_10 : decode cX7_noncrossing 10 = .ok (.iconst 1, 1) := by decide +kernel
theorem dX7_noncrossing_11 : decode cX7_noncrossing 11 = .ok (.goto 4, 3) := by decide +kernel
theorem dX7_noncrossing_14 : decode cX7_noncrossing 14 = .ok (.iconst 0, 1) := by decide +kernel
theorem dX7_noncrossing_15 : decode cX7_noncrossing 15 = .ok (.istore_n 2, 1) := by decide +kernel
theorem dX7_noncrossing_16 : decode cX7_noncrossing 16 = .ok (.aload_n 0, 1) := by decide +kernel
theorem dX7_noncrossing_17 : decode cX7_noncrossing 17 = .ok (.getfield 19, 3) := by decide +kernel
theorem dX7_noncrossing_20 : decode cX7_noncrossing 20 = .ok (.aload_n 0, 1) := by decide +kernel
theorem dX7_noncrossing_21 : decode cX7_noncrossing 21 = .ok (.getfield 10, 3) := by decide +kernel
theorem dX7_noncrossing_24 : decode cX7_noncrossing 24 = .ok (.invokevirtual 79, 3) := by decide +kernel
theorem dX7_noncrossing_27 : decode cX7_noncrossing 27 = .ok (.aload_n 0, 1) := by decide +kernel
theorem dX7_noncrossing_28 : decode cX7_noncrossing 28 = .ok (.getfield 10, 3) := by decide +kernel
theorem dX7_noncrossing_31 : decode cX7_noncrossing 31 = .ok (.iload_n 1, 1) := by decide +kernel
theorem dX7_noncrossing_32 : decode cX7_noncrossing 32 = .ok (.putfield 107, 3) := by decide +kernel
theorem dX7_noncrossing_35 : decode cX7_noncrossing 35 = .ok (.aload_n 0, 1) := by decide +kernel
theorem dX7_noncrossing_36 : decode cX7_noncrossing 36 = .ok (.invokevirtual 72, 3) := by decide +kernel
theorem dX7_noncrossing_39 : decode cX7_noncrossing 39 = .ok (.iload_n 2, 1) := by decide +kernel
theorem dX7_noncrossing_40 : decode cX7_noncrossing 40 = .ok (.ireturn, 1) := by decide +kernel
theorem dX7_type_0 : decode cX7_type 0 = .ok (.iload_n 1, 1) := by decide +kernel
theorem dX7_type_1 : decode cX7_type 1 = .ok (.ifCond .lt 9, 3) := by decide +kernel
theorem dX7_type_4 : decode cX7_type 4 = .ok (.iload_n 1, 1) := by decide +kernel
theorem dX7_type_5 : decode cX7_type 5 = .ok (.bipush 127, 2) := by decide +kernel
theorem dX7_type_7 : decode cX7_type 7 = .ok (.if_icmp .le 5, 3) := by decide +kernel
theorem dX7_type_10 : decode cX7_type 10 = .ok (.iconst (-1), 1) := by decide +kernel
theorem dX7_type_11 : decode cX7_type 11 = .ok (.ireturn, 1) := by decide +kernel
theorem dX7_type_12 : decode cX7_type 12 = .ok (.aload_n 0, 1) := by decide +kernel
theorem dX7_type_13 : decode cX7_type 13 = .ok (.getfield 26, 3) := by decide +kernel
theorem dX7_type_16 : decode cX7_type 16 = .ok (.iload_n 1, 1) := by decide +kernel
theorem dX7_type_17 : decode cX7_type 17 = .ok (.invokevirtual 111, 3) := by decide +kernel
theorem dX7_type_20 : decode cX7_type 20 = .ok (.ifCond .eq 13, 3) := by decide +kernel
theorem dX7_type_23 : decode cX7_type 23 = .ok (.aload_n 0, 1) := by decide +kernel
theorem dX7_type_24 : decode cX7_type 24 = .ok (.getfield 26, 3) := by decide +kernel
theorem dX7_type_27 : decode cX7_type 27 = .ok (.getfield 114, 3) := by decide +kernel
theorem dX7_type_30 : decode cX7_type 30 = .ok (.goto 5, 3) := by decide +kernel
theorem dX7_type_33 : decode cX7_type 33 = .ok (.bipush (-4), 2) := by decide +kernel
theorem dX7_type_35 : decode cX7_type 35 = .ok (.ireturn, 1) := by decide +kernel
theorem dX7_clear_0 : decode cX7_clear 0 = .ok (.aload_n 0, 1) := by decide +kernel
theorem dX7_clear_1 : decode cX7_clear 1 = .ok (.getfield 26, 3) := by decide +kernel
theorem dX7_clear_4 : decode cX7_clear 4 = .ok (.getfield 114, 3) := by decide +kernel
theorem dX7_clear_7 : decode cX7_clear 7 = .ok (.istore_n 1, 1) := by decide +kernel
theorem dX7_clear_8 : decode cX7_clear 8 = .ok (.aload_n 0, 1) := by decide +kernel
theorem dX7_clear_9 : decode cX7_clear 9 = .ok (.getfield 26, 3) := by decide +kernel
theorem dX7_clear_12 : decode cX7_clear 12 = .ok (.iconst 0, 1) := by decide +kernel
theorem dX7_clear_13 : decode cX7_clear 13 = .ok (.putfield 114, 3) := by decide +kernel
theorem dX7_clear_16 : decode cX7_clear 16 = .ok (.iload_n 1, 1) := by decide +kernel
theorem dX7_clear_17 : decode cX7_clear 17 = .ok (.ireturn, 1) := by decide +kernel
theorem dX7_read_0 : decode cX7_read 0 = .ok (.iload_n 1, 1) := by decide +kernel
theorem dX7_read_1 : decode cX7_read 1 = .ok (.invokestatic 117, 3) := by decide +kernel
theorem dX7_read_4 : decode cX7_read 4 = .ok (.ifCond .ne 5, 3) := by decide +kernel
theorem dX7_read_7 : decode cX7_read 7 = .ok (.iconst (-1), 1) := by decide +kernel
theorem dX7_read_8 : decode cX7_read 8 = .ok (.ireturn, 1) := by decide +kernel
theorem dX7_read_9 : decode cX7_read 9 = .ok (.aload_n 0, 1) := by decide +kernel
theorem dX7_read_10 : decode cX7_read 10 = .ok (.getfield 26, 3) := by decide +kernel
theorem dX7_read_13 : decode cX7_read 13 = .ok (.aload_n 0, 1) := by decide +kernel
theorem dX7_read_14 : decode cX7_read 14 = .ok (.getfield 10, 3) := by decide +kernel
theorem dX7_read_17 : decode cX7_read 17 = .ok (.getfield 75, 3) := by decide +kernel
theorem dX7_read_20 : decode cX7_read 20 = .ok (.invokevirtual 120, 3) := by decide +kernel
theorem dX7_read_23 : decode cX7_read 23 = .ok (.istore_n 2, 1) := by decide +kernel
theorem dX7_read_24 : decode cX7_read 24 = .ok (.iload_n 2, 1) := by decide +kernel
theorem dX7_read_25 : decode cX7_read 25 = .ok (.ifCond .ge 7, 3) := by decide +kernel
theorem dX7_read_28 : decode cX7_read 28 = .ok (.iload_n 2, 1) := by decide +kernel
theorem dX7_read_29 : decode cX7_read 29 = .ok (.goto 9, 3) := by decide +kernel
theorem dX7_read_32 : decode cX7_read 32 = .ok (.aload_n 0, 1) := by decide +kernel
theorem dX7_read_33 : decode cX7_read 33 = .ok (.iload_n 1, 1) := by decide +kernel
theorem dX7_read_34 : decode cX7_read 34 = .ok (.iload_n 2, 1) := by decide +kernel
theorem dX7_read_35 : decode cX7_read 35 = .ok (.invokevirtual 124, 3) := by decide +kernel
theorem dX7_read_38 : decode cX7_read 38 = .ok (.ireturn, 1) := by decide +kernel
theorem dX7_finest_0 : decode cX7_finest 0 = .ok (.iload_n 1, 1) := by decide +kernel
theorem dX7_finest_1 : decode cX7_finest 1 = .ok (.invokestatic 117, 3) := by decide +kernel
theorem dX7_finest_4 : decode cX7_finest 4 = .ok (.ifCond .eq 12, 3) := by decide +kernel
theorem dX7_finest_7 : decode cX7_finest 7 = .ok (.aload_n 0, 1) := by decide +kernel
theorem dX7_finest_8 : decode cX7_finest 8 = .ok (.iload_n 1, 1) := by decide +kernel
theorem dX7_finest_9 : decode cX7_finest 9 = .ok (.iconst 0, 1) := by decide +kernel
theorem dX7_finest_10 : decode cX7_finest 10 = .ok (.invokevirtual 124, 3) := by decide +kernel
theorem dX7_finest_13 : decode cX7_finest 13 = .ok (.goto 4, 3) := by decide +kernel
theorem dX7_finest_16 : decode cX7_finest 16 = .ok (.iconst (-1), 1) := by decide +kernel
theorem dX7_finest_17 : decode cX7_finest 17 = .ok (.ireturn, 1) := by decide +kernel
theorem dX7_coarsest_0 : decode cX7_coarsest 0 = .ok (.iload_n 1, 1) := by decide +kernel
theorem dX7_coarsest_1 : decode cX7_coarsest 1 = .ok (.invokestatic 117, 3) := by decide +kernel
theorem dX7_coarsest_4 : decode cX7_coarsest 4 = .ok (.ifCond .eq 21, 3) := by decide +kernel
theorem dX7_coarsest_7 : decode cX7_coarsest 7 = .ok (.aload_n 0, 1) := by decide +kernel
theorem dX7_coarsest_8 : decode cX7_coarsest 8 = .ok (.iload_n 1, 1) := by decide +kernel
theorem dX7_coarsest_9 : decode cX7_coarsest 9 = .ok (.aload_n 0, 1) := by decide +kernel
theorem dX7_coarsest_10 : decode cX7_coarsest 10 = .ok (.getfield 10, 3) := by decide +kernel
theorem dX7_coarsest_13 : decode cX7_coarsest 13 = .ok (.getfield 75, 3) := by decide +kernel
theorem dX7_coarsest_16 : decode cX7_coarsest 16 = .ok (.invokestatic 127, 3) := by decide +kernel
theorem dX7_coarsest_19 : decode cX7_coarsest 19 = .ok (.invokevirtual 124, 3) := by decide +kernel
theorem dX7_coarsest_22 : decode cX7_coarsest 22 = .ok (.goto 4, 3) := by decide +kernel
theorem dX7_coarsest_25 : decode cX7_coarsest 25 = .ok (.iconst (-1), 1) := by decide +kernel
theorem dX7_coarsest_26 : decode cX7_coarsest 26 = .ok (.ireturn, 1) := by decide +kernel
theorem dX7_copy_0 : decode cX7_copy 0 = .ok (.aload_n 0, 1) := by decide +kernel
theorem dX7_copy_1 : decode cX7_copy 1 = .ok (.iload_n 1, 1) := by decide +kernel
theorem dX7_copy_2 : decode cX7_copy 2 = .ok (.iload_n 1, 1) := by decide +kernel
theorem dX7_copy_3 : decode cX7_copy 3 = .ok (.iload_n 2, 1) := by decide +kernel
theorem dX7_copy_4 : decode cX7_copy 4 = .ok (.invokestatic 117, 3) := by decide +kernel
theorem dX7_copy_7 : decode cX7_copy 7 = .ok (.invokevirtual 130, 3) := by decide +kernel
theorem dX7_copy_10 : decode cX7_copy 10 = .ok (.istore_n 3, 1) := by decide +kernel
theorem dX7_copy_11 : decode cX7_copy 11 = .ok (.iload_n 3, 1) := by decide +kernel
theorem dX7_copy_12 : decode cX7_copy 12 = .ok (.ifCond .eq 7, 3) := by decide +kernel
theorem dX7_copy_15 : decode cX7_copy 15 = .ok (.iload_n 3, 1) := by decide +kernel
theorem dX7_copy_16 : decode cX7_copy 16 = .ok (.goto 17, 3) := by decide +kernel
theorem dX7_copy_19 : decode cX7_copy 19 = .ok (.aload_n 0, 1) := by decide +kernel
theorem dX7_copy_20 : decode cX7_copy 20 = .ok (.iload_n 2, 1) := by decide +kernel
theorem dX7_copy_21 : decode cX7_copy 21 = .ok (.aload_n 0, 1) := by decide +kernel
theorem dX7_copy_22 : decode cX7_copy 22 = .ok (.getfield 10, 3) := by decide +kernel
theorem dX7_copy_25 : decode cX7_copy 25 = .ok (.getfield 133, 3) := by decide +kernel
theorem dX7_copy_28 : decode cX7_copy 28 = .ok (.iload_n 1, 1) := by decide +kernel
theorem dX7_copy_29 : decode cX7_copy 29 = .ok (.iaload, 1) := by decide +kernel
theorem dX7_copy_30 : decode cX7_copy 30 = .ok (.invokevirtual 124, 3) := by decide +kernel
theorem dX7_copy_33 : decode cX7_copy 33 = .ok (.ireturn, 1) := by decide +kernel
theorem dX7_meet_0 : decode cX7_meet 0 = .ok (.aload_n 0, 1) := by decide +kernel
theorem dX7_meet_1 : decode cX7_meet 1 = .ok (.iload_n 1, 1) := by decide +kernel
theorem dX7_meet_2 : decode cX7_meet 2 = .ok (.iload_n 2, 1) := by decide +kernel
theorem dX7_meet_3 : decode cX7_meet 3 = .ok (.iload_n 3, 1) := by decide +kernel
theorem dX7_meet_4 : decode cX7_meet 4 = .ok (.invokestatic 117, 3) := by decide +kernel
theorem dX7_meet_7 : decode cX7_meet 7 = .ok (.invokevirtual 130, 3) := by decide +kernel
theorem dX7_meet_10 : decode cX7_meet 10 = .ok (.istore 4, 2) := by decide +kernel
theorem dX7_meet_12 : decode cX7_meet 12 = .ok (.iload 4, 2) := by decide +kernel
theorem dX7_meet_14 : decode cX7_meet 14 = .ok (.ifCond .eq 8, 3) := by decide +kernel
theorem dX7_meet_17 : decode cX7_meet 17 = .ok (.iload 4, 2) := by decide +kernel
theorem dX7_meet_19 : decode cX7_meet 19 = .ok (.goto 27, 3) := by decide +kernel
theorem dX7_meet_22 : decode cX7_meet 22 = .ok (.aload_n 0, 1) := by decide +kernel
theorem dX7_meet_23 : decode cX7_meet 23 = .ok (.iload_n 3, 1) := by decide +kernel
theorem dX7_meet_24 : decode cX7_meet 24 = .ok (.aload_n 0, 1) := by decide +kernel
theorem dX7_meet_25 : decode cX7_meet 25 = .ok (.getfield 10, 3) := by decide +kernel
theorem dX7_meet_28 : decode cX7_meet 28 = .ok (.getfield 133, 3) := by decide +kernel
theorem dX7_meet_31 : decode cX7_meet 31 = .ok (.iload_n 1, 1) := by decide +kernel
theorem dX7_meet_32 : decode cX7_meet 32 = .ok (.iaload, 1) := by decide +kernel
theorem dX7_meet_33 : decode cX7_meet 33 = .ok (.aload_n 0, 1) := by decide +kernel
theorem dX7_meet_34 : decode cX7_meet 34 = .ok (.getfield 10, 3) := by decide +kernel
theorem dX7_meet_37 : decode cX7_meet 37 = .ok (.getfield 133, 3) := by decide +kernel
theorem dX7_meet_40 : decode cX7_meet 40 = .ok (.iload_n 2, 1) := by decide +kernel
theorem dX7_meet_41 : decode cX7_meet 41 = .ok (.iaload, 1) := by decide +kernel
theorem dX7_meet_42 : decode cX7_meet 42 = .ok (.iand, 1) := by decide +kernel
theorem dX7_meet_43 : decode cX7_meet 43 = .ok (.invokevirtual 124, 3) := by decide +kernel
theorem dX7_meet_46 : decode cX7_meet 46 = .ok (.ireturn, 1) := by decide +kernel
theorem dX7_join_0 : decode cX7_join 0 = .ok (.aload_n 0, 1) := by decide +kernel
theorem dX7_join_1 : decode cX7_join 1 = .ok (.iload_n 1, 1) := by decide +kernel
theorem dX7_join_2 : decode cX7_join 2 = .ok (.iload_n 2, 1) := by decide +kernel
theorem dX7_join_3 : decode cX7_join 3 = .ok (.iload_n 3, 1) := by decide +kernel
theorem dX7_join_4 : decode cX7_join 4 = .ok (.invokestatic 117, 3) := by decide +kernel
theorem dX7_join_7 : decode cX7_join 7 = .ok (.invokevirtual 130, 3) := by decide +kernel
theorem dX7_join_10 : decode cX7_join 10 = .ok (.istore 4, 2) := by decide +kernel
theorem dX7_join_12 : decode cX7_join 12 = .ok (.iload 4, 2) := by decide +kernel
theorem dX7_join_14 : decode cX7_join 14 = .ok (.ifCond .eq 6, 3) := by decide +kernel
theorem dX7_join_17 : decode cX7_join 17 = .ok (.iload 4, 2) := by decide +kernel
theorem dX7_join_19 : decode cX7_join 19 = .ok (.ireturn, 1) := by decide +kernel
theorem dX7_join_20 : decode cX7_join 20 = .ok (.aload_n 0, 1) := by decide +kernel
theorem dX7_join_21 : decode cX7_join 21 = .ok (.iload_n 3, 1) := by decide +kernel
theorem dX7_join_22 : decode cX7_join 22 = .ok (.aload_n 0, 1) := by decide +kernel
theorem dX7_join_23 : decode cX7_join 23 = .ok (.getfield 33, 3) := by decide +kernel
theorem dX7_join_26 : decode cX7_join 26 = .ok (.aload_n 0, 1) := by decide +kernel
theorem dX7_join_27 : decode cX7_join 27 = .ok (.getfield 10, 3) := by decide +kernel
theorem dX7_join_30 : decode cX7_join 30 = .ok (.getfield 133, 3) := by decide +kernel
theorem dX7_join_33 : decode cX7_join 33 = .ok (.iload_n 1, 1) := by decide +kernel
theorem dX7_join_34 : decode cX7_join 34 = .ok (.iaload, 1) := by decide +kernel
theorem dX7_join_35 : decode cX7_join 35 = .ok (.aload_n 0, 1) := by decide +kernel
theorem dX7_join_36 : decode cX7_join 36 = .ok (.getfield 10, 3) := by decide +kernel
theorem dX7_join_39 : decode cX7_join 39 = .ok (.getfield 133, 3) := by decide +kernel
theorem dX7_join_42 : decode cX7_join 42 = .ok (.iload_n 2, 1) := by decide +kernel
theorem dX7_join_43 : decode cX7_join 43 = .ok (.iaload, 1) := by decide +kernel
theorem dX7_join_44 : decode cX7_join 44 = .ok (.ior, 1) := by decide +kernel
theorem dX7_join_45 : decode cX7_join 45 = .ok (.invokevirtual 136, 3) := by decide +kernel
theorem dX7_join_48 : decode cX7_join 48 = .ok (.invokevirtual 124, 3) := by decide +kernel
theorem dX7_join_51 : decode cX7_join 51 = .ok (.ireturn, 1) := by decide +kernel
theorem dX7_unite_0 : decode cX7_unite 0 = .ok (.aload_n 0, 1) := by decide +kernel
theorem dX7_unite_1 : decode cX7_unite 1 = .ok (.iload_n 1, 1) := by decide +kernel
theorem dX7_unite_2 : decode cX7_unite 2 = .ok (.iload_n 1, 1) := by decide +kernel
theorem dX7_unite_3 : decode cX7_unite 3 = .ok (.aload_n 0, 1) := by decide +kernel
theorem dX7_unite_4 : decode cX7_unite 4 = .ok (.iload_n 2, 1) := by decide +kernel
theorem dX7_unite_5 : decode cX7_unite 5 = .ok (.invokevirtual 93, 3) := by decide +kernel
theorem dX7_unite_8 : decode cX7_unite 8 = .ok (.ifCond .eq 15, 3) := by decide +kernel
theorem dX7_unite_11 : decode cX7_unite 11 = .ok (.aload_n 0, 1) := by decide +kernel
theorem dX7_unite_12 : decode cX7_unite 12 = .ok (.iload_n 3, 1) := by decide +kernel
theorem dX7_unite_13 : decode cX7_unite 13 = .ok (.invokevirtual 93, 3) := by decide +kernel
theorem dX7_unite_16 : decode cX7_unite 16 = .ok (.ifCond .eq 7, 3) := by decide +kernel
theorem dX7_unite_19 : decode cX7_unite 19 = .ok (.iconst 1, 1) := by decide +kernel
theorem dX7_unite_20 : decode cX7_unite 20 = .ok (.goto 4, 3) := by decide +kernel
theorem dX7_unite_23 : decode cX7_unite 23 = .ok (.iconst 0, 1) := by decide +kernel
theorem dX7_unite_24 : decode cX7_unite 24 = .ok (.invokevirtual 130, 3) := by decide +kernel
theorem dX7_unite_27 : decode cX7_unite 27 = .ok (.istore 4, 2) := by decide +kernel
theorem dX7_unite_29 : decode cX7_unite 29 = .ok (.iload 4, 2) := by decide +kernel
theorem dX7_unite_31 : decode cX7_unite 31 = .ok (.ifCond .eq 6, 3) := by decide +kernel
theorem dX7_unite_34 : decode cX7_unite 34 = .ok (.iload 4, 2) := by decide +kernel
theorem dX7_unite_36 : decode cX7_unite 36 = .ok (.ireturn, 1) := by decide +kernel
theorem dX7_unite_37 : decode cX7_unite 37 = .ok (.aload_n 0, 1) := by decide +kernel
theorem dX7_unite_38 : decode cX7_unite 38 = .ok (.iload_n 1, 1) := by decide +kernel
theorem dX7_unite_39 : decode cX7_unite 39 = .ok (.aload_n 0, 1) := by decide +kernel
theorem dX7_unite_40 : decode cX7_unite 40 = .ok (.getfield 33, 3) := by decide +kernel
theorem dX7_unite_43 : decode cX7_unite 43 = .ok (.aload_n 0, 1) := by decide +kernel
theorem dX7_unite_44 : decode cX7_unite 44 = .ok (.getfield 10, 3) := by decide +kernel
theorem dX7_unite_47 : decode cX7_unite 47 = .ok (.getfield 133, 3) := by decide +kernel
theorem dX7_unite_50 : decode cX7_unite 50 = .ok (.iload_n 1, 1) := by decide +kernel
theorem dX7_unite_51 : decode cX7_unite 51 = .ok (.iaload, 1) := by decide +kernel
theorem dX7_unite_52 : decode cX7_unite 52 = .ok (.iload_n 2, 1) := by decide +kernel
theorem dX7_unite_53 : decode cX7_unite 53 = .ok (.iload_n 3, 1) := by decide +kernel
theorem dX7_unite_54 : decode cX7_unite 54 = .ok (.invokestatic 97, 3) := by decide +kernel
theorem dX7_unite_57 : decode cX7_unite 57 = .ok (.ior, 1) := by decide +kernel
theorem dX7_unite_58 : decode cX7_unite 58 = .ok (.invokevirtual 136, 3) := by decide +kernel
theorem dX7_unite_61 : decode cX7_unite 61 = .ok (.invokevirtual 124, 3) := by decide +kernel
theorem dX7_unite_64 : decode cX7_unite 64 = .ok (.ireturn, 1) := by decide +kernel
theorem dX7_isolate_0 : decode cX7_isolate 0 = .ok (.aload_n 0, 1) := by decide +kernel
theorem dX7_isolate_1 : decode cX7_isolate 1 = .ok (.iload_n 1, 1) := by decide +kernel
theorem dX7_isolate_2 : decode cX7_isolate 2 = .ok (.iload_n 1, 1) := by decide +kernel
theorem dX7_isolate_3 : decode cX7_isolate 3 = .ok (.aload_n 0, 1) := by decide +kernel
theorem dX7_isolate_4 : decode cX7_isolate 4 = .ok (.iload_n 2, 1) := by decide +kernel
theorem dX7_isolate_5 : decode cX7_isolate 5 = .ok (.invokevirtual 93, 3) := by decide +kernel
theorem dX7_isolate_8 : decode cX7_isolate 8 = .ok (.invokevirtual 130, 3) := by decide +kernel
theorem dX7_isolate_11 : decode cX7_isolate 11 = .ok (.istore_n 3, 1) := by decide +kernel
theorem dX7_isolate_12 : decode cX7_isolate 12 = .ok (.iload_n 3, 1) := by decide +kernel
theorem dX7_isolate_13 : decode cX7_isolate 13 = .ok (.ifCond .eq 5, 3) := by decide +kernel
theorem dX7_isolate_16 : decode cX7_isolate 16 = .ok (.iload_n 3, 1) := by decide +kernel
theorem dX7_isolate_17 : decode cX7_isolate 17 = .ok (.ireturn, 1) := by decide +kernel
theorem dX7_isolate_18 : decode cX7_isolate 18 = .ok (.bipush 63, 2) := by decide +kernel
theorem dX7_isolate_20 : decode cX7_isolate 20 = .ok (.istore 4, 2) := by decide +kernel
theorem dX7_isolate_22 : decode cX7_isolate 22 = .ok (.aload_n 0, 1) := by decide +kernel
theorem dX7_isolate_23 : decode cX7_isolate 23 = .ok (.iload_n 1, 1) := by decide +kernel
theorem dX7_isolate_24 : decode cX7_isolate 24 = .ok (.aload_n 0, 1) := by decide +kernel
theorem dX7_isolate_25 : decode cX7_isolate 25 = .ok (.getfield 10, 3) := by decide +kernel
theorem dX7_isolate_28 : decode cX7_isolate 28 = .ok (.getfield 133, 3) := by decide +kernel
theorem dX7_isolate_31 : decode cX7_isolate 31 = .ok (.iload_n 1, 1) := by decide +kernel
theorem dX7_isolate_32 : decode cX7_isolate 32 = .ok (.iaload, 1) := by decide +kernel
theorem dX7_isolate_33 : decode cX7_isolate 33 = .ok (.iload 4, 2) := by decide +kernel
theorem dX7_isolate_35 : decode cX7_isolate 35 = .ok (.iload_n 2, 1) := by decide +kernel
theorem dX7_isolate_36 : decode cX7_isolate 36 = .ok (.invokestatic 139, 3) := by decide +kernel
theorem dX7_isolate_39 : decode cX7_isolate 39 = .ok (.iconst (-1), 1) := by decide +kernel
theorem dX7_isolate_40 : decode cX7_isolate 40 = .ok (.ixor, 1) := by decide +kernel
theorem dX7_isolate_41 : decode cX7_isolate 41 = .ok (.iand, 1) := by decide +kernel
theorem dX7_isolate_42 : decode cX7_isolate 42 = .ok (.invokevirtual 124, 3) := by decide +kernel
theorem dX7_isolate_45 : decode cX7_isolate 45 = .ok (.ireturn, 1) := by decide +kernel
theorem dX7_swap_0 : decode cX7_swap 0 = .ok (.aload_n 0, 1) := by decide +kernel
theorem dX7_swap_1 : decode cX7_swap 1 = .ok (.iload_n 1, 1) := by decide +kernel
theorem dX7_swap_2 : decode cX7_swap 2 = .ok (.iload_n 1, 1) := by decide +kernel
theorem dX7_swap_3 : decode cX7_swap 3 = .ok (.aload_n 0, 1) := by decide +kernel
theorem dX7_swap_4 : decode cX7_swap 4 = .ok (.iload_n 2, 1) := by decide +kernel
theorem dX7_swap_5 : decode cX7_swap 5 = .ok (.invokevirtual 93, 3) := by decide +kernel
theorem dX7_swap_8 : decode cX7_swap 8 = .ok (.ifCond .eq 15, 3) := by decide +kernel
theorem dX7_swap_11 : decode cX7_swap 11 = .ok (.aload_n 0, 1) := by decide +kernel
theorem dX7_swap_12 : decode cX7_swap 12 = .ok (.iload_n 3, 1) := by decide +kernel
theorem dX7_swap_13 : decode cX7_swap 13 = .ok (.invokevirtual 93, 3) := by decide +kernel
theorem dX7_swap_16 : decode cX7_swap 16 = .ok (.ifCond .eq 7, 3) := by decide +kernel
theorem dX7_swap_19 : decode cX7_swap 19 = .ok (.iconst 1, 1) := by decide +kernel
theorem dX7_swap_20 : decode cX7_swap 20 = .ok (.goto 4, 3) := by decide +kernel
theorem dX7_swap_23 : decode cX7_swap 23 = .ok (.iconst 0, 1) := by decide +kernel
theorem dX7_swap_24 : decode cX7_swap 24 = .ok (.invokevirtual 130, 3) := by decide +kernel
theorem dX7_swap_27 : decode cX7_swap 27 = .ok (.istore 4, 2) := by decide +kernel
theorem dX7_swap_29 : decode cX7_swap 29 = .ok (.iload 4, 2) := by decide +kernel
theorem dX7_swap_31 : decode cX7_swap 31 = .ok (.ifCond .eq 6, 3) := by decide +kernel
theorem dX7_swap_34 : decode cX7_swap 34 = .ok (.iload 4, 2) := by decide +kernel
theorem dX7_swap_36 : decode cX7_swap 36 = .ok (.ireturn, 1) := by decide +kernel
theorem dX7_swap_37 : decode cX7_swap 37 = .ok (.iconst 0, 1) := by decide +kernel
theorem dX7_swap_38 : decode cX7_swap 38 = .ok (.istore 5, 2) := by decide +kernel
theorem dX7_swap_40 : decode cX7_swap 40 = .ok (.iload 5, 2) := by decide +kernel
theorem dX7_swap_42 : decode cX7_swap 42 = .ok (.bipush 6, 2) := by decide +kernel
theorem dX7_swap_44 : decode cX7_swap 44 = .ok (.if_icmp .ge 38, 3) := by decide +kernel
theorem dX7_swap_47 : decode cX7_swap 47 = .ok (.aload_n 0, 1) := by decide +kernel
theorem dX7_swap_48 : decode cX7_swap 48 = .ok (.getfield 61, 3) := by decide +kernel
theorem dX7_swap_51 : decode cX7_swap 51 = .ok (.iload 5, 2) := by decide +kernel
theorem dX7_swap_53 : decode cX7_swap 53 = .ok (.iload 5, 2) := by decide +kernel
theorem dX7_swap_55 : decode cX7_swap 55 = .ok (.iload_n 2, 1) := by decide +kernel
theorem dX7_swap_56 : decode cX7_swap 56 = .ok (.if_icmp .ne 7, 3) := by decide +kernel
theorem dX7_swap_59 : decode cX7_swap 59 = .ok (.iload_n 3, 1) := by decide +kernel
theorem dX7_swap_60 : decode cX7_swap 60 = .ok (.goto 15, 3) := by decide +kernel
theorem dX7_swap_63 : decode cX7_swap 63 = .ok (.iload 5, 2) := by decide +kernel
theorem dX7_swap_65 : decode cX7_swap 65 = .ok (.iload_n 3, 1) := by decide +kernel
theorem dX7_swap_66 : decode cX7_swap 66 = .ok (.if_icmp .ne 7, 3) := by decide +kernel
theorem dX7_swap_69 : decode cX7_swap 69 = .ok (.iload_n 2, 1) := by decide +kernel
theorem dX7_swap_70 : decode cX7_swap 70 = .ok (.goto 5, 3) := by decide +kernel
theorem dX7_swap_73 : decode cX7_swap 73 = .ok (.iload 5, 2) := by decide +kernel
theorem dX7_swap_75 : decode cX7_swap 75 = .ok (.iastore, 1) := by decide +kernel
theorem dX7_swap_76 : decode cX7_swap 76 = .ok (.iinc 5 1, 3) := by decide +kernel
theorem dX7_swap_79 : decode cX7_swap 79 = .ok (.goto (-39), 3) := by decide +kernel
theorem dX7_swap_82 : decode cX7_swap 82 = .ok (.aload_n 0, 1) := by decide +kernel
theorem dX7_swap_83 : decode cX7_swap 83 = .ok (.iload_n 1, 1) := by decide +kernel
theorem dX7_swap_84 : decode cX7_swap 84 = .ok (.invokevirtual 142, 3) := by decide +kernel
theorem dX7_swap_87 : decode cX7_swap 87 = .ok (.ireturn, 1) := by decide +kernel
theorem dX7_rotate_0 : decode cX7_rotate 0 = .ok (.aload_n 0, 1) := by decide +kernel
theorem dX7_rotate_1 : decode cX7_rotate 1 = .ok (.iload_n 1, 1) := by decide +kernel
theorem dX7_rotate_2 : decode cX7_rotate 2 = .ok (.iload_n 1, 1) := by decide +kernel
theorem dX7_rotate_3 : decode cX7_rotate 3 = .ok (.iconst 1, 1) := by decide +kernel
theorem dX7_rotate_4 : decode cX7_rotate 4 = .ok (.invokevirtual 130, 3) := by decide +kernel
theorem dX7_rotate_7 : decode cX7_rotate 7 = .ok (.istore_n 2, 1) := by decide +kernel
theorem dX7_rotate_8 : decode cX7_rotate 8 = .ok (.iload_n 2, 1) := by decide +kernel
theorem dX7_rotate_9 : decode cX7_rotate 9 = .ok (.ifCond .eq 5, 3) := by decide +kernel
theorem dX7_rotate_12 : decode cX7_rotate 12 = .ok (.iload_n 2, 1) := by decide +kernel
theorem dX7_rotate_13 : decode cX7_rotate 13 = .ok (.ireturn, 1) := by decide +kernel
theorem dX7_rotate_14 : decode cX7_rotate 14 = .ok (.iconst 0, 1) := by decide +kernel
theorem dX7_rotate_15 : decode cX7_rotate 15 = .ok (.istore_n 3, 1) := by decide +kernel
theorem dX7_rotate_16 : decode cX7_rotate 16 = .ok (.iload_n 3, 1) := by decide +kernel
theorem dX7_rotate_17 : decode cX7_rotate 17 = .ok (.bipush 6, 2) := by decide +kernel
theorem dX7_rotate_19 : decode cX7_rotate 19 = .ok (.if_icmp .ge 35, 3) := by decide +kernel
theorem dX7_rotate_22 : decode cX7_rotate 22 = .ok (.aload_n 0, 1) := by decide +kernel
theorem dX7_rotate_23 : decode cX7_rotate 23 = .ok (.getfield 61, 3) := by decide +kernel
theorem dX7_rotate_26 : decode cX7_rotate 26 = .ok (.iload_n 3, 1) := by decide +kernel
theorem dX7_rotate_27 : decode cX7_rotate 27 = .ok (.iload_n 3, 1) := by decide +kernel
theorem dX7_rotate_28 : decode cX7_rotate 28 = .ok (.iconst 1, 1) := by decide +kernel
theorem dX7_rotate_29 : decode cX7_rotate 29 = .ok (.iadd, 1) := by decide +kernel
theorem dX7_rotate_30 : decode cX7_rotate 30 = .ok (.aload_n 0, 1) := by decide +kernel
theorem dX7_rotate_31 : decode cX7_rotate 31 = .ok (.getfield 10, 3) := by decide +kernel
theorem dX7_rotate_34 : decode cX7_rotate 34 = .ok (.getfield 75, 3) := by decide +kernel
theorem dX7_rotate_37 : decode cX7_rotate 37 = .ok (.if_icmp .ge 9, 3) := by decide +kernel
theorem dX7_rotate_40 : decode cX7_rotate 40 = .ok (.iload_n 3, 1) := by decide +kernel
theorem dX7_rotate_41 : decode cX7_rotate 41 = .ok (.iconst 1, 1) := by decide +kernel
theorem dX7_rotate_42 : decode cX7_rotate 42 = .ok (.iadd, 1) := by decide +kernel
theorem dX7_rotate_43 : decode cX7_rotate 43 = .ok (.goto 4, 3) := by decide +kernel
theorem dX7_rotate_46 : decode cX7_rotate 46 = .ok (.iconst 0, 1) := by decide +kernel
theorem dX7_rotate_47 : decode cX7_rotate 47 = .ok (.iastore, 1) := by decide +kernel
theorem dX7_rotate_48 : decode cX7_rotate 48 = .ok (.iinc 3 1, 3) := by decide +kernel
theorem dX7_rotate_51 : decode cX7_rotate 51 = .ok (.goto (-35), 3) := by decide +kernel
theorem dX7_rotate_54 : decode cX7_rotate 54 = .ok (.aload_n 0, 1) := by decide +kernel
theorem dX7_rotate_55 : decode cX7_rotate 55 = .ok (.iload_n 1, 1) := by decide +kernel
theorem dX7_rotate_56 : decode cX7_rotate 56 = .ok (.invokevirtual 142, 3) := by decide +kernel
theorem dX7_rotate_59 : decode cX7_rotate 59 = .ok (.ireturn, 1) := by decide +kernel
theorem dX7_complement_0 : decode cX7_complement 0 = .ok (.aload_n 0, 1) := by decide +kernel
theorem dX7_complement_1 : decode cX7_complement 1 = .ok (.iload_n 1, 1) := by decide +kernel
theorem dX7_complement_2 : decode cX7_complement 2 = .ok (.iload_n 1, 1) := by decide +kernel
theorem dX7_complement_3 : decode cX7_complement 3 = .ok (.iload_n 2, 1) := by decide +kernel
theorem dX7_complement_4 : decode cX7_complement 4 = .ok (.invokestatic 117, 3) := by decide +kernel
theorem dX7_complement_7 : decode cX7_complement 7 = .ok (.invokevirtual 130, 3) := by decide +kernel
theorem dX7_complement_10 : decode cX7_complement 10 = .ok (.istore_n 3, 1) := by decide +kernel
theorem dX7_complement_11 : decode cX7_complement 11 = .ok (.iload_n 3, 1) := by decide +kernel
theorem dX7_complement_12 : decode cX7_complement 12 = .ok (.ifCond .eq 5, 3) := by decide +kernel
theorem dX7_complement_15 : decode cX7_complement 15 = .ok (.iload_n 3, 1) := by decide +kernel
theorem dX7_complement_16 : decode cX7_complement 16 = .ok (.ireturn, 1) := by decide +kernel
theorem dX7_complement_17 : decode cX7_complement 17 = .ok (.aload_n 0, 1) := by decide +kernel
theorem dX7_complement_18 : decode cX7_complement 18 = .ok (.iload_n 1, 1) := by decide +kernel
theorem dX7_complement_19 : decode cX7_complement 19 = .ok (.invokevirtual 145, 3) := by decide +kernel
theorem dX7_complement_22 : decode cX7_complement 22 = .ok (.aload_n 0, 1) := by decide +kernel
theorem dX7_complement_23 : decode cX7_complement 23 = .ok (.getfield 54, 3) := by decide +kernel
theorem dX7_complement_26 : decode cX7_complement 26 = .ok (.invokevirtual 148, 3) := by decide +kernel
theorem dX7_complement_29 : decode cX7_complement 29 = .ok (.bipush (-9), 2) := by decide +kernel
theorem dX7_complement_31 : decode cX7_complement 31 = .ok (.if_icmp .eq 6, 3) := by decide +kernel
theorem dX7_complement_34 : decode cX7_complement 34 = .ok (.bipush (-3), 2) := by decide +kernel
theorem dX7_complement_36 : decode cX7_complement 36 = .ok (.ireturn, 1) := by decide +kernel
theorem dX7_complement_37 : decode cX7_complement 37 = .ok (.aload_n 0, 1) := by decide +kernel
theorem dX7_complement_38 : decode cX7_complement 38 = .ok (.iload_n 2, 1) := by decide +kernel
theorem dX7_complement_39 : decode cX7_complement 39 = .ok (.aload_n 0, 1) := by decide +kernel
theorem dX7_complement_40 : decode cX7_complement 40 = .ok (.getfield 10, 3) := by decide +kernel
theorem dX7_complement_43 : decode cX7_complement 43 = .ok (.getfield 133, 3) := by decide +kernel
theorem dX7_complement_46 : decode cX7_complement 46 = .ok (.iload_n 1, 1) := by decide +kernel
theorem dX7_complement_47 : decode cX7_complement 47 = .ok (.iaload, 1) := by decide +kernel
theorem dX7_complement_48 : decode cX7_complement 48 = .ok (.aload_n 0, 1) := by decide +kernel
theorem dX7_complement_49 : decode cX7_complement 49 = .ok (.getfield 10, 3) := by decide +kernel
theorem dX7_complement_52 : decode cX7_complement 52 = .ok (.getfield 75, 3) := by decide +kernel
theorem dX7_complement_55 : decode cX7_complement 55 = .ok (.invokestatic 152, 3) := by decide +kernel
theorem dX7_complement_58 : decode cX7_complement 58 = .ok (.invokevirtual 124, 3) := by decide +kernel
theorem dX7_complement_61 : decode cX7_complement 61 = .ok (.ireturn, 1) := by decide +kernel
theorem dX7_unrank_0 : decode cX7_unrank 0 = .ok (.iload_n 1, 1) := by decide +kernel
theorem dX7_unrank_1 : decode cX7_unrank 1 = .ok (.invokestatic 117, 3) := by decide +kernel
theorem dX7_unrank_4 : decode cX7_unrank 4 = .ok (.ifCond .eq 14, 3) := by decide +kernel
theorem dX7_unrank_7 : decode cX7_unrank 7 = .ok (.aload_n 0, 1) := by decide +kernel
theorem dX7_unrank_8 : decode cX7_unrank 8 = .ok (.getfield 40, 3) := by decide +kernel
theorem dX7_unrank_11 : decode cX7_unrank 11 = .ok (.iload_n 2, 1) := by decide +kernel
theorem dX7_unrank_12 : decode cX7_unrank 12 = .ok (.invokevirtual 155, 3) := by decide +kernel
theorem dX7_unrank_15 : decode cX7_unrank 15 = .ok (.ifCond .ne 5, 3) := by decide +kernel
theorem dX7_unrank_18 : decode cX7_unrank 18 = .ok (.iconst (-1), 1) := by decide +kernel
theorem dX7_unrank_19 : decode cX7_unrank 19 = .ok (.ireturn, 1) := by decide +kernel
theorem dX7_unrank_20 : decode cX7_unrank 20 = .ok (.aload_n 0, 1) := by decide +kernel
theorem dX7_unrank_21 : decode cX7_unrank 21 = .ok (.iload_n 1, 1) := by decide +kernel
theorem dX7_unrank_22 : decode cX7_unrank 22 = .ok (.aload_n 0, 1) := by decide +kernel
theorem dX7_unrank_23 : decode cX7_unrank 23 = .ok (.getfield 40, 3) := by decide +kernel
theorem dX7_unrank_26 : decode cX7_unrank 26 = .ok (.getfield 158, 3) := by decide +kernel
theorem dX7_unrank_29 : decode cX7_unrank 29 = .ok (.iload_n 2, 1) := by decide +kernel
theorem dX7_unrank_30 : decode cX7_unrank 30 = .ok (.iaload, 1) := by decide +kernel
theorem dX7_unrank_31 : decode cX7_unrank 31 = .ok (.invokevirtual 124, 3) := by decide +kernel
theorem dX7_unrank_34 : decode cX7_unrank 34 = .ok (.ireturn, 1) := by decide +kernel
theorem dX7_next_0 : decode cX7_next 0 = .ok (.aload_n 0, 1) := by decide +kernel
theorem dX7_next_1 : decode cX7_next 1 = .ok (.iload_n 1, 1) := by decide +kernel
theorem dX7_next_2 : decode cX7_next 2 = .ok (.iload_n 1, 1) := by decide +kernel
theorem dX7_next_3 : decode cX7_next 3 = .ok (.iconst 1, 1) := by decide +kernel
theorem dX7_next_4 : decode cX7_next 4 = .ok (.invokevirtual 130, 3) := by decide +kernel
theorem dX7_next_7 : decode cX7_next 7 = .ok (.istore_n 2, 1) := by decide +kernel
theorem dX7_next_8 : decode cX7_next 8 = .ok (.iload_n 2, 1) := by decide +kernel
theorem dX7_next_9 : decode cX7_next 9 = .ok (.ifCond .eq 5, 3) := by decide +kernel
theorem dX7_next_12 : decode cX7_next 12 = .ok (.iload_n 2, 1) := by decide +kernel
theorem dX7_next_13 : decode cX7_next 13 = .ok (.ireturn, 1) := by decide +kernel
theorem dX7_next_14 : decode cX7_next 14 = .ok (.aload_n 0, 1) := by decide +kernel
theorem dX7_next_15 : decode cX7_next 15 = .ok (.iload_n 1, 1) := by decide +kernel
theorem dX7_next_16 : decode cX7_next 16 = .ok (.invokevirtual 145, 3) := by decide +kernel
theorem dX7_next_19 : decode cX7_next 19 = .ok (.aload_n 0, 1) := by decide +kernel
theorem dX7_next_20 : decode cX7_next 20 = .ok (.iload_n 1, 1) := by decide +kernel
theorem dX7_next_21 : decode cX7_next 21 = .ok (.aload_n 0, 1) := by decide +kernel
theorem dX7_next_22 : decode cX7_next 22 = .ok (.getfield 40, 3) := by decide +kernel
theorem dX7_next_25 : decode cX7_next 25 = .ok (.aload_n 0, 1) := by decide +kernel
theorem dX7_next_26 : decode cX7_next 26 = .ok (.getfield 54, 3) := by decide +kernel
theorem dX7_next_29 : decode cX7_next 29 = .ok (.invokevirtual 161, 3) := by decide +kernel
theorem dX7_next_32 : decode cX7_next 32 = .ok (.invokevirtual 164, 3) := by decide +kernel
theorem dX7_next_35 : decode cX7_next 35 = .ok (.invokevirtual 167, 3) := by decide +kernel
theorem dX7_next_38 : decode cX7_next 38 = .ok (.ireturn, 1) := by decide +kernel
theorem dX7_previous_0 : decode cX7_previous 0 = .ok (.aload_n 0, 1) := by decide +kernel
theorem dX7_previous_1 : decode cX7_previous 1 = .ok (.iload_n 1, 1) := by decide +kernel
theorem dX7_previous_2 : decode cX7_previous 2 = .ok (.iload_n 1, 1) := by decide +kernel
theorem dX7_previous_3 : decode cX7_previous 3 = .ok (.iconst 1, 1) := by decide +kernel
theorem dX7_previous_4 : decode cX7_previous 4 = .ok (.invokevirtual 130, 3) := by decide +kernel
theorem dX7_previous_7 : decode cX7_previous 7 = .ok (.istore_n 2, 1) := by decide +kernel
theorem dX7_previous_8 : decode cX7_previous 8 = .ok (.iload_n 2, 1) := by decide +kernel
theorem dX7_previous_9 : decode cX7_previous 9 = .ok (.ifCond .eq 5, 3) := by decide +kernel
theorem dX7_previous_12 : decode cX7_previous 12 = .ok (.iload_n 2, 1) := by decide +kernel
theorem dX7_previous_13 : decode cX7_previous 13 = .ok (.ireturn, 1) := by decide +kernel
theorem dX7_previous_14 : decode cX7_previous 14 = .ok (.aload_n 0, 1) := by decide +kernel
theorem dX7_previous_15 : decode cX7_previous 15 = .ok (.iload_n 1, 1) := by decide +kernel
theorem dX7_previous_16 : decode cX7_previous 16 = .ok (.invokevirtual 145, 3) := by decide +kernel
theorem dX7_previous_19 : decode cX7_previous 19 = .ok (.aload_n 0, 1) := by decide +kernel
theorem dX7_previous_20 : decode cX7_previous 20 = .ok (.iload_n 1, 1) := by decide +kernel
theorem dX7_previous_21 : decode cX7_previous 21 = .ok (.aload_n 0, 1) := by decide +kernel
theorem dX7_previous_22 : decode cX7_previous 22 = .ok (.getfield 40, 3) := by decide +kernel
theorem dX7_previous_25 : decode cX7_previous 25 = .ok (.aload_n 0, 1) := by decide +kernel
theorem dX7_previous_26 : decode cX7_previous 26 = .ok (.getfield 54, 3) := by decide +kernel
theorem dX7_previous_29 : decode cX7_previous 29 = .ok (.invokevirtual 161, 3) := by decide +kernel
theorem dX7_previous_32 : decode cX7_previous 32 = .ok (.invokevirtual 170, 3) := by decide +kernel
theorem dX7_previous_35 : decode cX7_previous 35 = .ok (.invokevirtual 167, 3) := by decide +kernel
theorem dX7_previous_38 : decode cX7_previous 38 = .ok (.ireturn, 1) := by decide +kernel
theorem dX7_draw_0 : decode cX7_draw 0 = .ok (.iload_n 1, 1) := by decide +kernel
theorem dX7_draw_1 : decode cX7_draw 1 = .ok (.invokestatic 117, 3) := by decide +kernel
theorem dX7_draw_4 : decode cX7_draw 4 = .ok (.ifCond .ne 5, 3) := by decide +kernel
theorem dX7_draw_7 : decode cX7_draw 7 = .ok (.iconst (-1), 1) := by decide +kernel
theorem dX7_draw_8 : decode cX7_draw 8 = .ok (.ireturn, 1) := by decide +kernel
theorem dX7_draw_9 : decode cX7_draw 9 = .ok (.aload_n 0, 1) := by decide +kernel
theorem dX7_draw_10 : decode cX7_draw 10 = .ok (.getfield 40, 3) := by decide +kernel
theorem dX7_draw_13 : decode cX7_draw 13 = .ok (.getfield 173, 3) := by decide +kernel
theorem dX7_draw_16 : decode cX7_draw 16 = .ok (.ifCond .ne 6, 3) := by decide +kernel
theorem dX7_draw_19 : decode cX7_draw 19 = .ok (.bipush (-3), 2) := by decide +kernel
theorem dX7_draw_21 : decode cX7_draw 21 = .ok (.ireturn, 1) := by decide +kernel
theorem dX7_draw_22 : decode cX7_draw 22 = .ok (.iload_n 2, 1) := by decide +kernel
theorem dX7_draw_23 : decode cX7_draw 23 = .ok (.ldc 176, 2) := by decide +kernel
theorem dX7_draw_25 : decode cX7_draw 25 = .ok (.imul, 1) := by decide +kernel
theorem dX7_draw_26 : decode cX7_draw 26 = .ok (.sipush 12345, 3) := by decide +kernel
theorem dX7_draw_29 : decode cX7_draw 29 = .ok (.iadd, 1) := by decide +kernel
theorem dX7_draw_30 : decode cX7_draw 30 = .ok (.istore_n 3, 1) := by decide +kernel
theorem dX7_draw_31 : decode cX7_draw 31 = .ok (.aload_n 0, 1) := by decide +kernel
theorem dX7_draw_32 : decode cX7_draw 32 = .ok (.iload_n 1, 1) := by decide +kernel
theorem dX7_draw_33 : decode cX7_draw 33 = .ok (.iload_n 3, 1) := by decide +kernel
theorem dX7_draw_34 : decode cX7_draw 34 = .ok (.bipush 16, 2) := by decide +kernel
theorem dX7_draw_36 : decode cX7_draw 36 = .ok (.iushr, 1) := by decide +kernel
theorem dX7_draw_37 : decode cX7_draw 37 = .ok (.sipush 32767, 3) := by decide +kernel
theorem dX7_draw_40 : decode cX7_draw 40 = .ok (.iand, 1) := by decide +kernel
theorem dX7_draw_41 : decode cX7_draw 41 = .ok (.aload_n 0, 1) := by decide +kernel
theorem dX7_draw_42 : decode cX7_draw 42 = .ok (.getfield 40, 3) := by decide +kernel
theorem dX7_draw_45 : decode cX7_draw 45 = .ok (.getfield 173, 3) := by decide +kernel
theorem dX7_draw_48 : decode cX7_draw 48 = .ok (.irem, 1) := by decide +kernel
theorem dX7_draw_49 : decode cX7_draw 49 = .ok (.invokevirtual 167, 3) := by decide +kernel
theorem dX7_draw_52 : decode cX7_draw 52 = .ok (.ireturn, 1) := by decide +kernel
theorem dX7_blocks_0 : decode cX7_blocks 0 = .ok (.aload_n 0, 1) := by decide +kernel
theorem dX7_blocks_1 : decode cX7_blocks 1 = .ok (.iload_n 1, 1) := by decide +kernel
theorem dX7_blocks_2 : decode cX7_blocks 2 = .ok (.iload_n 1, 1) := by decide +kernel
theorem dX7_blocks_3 : decode cX7_blocks 3 = .ok (.iconst 1, 1) := by decide +kernel
theorem dX7_blocks_4 : decode cX7_blocks 4 = .ok (.invokevirtual 130, 3) := by decide +kernel
theorem dX7_blocks_7 : decode cX7_blocks 7 = .ok (.istore_n 2, 1) := by decide +kernel
theorem dX7_blocks_8 : decode cX7_blocks 8 = .ok (.iload_n 2, 1) := by decide +kernel
theorem dX7_blocks_9 : decode cX7_blocks 9 = .ok (.ifCond .eq 7, 3) := by decide +kernel
theorem dX7_blocks_12 : decode cX7_blocks 12 = .ok (.iload_n 2, 1) := by decide +kernel
theorem dX7_blocks_13 : decode cX7_blocks 13 = .ok (.goto 16, 3) := by decide +kernel
theorem dX7_blocks_16 : decode cX7_blocks 16 = .ok (.aload_n 0, 1) := by decide +kernel
theorem dX7_blocks_17 : decode cX7_blocks 17 = .ok (.aload_n 0, 1) := by decide +kernel
theorem dX7_blocks_18 : decode cX7_blocks 18 = .ok (.getfield 10, 3) := by decide +kernel
theorem dX7_blocks_21 : decode cX7_blocks 21 = .ok (.getfield 133, 3) := by decide +kernel
theorem dX7_blocks_24 : decode cX7_blocks 24 = .ok (.iload_n 1, 1) := by decide +kernel
theorem dX7_blocks_25 : decode cX7_blocks 25 = .ok (.iaload, 1) := by decide +kernel
theorem dX7_blocks_26 : decode cX7_blocks 26 = .ok (.invokevirtual 177, 3) := by decide +kernel
theorem dX7_blocks_29 : decode cX7_blocks 29 = .ok (.ireturn, 1) := by decide +kernel
theorem dX7_blockOf_0 : decode cX7_blockOf 0 = .ok (.aload_n 0, 1) := by decide +kernel
theorem dX7_blockOf_1 : decode cX7_blockOf 1 = .ok (.iload_n 1, 1) := by decide +kernel
theorem dX7_blockOf_2 : decode cX7_blockOf 2 = .ok (.iload_n 1, 1) := by decide +kernel
theorem dX7_blockOf_3 : decode cX7_blockOf 3 = .ok (.aload_n 0, 1) := by decide +kernel
theorem dX7_blockOf_4 : decode cX7_blockOf 4 = .ok (.iload_n 2, 1) := by decide +kernel
theorem dX7_blockOf_5 : decode cX7_blockOf 5 = .ok (.invokevirtual 93, 3) := by decide +kernel
theorem dX7_blockOf_8 : decode cX7_blockOf 8 = .ok (.invokevirtual 130, 3) := by decide +kernel
theorem dX7_blockOf_11 : decode cX7_blockOf 11 = .ok (.istore_n 3, 1) := by decide +kernel
theorem dX7_blockOf_12 : decode cX7_blockOf 12 = .ok (.iload_n 3, 1) := by decide +kernel
theorem dX7_blockOf_13 : decode cX7_blockOf 13 = .ok (.ifCond .eq 5, 3) := by decide +kernel
theorem dX7_blockOf_16 : decode cX7_blockOf 16 = .ok (.iload_n 3, 1) := by decide +kernel
theorem dX7_blockOf_17 : decode cX7_blockOf 17 = .ok (.ireturn, 1) := by decide +kernel
theorem dX7_blockOf_18 : decode cX7_blockOf 18 = .ok (.aload_n 0, 1) := by decide +kernel
theorem dX7_blockOf_19 : decode cX7_blockOf 19 = .ok (.iload_n 1, 1) := by decide +kernel
theorem dX7_blockOf_20 : decode cX7_blockOf 20 = .ok (.invokevirtual 145, 3) := by decide +kernel
theorem dX7_blockOf_23 : decode cX7_blockOf 23 = .ok (.aload_n 0, 1) := by decide +kernel
theorem dX7_blockOf_24 : decode cX7_blockOf 24 = .ok (.getfield 54, 3) := by decide +kernel
theorem dX7_blockOf_27 : decode cX7_blockOf 27 = .ok (.getfield 180, 3) := by decide +kernel
theorem dX7_blockOf_30 : decode cX7_blockOf 30 = .ok (.iload_n 2, 1) := by decide +kernel
theorem dX7_blockOf_31 : decode cX7_blockOf 31 = .ok (.iaload, 1) := by decide +kernel
theorem dX7_blockOf_32 : decode cX7_blockOf 32 = .ok (.ireturn, 1) := by decide +kernel
theorem dX7_block_0 : decode cX7_block 0 = .ok (.aload_n 0, 1) := by decide +kernel
theorem dX7_block_1 : decode cX7_block 1 = .ok (.iload_n 1, 1) := by decide +kernel
theorem dX7_block_2 : decode cX7_block 2 = .ok (.iload_n 1, 1) := by decide +kernel
theorem dX7_block_3 : decode cX7_block 3 = .ok (.iconst 1, 1) := by decide +kernel
theorem dX7_block_4 : decode cX7_block 4 = .ok (.invokevirtual 130, 3) := by decide +kernel
theorem dX7_block_7 : decode cX7_block 7 = .ok (.istore_n 3, 1) := by decide +kernel
theorem dX7_block_8 : decode cX7_block 8 = .ok (.iload_n 3, 1) := by decide +kernel
theorem dX7_block_9 : decode cX7_block 9 = .ok (.ifCond .eq 5, 3) := by decide +kernel
theorem dX7_block_12 : decode cX7_block 12 = .ok (.iload_n 3, 1) := by decide +kernel
theorem dX7_block_13 : decode cX7_block 13 = .ok (.ireturn, 1) := by decide +kernel
theorem dX7_block_14 : decode cX7_block 14 = .ok (.aload_n 0, 1) := by decide +kernel
theorem dX7_block_15 : decode cX7_block 15 = .ok (.iload_n 1, 1) := by decide +kernel
theorem dX7_block_16 : decode cX7_block 16 = .ok (.invokevirtual 145, 3) := by decide +kernel
theorem dX7_block_19 : decode cX7_block 19 = .ok (.iload_n 2, 1) := by decide +kernel
theorem dX7_block_20 : decode cX7_block 20 = .ok (.ifCond .lt 14, 3) := by decide +kernel
theorem dX7_block_23 : decode cX7_block 23 = .ok (.iload_n 2, 1) := by decide +kernel
theorem dX7_block_24 : decode cX7_block 24 = .ok (.aload_n 0, 1) := by decide +kernel
theorem dX7_block_25 : decode cX7_block 25 = .ok (.getfield 54, 3) := by decide +kernel
theorem dX7_block_28 : decode cX7_block 28 = .ok (.getfield 183, 3) := by decide +kernel
theorem dX7_block_31 : decode cX7_block 31 = .ok (.if_icmp .lt 8, 3) := by decide +kernel
theorem dX7_block_34 : decode cX7_block 34 = .ok (.bipush (-9), 2) := by decide +kernel
theorem dX7_block_36 : decode cX7_block 36 = .ok (.goto 12, 3) := by decide +kernel
theorem dX7_block_39 : decode cX7_block 39 = .ok (.aload_n 0, 1) := by decide +kernel
theorem dX7_block_40 : decode cX7_block 40 = .ok (.getfield 54, 3) := by decide +kernel
theorem dX7_block_43 : decode cX7_block 43 = .ok (.getfield 186, 3) := by decide +kernel
theorem dX7_block_46 : decode cX7_block 46 = .ok (.iload_n 2, 1) := by decide +kernel
theorem dX7_block_47 : decode cX7_block 47 = .ok (.iaload, 1) := by decide +kernel
theorem dX7_block_48 : decode cX7_block 48 = .ok (.ireturn, 1) := by decide +kernel
theorem dX7_typeOf_0 : decode cX7_typeOf 0 = .ok (.aload_n 0, 1) := by decide +kernel
theorem dX7_typeOf_1 : decode cX7_typeOf 1 = .ok (.iload_n 1, 1) := by decide +kernel
theorem dX7_typeOf_2 : decode cX7_typeOf 2 = .ok (.iload_n 1, 1) := by decide +kernel
theorem dX7_typeOf_3 : decode cX7_typeOf 3 = .ok (.iconst 1, 1) := by decide +kernel
theorem dX7_typeOf_4 : decode cX7_typeOf 4 = .ok (.invokevirtual 130, 3) := by decide +kernel
theorem dX7_typeOf_7 : decode cX7_typeOf 7 = .ok (.istore_n 2, 1) := by decide +kernel
theorem dX7_typeOf_8 : decode cX7_typeOf 8 = .ok (.iload_n 2, 1) := by decide +kernel
theorem dX7_typeOf_9 : decode cX7_typeOf 9 = .ok (.ifCond .eq 5, 3) := by decide +kernel
theorem dX7_typeOf_12 : decode cX7_typeOf 12 = .ok (.iload_n 2, 1) := by decide +kernel
theorem dX7_typeOf_13 : decode cX7_typeOf 13 = .ok (.ireturn, 1) := by decide +kernel
theorem dX7_typeOf_14 : decode cX7_typeOf 14 = .ok (.aload_n 0, 1) := by decide +kernel
theorem dX7_typeOf_15 : decode cX7_typeOf 15 = .ok (.iload_n 1, 1) := by decide +kernel
theorem dX7_typeOf_16 : decode cX7_typeOf 16 = .ok (.invokevirtual 145, 3) := by decide +kernel
theorem dX7_typeOf_19 : decode cX7_typeOf 19 = .ok (.aload_n 0, 1) := by decide +kernel
theorem dX7_typeOf_20 : decode cX7_typeOf 20 = .ok (.getfield 54, 3) := by decide +kernel
theorem dX7_typeOf_23 : decode cX7_typeOf 23 = .ok (.invokevirtual 189, 3) := by decide +kernel
theorem dX7_typeOf_26 : decode cX7_typeOf 26 = .ok (.ireturn, 1) := by decide +kernel
theorem dX7_crossings_0 : decode cX7_crossings 0 = .ok (.aload_n 0, 1) := by decide +kernel
theorem dX7_crossings_1 : decode cX7_crossings 1 = .ok (.iload_n 1, 1) := by decide +kernel
theorem dX7_crossings_2 : decode cX7_crossings 2 = .ok (.iload_n 1, 1) := by decide +kernel
theorem dX7_crossings_3 : decode cX7_crossings 3 = .ok (.iconst 1, 1) := by decide +kernel
theorem dX7_crossings_4 : decode cX7_crossings 4 = .ok (.invokevirtual 130, 3) := by decide +kernel
theorem dX7_crossings_7 : decode cX7_crossings 7 = .ok (.istore_n 2, 1) := by decide +kernel
theorem dX7_crossings_8 : decode cX7_crossings 8 = .ok (.iload_n 2, 1) := by decide +kernel
theorem dX7_crossings_9 : decode cX7_crossings 9 = .ok (.ifCond .eq 5, 3) := by decide +kernel
theorem dX7_crossings_12 : decode cX7_crossings 12 = .ok (.iload_n 2, 1) := by decide +kernel
theorem dX7_crossings_13 : decode cX7_crossings 13 = .ok (.ireturn, 1) := by decide +kernel
theorem dX7_crossings_14 : decode cX7_crossings 14 = .ok (.aload_n 0, 1) := by decide +kernel
theorem dX7_crossings_15 : decode cX7_crossings 15 = .ok (.iload_n 1, 1) := by decide +kernel
theorem dX7_crossings_16 : decode cX7_crossings 16 = .ok (.invokevirtual 145, 3) := by decide +kernel
theorem dX7_crossings_19 : decode cX7_crossings 19 = .ok (.aload_n 0, 1) := by decide +kernel
theorem dX7_crossings_20 : decode cX7_crossings 20 = .ok (.getfield 54, 3) := by decide +kernel
theorem dX7_crossings_23 : decode cX7_crossings 23 = .ok (.invokevirtual 192, 3) := by decide +kernel
theorem dX7_crossings_26 : decode cX7_crossings 26 = .ok (.ireturn, 1) := by decide +kernel
theorem dX7_index_0 : decode cX7_index 0 = .ok (.aload_n 0, 1) := by decide +kernel
theorem dX7_index_1 : decode cX7_index 1 = .ok (.iload_n 1, 1) := by decide +kernel
theorem dX7_index_2 : decode cX7_index 2 = .ok (.iload_n 1, 1) := by decide +kernel
theorem dX7_index_3 : decode cX7_index 3 = .ok (.iconst 1, 1) := by decide +kernel
theorem dX7_index_4 : decode cX7_index 4 = .ok (.invokevirtual 130, 3) := by decide +kernel
theorem dX7_index_7 : decode cX7_index 7 = .ok (.istore_n 2, 1) := by decide +kernel
theorem dX7_index_8 : decode cX7_index 8 = .ok (.iload_n 2, 1) := by decide +kernel
theorem dX7_index_9 : decode cX7_index 9 = .ok (.ifCond .eq 7, 3) := by decide +kernel
theorem dX7_index_12 : decode cX7_index 12 = .ok (.iload_n 2, 1) := by decide +kernel
theorem dX7_index_13 : decode cX7_index 13 = .ok (.goto 19, 3) := by decide +kernel
theorem dX7_index_16 : decode cX7_index 16 = .ok (.aload_n 0, 1) := by decide +kernel
theorem dX7_index_17 : decode cX7_index 17 = .ok (.getfield 40, 3) := by decide +kernel
theorem dX7_index_20 : decode cX7_index 20 = .ok (.aload_n 0, 1) := by decide +kernel
theorem dX7_index_21 : decode cX7_index 21 = .ok (.getfield 10, 3) := by decide +kernel
theorem dX7_index_24 : decode cX7_index 24 = .ok (.getfield 133, 3) := by decide +kernel
theorem dX7_index_27 : decode cX7_index 27 = .ok (.iload_n 1, 1) := by decide +kernel
theorem dX7_index_28 : decode cX7_index 28 = .ok (.iaload, 1) := by decide +kernel
theorem dX7_index_29 : decode cX7_index 29 = .ok (.invokevirtual 195, 3) := by decide +kernel
theorem dX7_index_32 : decode cX7_index 32 = .ok (.ireturn, 1) := by decide +kernel
theorem dX7_why_0 : decode cX7_why 0 = .ok (.aload_n 0, 1) := by decide +kernel
theorem dX7_why_1 : decode cX7_why 1 = .ok (.iload_n 1, 1) := by decide +kernel
theorem dX7_why_2 : decode cX7_why 2 = .ok (.iload_n 1, 1) := by decide +kernel
theorem dX7_why_3 : decode cX7_why 3 = .ok (.iconst 1, 1) := by decide +kernel
theorem dX7_why_4 : decode cX7_why 4 = .ok (.invokevirtual 130, 3) := by decide +kernel
theorem dX7_why_7 : decode cX7_why 7 = .ok (.istore_n 2, 1) := by decide +kernel
theorem dX7_why_8 : decode cX7_why 8 = .ok (.iload_n 2, 1) := by decide +kernel
theorem dX7_why_9 : decode cX7_why 9 = .ok (.ifCond .eq 5, 3) := by decide +kernel
theorem dX7_why_12 : decode cX7_why 12 = .ok (.iload_n 2, 1) := by decide +kernel
theorem dX7_why_13 : decode cX7_why 13 = .ok (.ireturn, 1) := by decide +kernel
theorem dX7_why_14 : decode cX7_why 14 = .ok (.aload_n 0, 1) := by decide +kernel
theorem dX7_why_15 : decode cX7_why 15 = .ok (.getfield 10, 3) := by decide +kernel
theorem dX7_why_18 : decode cX7_why 18 = .ok (.getfield 133, 3) := by decide +kernel
theorem dX7_why_21 : decode cX7_why 21 = .ok (.iload_n 1, 1) := by decide +kernel
theorem dX7_why_22 : decode cX7_why 22 = .ok (.iaload, 1) := by decide +kernel
theorem dX7_why_23 : decode cX7_why 23 = .ok (.istore_n 3, 1) := by decide +kernel
theorem dX7_why_24 : decode cX7_why 24 = .ok (.aload_n 0, 1) := by decide +kernel
theorem dX7_why_25 : decode cX7_why 25 = .ok (.iload_n 1, 1) := by decide +kernel
theorem dX7_why_26 : decode cX7_why 26 = .ok (.invokevirtual 145, 3) := by decide +kernel
theorem dX7_why_29 : decode cX7_why 29 = .ok (.aload_n 0, 1) := by decide +kernel
theorem dX7_why_30 : decode cX7_why 30 = .ok (.getfield 54, 3) := by decide +kernel
theorem dX7_why_33 : decode cX7_why 33 = .ok (.invokevirtual 148, 3) := by decide +kernel
theorem dX7_why_36 : decode cX7_why 36 = .ok (.bipush (-9), 2) := by decide +kernel
theorem dX7_why_38 : decode cX7_why 38 = .ok (.if_icmp .eq 7, 3) := by decide +kernel
theorem dX7_why_41 : decode cX7_why 41 = .ok (.iconst 1, 1) := by decide +kernel
theorem dX7_why_42 : decode cX7_why 42 = .ok (.goto 4, 3) := by decide +kernel
theorem dX7_why_45 : decode cX7_why 45 = .ok (.iconst 0, 1) := by decide +kernel
theorem dX7_why_46 : decode cX7_why 46 = .ok (.istore 4, 2) := by decide +kernel
theorem dX7_why_48 : decode cX7_why 48 = .ok (.aload_n 0, 1) := by decide +kernel
theorem dX7_why_49 : decode cX7_why 49 = .ok (.getfield 10, 3) := by decide +kernel
theorem dX7_why_52 : decode cX7_why 52 = .ok (.iload_n 3, 1) := by decide +kernel
theorem dX7_why_53 : decode cX7_why 53 = .ok (.aload_n 0, 1) := by decide +kernel
theorem dX7_why_54 : decode cX7_why 54 = .ok (.getfield 54, 3) := by decide +kernel
theorem dX7_why_57 : decode cX7_why 57 = .ok (.invokevirtual 198, 3) := by decide +kernel
theorem dX7_why_60 : decode cX7_why 60 = .ok (.aload_n 0, 1) := by decide +kernel
theorem dX7_why_61 : decode cX7_why 61 = .ok (.getfield 54, 3) := by decide +kernel
theorem dX7_why_64 : decode cX7_why 64 = .ok (.getfield 183, 3) := by decide +kernel
theorem dX7_why_67 : decode cX7_why 67 = .ok (.iload 4, 2) := by decide +kernel
theorem dX7_why_69 : decode cX7_why 69 = .ok (.invokevirtual 201, 3) := by decide +kernel
theorem dX7_why_72 : decode cX7_why 72 = .ok (.ireturn, 1) := by decide +kernel
theorem dX7_where_0 : decode cX7_where 0 = .ok (.aload_n 0, 1) := by decide +kernel
theorem dX7_where_1 : decode cX7_where 1 = .ok (.iload_n 1, 1) := by decide +kernel
theorem dX7_where_2 : decode cX7_where 2 = .ok (.invokevirtual 205, 3) := by decide +kernel
theorem dX7_where_5 : decode cX7_where 5 = .ok (.istore_n 2, 1) := by decide +kernel
theorem dX7_where_6 : decode cX7_where 6 = .ok (.iload_n 2, 1) := by decide +kernel
theorem dX7_where_7 : decode cX7_where 7 = .ok (.ifCond .ge 5, 3) := by decide +kernel
theorem dX7_where_10 : decode cX7_where 10 = .ok (.iload_n 2, 1) := by decide +kernel
theorem dX7_where_11 : decode cX7_where 11 = .ok (.ireturn, 1) := by decide +kernel
theorem dX7_where_12 : decode cX7_where 12 = .ok (.aload_n 0, 1) := by decide +kernel
theorem dX7_where_13 : decode cX7_where 13 = .ok (.getfield 10, 3) := by decide +kernel
theorem dX7_where_16 : decode cX7_where 16 = .ok (.getfield 133, 3) := by decide +kernel
theorem dX7_where_19 : decode cX7_where 19 = .ok (.iload_n 1, 1) := by decide +kernel
theorem dX7_where_20 : decode cX7_where 20 = .ok (.iaload, 1) := by decide +kernel
theorem dX7_where_21 : decode cX7_where 21 = .ok (.istore_n 3, 1) := by decide +kernel
theorem dX7_where_22 : decode cX7_where 22 = .ok (.aload_n 0, 1) := by decide +kernel
theorem dX7_where_23 : decode cX7_where 23 = .ok (.iload_n 1, 1) := by decide +kernel
theorem dX7_where_24 : decode cX7_where 24 = .ok (.invokevirtual 145, 3) := by decide +kernel
theorem dX7_where_27 : decode cX7_where 27 = .ok (.iload_n 2, 1) := by decide +kernel
theorem dX7_where_28 : decode cX7_where 28 = .ok (.tableswitch 95 1 5 #[36, 51, 59, 72, 87], 36) := by decide +kernel
theorem dX7_where_64 : decode cX7_where 64 = .ok (.aload_n 0, 1) := by decide +kernel
theorem dX7_where_65 : decode cX7_where 65 = .ok (.getfield 54, 3) := by decide +kernel
theorem dX7_where_68 : decode cX7_where 68 = .ok (.aload_n 0, 1) := by decide +kernel
theorem dX7_where_69 : decode cX7_where 69 = .ok (.getfield 10, 3) := by decide +kernel
theorem dX7_where_72 : decode cX7_where 72 = .ok (.getfield 83, 3) := by decide +kernel
theorem dX7_where_75 : decode cX7_where 75 = .ok (.invokevirtual 208, 3) := by decide +kernel
theorem dX7_where_78 : decode cX7_where 78 = .ok (.ireturn, 1) := by decide +kernel
theorem dX7_where_79 : decode cX7_where 79 = .ok (.aload_n 0, 1) := by decide +kernel
theorem dX7_where_80 : decode cX7_where 80 = .ok (.getfield 54, 3) := by decide +kernel
theorem dX7_where_83 : decode cX7_where 83 = .ok (.getfield 183, 3) := by decide +kernel
theorem dX7_where_86 : decode cX7_where 86 = .ok (.ireturn, 1) := by decide +kernel
theorem dX7_where_87 : decode cX7_where 87 = .ok (.iload_n 3, 1) := by decide +kernel
theorem dX7_where_88 : decode cX7_where 88 = .ok (.aload_n 0, 1) := by decide +kernel
theorem dX7_where_89 : decode cX7_where 89 = .ok (.getfield 10, 3) := by decide +kernel
theorem dX7_where_92 : decode cX7_where 92 = .ok (.getfield 101, 3) := by decide +kernel
theorem dX7_where_95 : decode cX7_where 95 = .ok (.iand, 1) := by decide +kernel
theorem dX7_where_96 : decode cX7_where 96 = .ok (.invokestatic 211, 3) := by decide +kernel
theorem dX7_where_99 : decode cX7_where 99 = .ok (.ireturn, 1) := by decide +kernel
theorem dX7_where_100 : decode cX7_where 100 = .ok (.aload_n 0, 1) := by decide +kernel
theorem dX7_where_101 : decode cX7_where 101 = .ok (.getfield 10, 3) := by decide +kernel
theorem dX7_where_104 : decode cX7_where 104 = .ok (.getfield 104, 3) := by decide +kernel
theorem dX7_where_107 : decode cX7_where 107 = .ok (.iload_n 3, 1) := by decide +kernel
theorem dX7_where_108 : decode cX7_where 108 = .ok (.iconst (-1), 1) := by decide +kernel
theorem dX7_where_109 : decode cX7_where 109 = .ok (.ixor, 1) := by decide +kernel
theorem dX7_where_110 : decode cX7_where 110 = .ok (.iand, 1) := by decide +kernel
theorem dX7_where_111 : decode cX7_where 111 = .ok (.invokestatic 211, 3) := by decide +kernel
theorem dX7_where_114 : decode cX7_where 114 = .ok (.ireturn, 1) := by decide +kernel
theorem dX7_where_115 : decode cX7_where 115 = .ok (.aload_n 0, 1) := by decide +kernel
theorem dX7_where_116 : decode cX7_where 116 = .ok (.getfield 54, 3) := by decide +kernel
theorem dX7_where_119 : decode cX7_where 119 = .ok (.invokevirtual 148, 3) := by decide +kernel
theorem dX7_where_122 : decode cX7_where 122 = .ok (.ireturn, 1) := by decide +kernel
theorem dX7_where_123 : decode cX7_where 123 = .ok (.bipush (-9), 2) := by decide +kernel
theorem dX7_where_125 : decode cX7_where 125 = .ok (.ireturn, 1) := by decide +kernel
theorem dX7_count_0 : decode cX7_count 0 = .ok (.aload_n 0, 1) := by decide +kernel
theorem dX7_count_1 : decode cX7_count 1 = .ok (.getfield 40, 3) := by decide +kernel
theorem dX7_count_4 : decode cX7_count 4 = .ok (.getfield 173, 3) := by decide +kernel
theorem dX7_count_7 : decode cX7_count 7 = .ok (.ireturn, 1) := by decide +kernel
theorem dX7_countWith_0 : decode cX7_countWith 0 = .ok (.iload_n 1, 1) := by decide +kernel
theorem dX7_countWith_1 : decode cX7_countWith 1 = .ok (.iconst 1, 1) := by decide +kernel
theorem dX7_countWith_2 : decode cX7_countWith 2 = .ok (.if_icmp .lt 9, 3) := by decide +kernel
theorem dX7_countWith_5 : decode cX7_countWith 5 = .ok (.iload_n 1, 1) := by decide +kernel
theorem dX7_countWith_6 : decode cX7_countWith 6 = .ok (.bipush 6, 2) := by decide +kernel
theorem dX7_countWith_8 : decode cX7_countWith 8 = .ok (.if_icmp .le 7, 3) := by decide +kernel
theorem dX7_countWith_11 : decode cX7_countWith 11 = .ok (.iconst (-1), 1) := by decide +kernel
theorem dX7_countWith_12 : decode cX7_countWith 12 = .ok (.goto 12, 3) := by decide +kernel
theorem dX7_countWith_15 : decode cX7_countWith 15 = .ok (.aload_n 0, 1) := by decide +kernel
theorem dX7_countWith_16 : decode cX7_countWith 16 = .ok (.getfield 40, 3) := by decide +kernel
theorem dX7_countWith_19 : decode cX7_countWith 19 = .ok (.getfield 214, 3) := by decide +kernel
theorem dX7_countWith_22 : decode cX7_countWith 22 = .ok (.iload_n 1, 1) := by decide +kernel
theorem dX7_countWith_23 : decode cX7_countWith 23 = .ok (.iaload, 1) := by decide +kernel
theorem dX7_countWith_24 : decode cX7_countWith 24 = .ok (.ireturn, 1) := by decide +kernel
theorem dX7_below_0 : decode cX7_below 0 = .ok (.aload_n 0, 1) := by decide +kernel
theorem dX7_below_1 : decode cX7_below 1 = .ok (.iload_n 1, 1) := by decide +kernel
theorem dX7_below_2 : decode cX7_below 2 = .ok (.iload_n 2, 1) := by decide +kernel
theorem dX7_below_3 : decode cX7_below 3 = .ok (.iconst 1, 1) := by decide +kernel
theorem dX7_below_4 : decode cX7_below 4 = .ok (.invokevirtual 130, 3) := by decide +kernel
theorem dX7_below_7 : decode cX7_below 7 = .ok (.istore_n 3, 1) := by decide +kernel
theorem dX7_below_8 : decode cX7_below 8 = .ok (.iload_n 3, 1) := by decide +kernel
theorem dX7_below_9 : decode cX7_below 9 = .ok (.ifCond .eq 5, 3) := by decide +kernel
theorem dX7_below_12 : decode cX7_below 12 = .ok (.iload_n 3, 1) := by decide +kernel
theorem dX7_below_13 : decode cX7_below 13 = .ok (.ireturn, 1) := by decide +kernel
theorem dX7_below_14 : decode cX7_below 14 = .ok (.aload_n 0, 1) := by decide +kernel
theorem dX7_below_15 : decode cX7_below 15 = .ok (.getfield 10, 3) := by decide +kernel
theorem dX7_below_18 : decode cX7_below 18 = .ok (.getfield 133, 3) := by decide +kernel
theorem dX7_below_21 : decode cX7_below 21 = .ok (.iload_n 1, 1) := by decide +kernel
theorem dX7_below_22 : decode cX7_below 22 = .ok (.iaload, 1) := by decide +kernel
theorem dX7_below_23 : decode cX7_below 23 = .ok (.aload_n 0, 1) := by decide +kernel
theorem dX7_below_24 : decode cX7_below 24 = .ok (.getfield 10, 3) := by decide +kernel
theorem dX7_below_27 : decode cX7_below 27 = .ok (.getfield 133, 3) := by decide +kernel
theorem dX7_below_30 : decode cX7_below 30 = .ok (.iload_n 2, 1) := by decide +kernel
theorem dX7_below_31 : decode cX7_below 31 = .ok (.iaload, 1) := by decide +kernel
theorem dX7_below_32 : decode cX7_below 32 = .ok (.invokestatic 217, 3) := by decide +kernel
theorem dX7_below_35 : decode cX7_below 35 = .ok (.ifCond .eq 7, 3) := by decide +kernel
theorem dX7_below_38 : decode cX7_below 38 = .ok (.iconst 1, 1) := by decide +kernel
theorem dX7_below_39 : decode cX7_below 39 = .ok (.goto 4, 3) := by decide +kernel
theorem dX7_below_42 : decode cX7_below 42 = .ok (.iconst 0, 1) := by decide +kernel
theorem dX7_below_43 : decode cX7_below 43 = .ok (.ireturn, 1) := by decide +kernel
theorem dX7_covers_0 : decode cX7_covers 0 = .ok (.aload_n 0, 1) := by decide +kernel
theorem dX7_covers_1 : decode cX7_covers 1 = .ok (.iload_n 1, 1) := by decide +kernel
theorem dX7_covers_2 : decode cX7_covers 2 = .ok (.iload_n 1, 1) := by decide +kernel
theorem dX7_covers_3 : decode cX7_covers 3 = .ok (.iconst 1, 1) := by decide +kernel
theorem dX7_covers_4 : decode cX7_covers 4 = .ok (.invokevirtual 221, 3) := by decide +kernel
theorem dX7_covers_7 : decode cX7_covers 7 = .ok (.istore_n 3, 1) := by decide +kernel
theorem dX7_covers_8 : decode cX7_covers 8 = .ok (.iload_n 3, 1) := by decide +kernel
theorem dX7_covers_9 : decode cX7_covers 9 = .ok (.ifCond .eq 5, 3) := by decide +kernel
theorem dX7_covers_12 : decode cX7_covers 12 = .ok (.iload_n 3, 1) := by decide +kernel
theorem dX7_covers_13 : decode cX7_covers 13 = .ok (.ireturn, 1) := by decide +kernel
theorem dX7_covers_14 : decode cX7_covers 14 = .ok (.aload_n 0, 1) := by decide +kernel
theorem dX7_covers_15 : decode cX7_covers 15 = .ok (.getfield 40, 3) := by decide +kernel
theorem dX7_covers_18 : decode cX7_covers 18 = .ok (.aload_n 0, 1) := by decide +kernel
theorem dX7_covers_19 : decode cX7_covers 19 = .ok (.getfield 10, 3) := by decide +kernel
theorem dX7_covers_22 : decode cX7_covers 22 = .ok (.getfield 133, 3) := by decide +kernel
theorem dX7_covers_25 : decode cX7_covers 25 = .ok (.iload_n 1, 1) := by decide +kernel
theorem dX7_covers_26 : decode cX7_covers 26 = .ok (.iaload, 1) := by decide +kernel
theorem dX7_covers_27 : decode cX7_covers 27 = .ok (.iload_n 2, 1) := by decide +kernel
theorem dX7_covers_28 : decode cX7_covers 28 = .ok (.aload_n 0, 1) := by decide +kernel
theorem dX7_covers_29 : decode cX7_covers 29 = .ok (.getfield 10, 3) := by decide +kernel
theorem dX7_covers_32 : decode cX7_covers 32 = .ok (.getfield 133, 3) := by decide +kernel
theorem dX7_covers_35 : decode cX7_covers 35 = .ok (.iload_n 1, 1) := by decide +kernel
theorem dX7_covers_36 : decode cX7_covers 36 = .ok (.iaload, 1) := by decide +kernel
theorem dX7_covers_37 : decode cX7_covers 37 = .ok (.invokevirtual 224, 3) := by decide +kernel
theorem dX7_covers_40 : decode cX7_covers 40 = .ok (.aload_n 0, 1) := by decide +kernel
theorem dX7_covers_41 : decode cX7_covers 41 = .ok (.getfield 40, 3) := by decide +kernel
theorem dX7_covers_44 : decode cX7_covers 44 = .ok (.getfield 228, 3) := by decide +kernel
theorem dX7_covers_47 : decode cX7_covers 47 = .ok (.ireturn, 1) := by decide +kernel
theorem dX7_bounds_0 : decode cX7_bounds 0 = .ok (.aload_n 0, 1) := by decide +kernel
theorem dX7_bounds_1 : decode cX7_bounds 1 = .ok (.iload_n 1, 1) := by decide +kernel
theorem dX7_bounds_2 : decode cX7_bounds 2 = .ok (.iload_n 2, 1) := by decide +kernel
theorem dX7_bounds_3 : decode cX7_bounds 3 = .ok (.iconst 1, 1) := by decide +kernel
theorem dX7_bounds_4 : decode cX7_bounds 4 = .ok (.invokevirtual 130, 3) := by decide +kernel
theorem dX7_bounds_7 : decode cX7_bounds 7 = .ok (.istore 4, 2) := by decide +kernel
theorem dX7_bounds_9 : decode cX7_bounds 9 = .ok (.iload 4, 2) := by decide +kernel
theorem dX7_bounds_11 : decode cX7_bounds 11 = .ok (.ifCond .eq 6, 3) := by decide +kernel
theorem dX7_bounds_14 : decode cX7_bounds 14 = .ok (.iload 4, 2) := by decide +kernel
theorem dX7_bounds_16 : decode cX7_bounds 16 = .ok (.ireturn, 1) := by decide +kernel
theorem dX7_bounds_17 : decode cX7_bounds 17 = .ok (.aload_n 0, 1) := by decide +kernel
theorem dX7_bounds_18 : decode cX7_bounds 18 = .ok (.iload_n 1, 1) := by decide +kernel
theorem dX7_bounds_19 : decode cX7_bounds 19 = .ok (.iload_n 2, 1) := by decide +kernel
theorem dX7_bounds_20 : decode cX7_bounds 20 = .ok (.iload_n 3, 1) := by decide +kernel
theorem dX7_bounds_21 : decode cX7_bounds 21 = .ok (.invokevirtual 231, 3) := by decide +kernel
theorem dX7_bounds_24 : decode cX7_bounds 24 = .ok (.aload_n 0, 1) := by decide +kernel
theorem dX7_bounds_25 : decode cX7_bounds 25 = .ok (.getfield 40, 3) := by decide +kernel
theorem dX7_bounds_28 : decode cX7_bounds 28 = .ok (.getfield 228, 3) := by decide +kernel
theorem dX7_bounds_31 : decode cX7_bounds 31 = .ok (.ireturn, 1) := by decide +kernel
theorem dX7_bound_0 : decode cX7_bound 0 = .ok (.aload_n 0, 1) := by decide +kernel
theorem dX7_bound_1 : decode cX7_bound 1 = .ok (.iload_n 1, 1) := by decide +kernel
theorem dX7_bound_2 : decode cX7_bound 2 = .ok (.iload_n 2, 1) := by decide +kernel
theorem dX7_bound_3 : decode cX7_bound 3 = .ok (.iload 4, 2) := by decide +kernel
theorem dX7_bound_5 : decode cX7_bound 5 = .ok (.invokestatic 117, 3) := by decide +kernel
theorem dX7_bound_8 : decode cX7_bound 8 = .ok (.invokevirtual 130, 3) := by decide +kernel
theorem dX7_bound_11 : decode cX7_bound 11 = .ok (.istore 5, 2) := by decide +kernel
theorem dX7_bound_13 : decode cX7_bound 13 = .ok (.iload 5, 2) := by decide +kernel
theorem dX7_bound_15 : decode cX7_bound 15 = .ok (.ifCond .eq 6, 3) := by decide +kernel
theorem dX7_bound_18 : decode cX7_bound 18 = .ok (.iload 5, 2) := by decide +kernel
theorem dX7_bound_20 : decode cX7_bound 20 = .ok (.ireturn, 1) := by decide +kernel
theorem dX7_bound_21 : decode cX7_bound 21 = .ok (.aload_n 0, 1) := by decide +kernel
theorem dX7_bound_22 : decode cX7_bound 22 = .ok (.iload_n 1, 1) := by decide +kernel
theorem dX7_bound_23 : decode cX7_bound 23 = .ok (.iload_n 2, 1) := by decide +kernel
theorem dX7_bound_24 : decode cX7_bound 24 = .ok (.iload_n 3, 1) := by decide +kernel
theorem dX7_bound_25 : decode cX7_bound 25 = .ok (.invokevirtual 231, 3) := by decide +kernel
theorem dX7_bound_28 : decode cX7_bound 28 = .ok (.aload_n 0, 1) := by decide +kernel
theorem dX7_bound_29 : decode cX7_bound 29 = .ok (.getfield 40, 3) := by decide +kernel
theorem dX7_bound_32 : decode cX7_bound 32 = .ok (.getfield 228, 3) := by decide +kernel
theorem dX7_bound_35 : decode cX7_bound 35 = .ok (.iconst 1, 1) := by decide +kernel
theorem dX7_bound_36 : decode cX7_bound 36 = .ok (.if_icmp .eq 6, 3) := by decide +kernel
theorem dX7_bound_39 : decode cX7_bound 39 = .ok (.bipush (-3), 2) := by decide +kernel
theorem dX7_bound_41 : decode cX7_bound 41 = .ok (.ireturn, 1) := by decide +kernel
theorem dX7_bound_42 : decode cX7_bound 42 = .ok (.aload_n 0, 1) := by decide +kernel
theorem dX7_bound_43 : decode cX7_bound 43 = .ok (.iload 4, 2) := by decide +kernel
theorem dX7_bound_45 : decode cX7_bound 45 = .ok (.aload_n 0, 1) := by decide +kernel
theorem dX7_bound_46 : decode cX7_bound 46 = .ok (.getfield 40, 3) := by decide +kernel
theorem dX7_bound_49 : decode cX7_bound 49 = .ok (.aload_n 0, 1) := by decide +kernel
theorem dX7_bound_50 : decode cX7_bound 50 = .ok (.getfield 40, 3) := by decide +kernel
theorem dX7_bound_53 : decode cX7_bound 53 = .ok (.getfield 235, 3) := by decide +kernel
theorem dX7_bound_56 : decode cX7_bound 56 = .ok (.iconst 0, 1) := by decide +kernel
theorem dX7_bound_57 : decode cX7_bound 57 = .ok (.iaload, 1) := by decide +kernel
theorem dX7_bound_58 : decode cX7_bound 58 = .ok (.invokevirtual 195, 3) := by decide +kernel
theorem dX7_bound_61 : decode cX7_bound 61 = .ok (.invokevirtual 167, 3) := by decide +kernel
theorem dX7_bound_64 : decode cX7_bound 64 = .ok (.ireturn, 1) := by decide +kernel
theorem dX7_interval_0 : decode cX7_interval 0 = .ok (.aload_n 0, 1) := by decide +kernel
theorem dX7_interval_1 : decode cX7_interval 1 = .ok (.iload_n 1, 1) := by decide +kernel
theorem dX7_interval_2 : decode cX7_interval 2 = .ok (.iload_n 2, 1) := by decide +kernel
theorem dX7_interval_3 : decode cX7_interval 3 = .ok (.iconst 1, 1) := by decide +kernel
theorem dX7_interval_4 : decode cX7_interval 4 = .ok (.invokevirtual 130, 3) := by decide +kernel
theorem dX7_interval_7 : decode cX7_interval 7 = .ok (.istore_n 3, 1) := by decide +kernel
theorem dX7_interval_8 : decode cX7_interval 8 = .ok (.iload_n 3, 1) := by decide +kernel
theorem dX7_interval_9 : decode cX7_interval 9 = .ok (.ifCond .eq 5, 3) := by decide +kernel
theorem dX7_interval_12 : decode cX7_interval 12 = .ok (.iload_n 3, 1) := by decide +kernel
theorem dX7_interval_13 : decode cX7_interval 13 = .ok (.ireturn, 1) := by decide +kernel
theorem dX7_interval_14 : decode cX7_interval 14 = .ok (.aload_n 0, 1) := by decide +kernel
theorem dX7_interval_15 : decode cX7_interval 15 = .ok (.iload_n 1, 1) := by decide +kernel
theorem dX7_interval_16 : decode cX7_interval 16 = .ok (.iload_n 2, 1) := by decide +kernel
theorem dX7_interval_17 : decode cX7_interval 17 = .ok (.invokevirtual 238, 3) := by decide +kernel
theorem dX7_interval_20 : decode cX7_interval 20 = .ok (.aload_n 0, 1) := by decide +kernel
theorem dX7_interval_21 : decode cX7_interval 21 = .ok (.getfield 47, 3) := by decide +kernel
theorem dX7_interval_24 : decode cX7_interval 24 = .ok (.getfield 242, 3) := by decide +kernel
theorem dX7_interval_27 : decode cX7_interval 27 = .ok (.ireturn, 1) := by decide +kernel
theorem dX7_moebius_0 : decode cX7_moebius 0 = .ok (.aload_n 0, 1) := by decide +kernel
theorem dX7_moebius_1 : decode cX7_moebius 1 = .ok (.iload_n 1, 1) := by decide +kernel
theorem dX7_moebius_2 : decode cX7_moebius 2 = .ok (.iload_n 2, 1) := by decide +kernel
theorem dX7_moebius_3 : decode cX7_moebius 3 = .ok (.iconst 1, 1) := by decide +kernel
theorem dX7_moebius_4 : decode cX7_moebius 4 = .ok (.invokevirtual 221, 3) := by decide +kernel
theorem dX7_moebius_7 : decode cX7_moebius 7 = .ok (.istore_n 3, 1) := by decide +kernel
theorem dX7_moebius_8 : decode cX7_moebius 8 = .ok (.iload_n 3, 1) := by decide +kernel
theorem dX7_moebius_9 : decode cX7_moebius 9 = .ok (.ifCond .eq 10, 3) := by decide +kernel
theorem dX7_moebius_12 : decode cX7_moebius 12 = .ok (.ldc2_w 243, 3) := by decide +kernel
theorem dX7_moebius_15 : decode cX7_moebius 15 = .ok (.iload_n 3, 1) := by decide +kernel
theorem dX7_moebius_16 : decode cX7_moebius 16 = .ok (.i2l, 1) := by decide +kernel
theorem dX7_moebius_17 : decode cX7_moebius 17 = .ok (.ladd, 1) := by decide +kernel
theorem dX7_moebius_18 : decode cX7_moebius 18 = .ok (.lreturn, 1) := by decide +kernel
theorem dX7_moebius_19 : decode cX7_moebius 19 = .ok (.aload_n 0, 1) := by decide +kernel
theorem dX7_moebius_20 : decode cX7_moebius 20 = .ok (.iload_n 1, 1) := by decide +kernel
theorem dX7_moebius_21 : decode cX7_moebius 21 = .ok (.iload_n 2, 1) := by decide +kernel
theorem dX7_moebius_22 : decode cX7_moebius 22 = .ok (.invokevirtual 238, 3) := by decide +kernel
theorem dX7_moebius_25 : decode cX7_moebius 25 = .ok (.aload_n 0, 1) := by decide +kernel
theorem dX7_moebius_26 : decode cX7_moebius 26 = .ok (.getfield 47, 3) := by decide +kernel
theorem dX7_moebius_29 : decode cX7_moebius 29 = .ok (.invokevirtual 245, 3) := by decide +kernel
theorem dX7_moebius_32 : decode cX7_moebius 32 = .ok (.aload_n 0, 1) := by decide +kernel
theorem dX7_moebius_33 : decode cX7_moebius 33 = .ok (.getfield 47, 3) := by decide +kernel
theorem dX7_moebius_36 : decode cX7_moebius 36 = .ok (.invokevirtual 248, 3) := by decide +kernel
theorem dX7_moebius_39 : decode cX7_moebius 39 = .ok (.lreturn, 1) := by decide +kernel
theorem dX7_chains_0 : decode cX7_chains 0 = .ok (.aload_n 0, 1) := by decide +kernel
theorem dX7_chains_1 : decode cX7_chains 1 = .ok (.iload_n 1, 1) := by decide +kernel
theorem dX7_chains_2 : decode cX7_chains 2 = .ok (.iload_n 2, 1) := by decide +kernel
theorem dX7_chains_3 : decode cX7_chains 3 = .ok (.iload_n 3, 1) := by decide +kernel
theorem dX7_chains_4 : decode cX7_chains 4 = .ok (.ifCond .lt 12, 3) := by decide +kernel
theorem dX7_chains_7 : decode cX7_chains 7 = .ok (.iload_n 3, 1) := by decide +kernel
theorem dX7_chains_8 : decode cX7_chains 8 = .ok (.iconst 5, 1) := by decide +kernel
theorem dX7_chains_9 : decode cX7_chains 9 = .ok (.if_icmp .gt 7, 3) := by decide +kernel
theorem dX7_chains_12 : decode cX7_chains 12 = .ok (.iconst 1, 1) := by decide +kernel
theorem dX7_chains_13 : decode cX7_chains 13 = .ok (.goto 4, 3) := by decide +kernel
theorem dX7_chains_16 : decode cX7_chains 16 = .ok (.iconst 0, 1) := by decide +kernel
theorem dX7_chains_17 : decode cX7_chains 17 = .ok (.invokevirtual 221, 3) := by decide +kernel
theorem dX7_chains_20 : decode cX7_chains 20 = .ok (.istore 4, 2) := by decide +kernel
theorem dX7_chains_22 : decode cX7_chains 22 = .ok (.iload 4, 2) := by decide +kernel
theorem dX7_chains_24 : decode cX7_chains 24 = .ok (.ifCond .eq 7, 3) := by decide +kernel
theorem dX7_chains_27 : decode cX7_chains 27 = .ok (.iload 4, 2) := by decide +kernel
theorem dX7_chains_29 : decode cX7_chains 29 = .ok (.i2l, 1) := by decide +kernel
theorem dX7_chains_30 : decode cX7_chains 30 = .ok (.lreturn, 1) := by decide +kernel
theorem dX7_chains_31 : decode cX7_chains 31 = .ok (.aload_n 0, 1) := by decide +kernel
theorem dX7_chains_32 : decode cX7_chains 32 = .ok (.iload_n 1, 1) := by decide +kernel
theorem dX7_chains_33 : decode cX7_chains 33 = .ok (.iload_n 2, 1) := by decide +kernel
theorem dX7_chains_34 : decode cX7_chains 34 = .ok (.invokevirtual 238, 3) := by decide +kernel
theorem dX7_chains_37 : decode cX7_chains 37 = .ok (.aload_n 0, 1) := by decide +kernel
theorem dX7_chains_38 : decode cX7_chains 38 = .ok (.getfield 47, 3) := by decide +kernel
theorem dX7_chains_41 : decode cX7_chains 41 = .ok (.iload_n 3, 1) := by decide +kernel
theorem dX7_chains_42 : decode cX7_chains 42 = .ok (.invokevirtual 252, 3) := by decide +kernel
theorem dX7_chains_45 : decode cX7_chains 45 = .ok (.aload_n 0, 1) := by decide +kernel
theorem dX7_chains_46 : decode cX7_chains 46 = .ok (.getfield 47, 3) := by decide +kernel
theorem dX7_chains_49 : decode cX7_chains 49 = .ok (.invokevirtual 248, 3) := by decide +kernel
theorem dX7_chains_52 : decode cX7_chains 52 = .ok (.lreturn, 1) := by decide +kernel
theorem dX7_maximalChains_0 : decode cX7_maximalChains 0 = .ok (.aload_n 0, 1) := by decide +kernel
theorem dX7_maximalChains_1 : decode cX7_maximalChains 1 = .ok (.iload_n 1, 1) := by decide +kernel
theorem dX7_maximalChains_2 : decode cX7_maximalChains 2 = .ok (.iload_n 2, 1) := by decide +kernel
theorem dX7_maximalChains_3 : decode cX7_maximalChains 3 = .ok (.iconst 1, 1) := by decide +kernel
theorem dX7_maximalChains_4 : decode cX7_maximalChains 4 = .ok (.invokevirtual 221, 3) := by decide +kernel
theorem dX7_maximalChains_7 : decode cX7_maximalChains 7 = .ok (.istore_n 3, 1) := by decide +kernel
theorem dX7_maximalChains_8 : decode cX7_maximalChains 8 = .ok (.iload_n 3, 1) := by decide +kernel
theorem dX7_maximalChains_9 : decode cX7_maximalChains 9 = .ok (.ifCond .eq 6, 3) := by decide +kernel
theorem dX7_maximalChains_12 : decode cX7_maximalChains 12 = .ok (.iload_n 3, 1) := by decide +kernel
theorem dX7_maximalChains_13 : decode cX7_maximalChains 13 = .ok (.i2l, 1) := by decide +kernel
theorem dX7_maximalChains_14 : decode cX7_maximalChains 14 = .ok (.lreturn, 1) := by decide +kernel
theorem dX7_maximalChains_15 : decode cX7_maximalChains 15 = .ok (.aload_n 0, 1) := by decide +kernel
theorem dX7_maximalChains_16 : decode cX7_maximalChains 16 = .ok (.iload_n 1, 1) := by decide +kernel
theorem dX7_maximalChains_17 : decode cX7_maximalChains 17 = .ok (.iload_n 2, 1) := by decide +kernel
theorem dX7_maximalChains_18 : decode cX7_maximalChains 18 = .ok (.invokevirtual 238, 3) := by decide +kernel
theorem dX7_maximalChains_21 : decode cX7_maximalChains 21 = .ok (.aload_n 0, 1) := by decide +kernel
theorem dX7_maximalChains_22 : decode cX7_maximalChains 22 = .ok (.getfield 47, 3) := by decide +kernel
theorem dX7_maximalChains_25 : decode cX7_maximalChains 25 = .ok (.invokevirtual 255, 3) := by decide +kernel
theorem dX7_maximalChains_28 : decode cX7_maximalChains 28 = .ok (.aload_n 0, 1) := by decide +kernel
theorem dX7_maximalChains_29 : decode cX7_maximalChains 29 = .ok (.getfield 47, 3) := by decide +kernel
theorem dX7_maximalChains_32 : decode cX7_maximalChains 32 = .ok (.invokevirtual 248, 3) := by decide +kernel
theorem dX7_maximalChains_35 : decode cX7_maximalChains 35 = .ok (.lreturn, 1) := by decide +kernel
theorem dX7_height_0 : decode cX7_height 0 = .ok (.aload_n 0, 1) := by decide +kernel
theorem dX7_height_1 : decode cX7_height 1 = .ok (.iload_n 1, 1) := by decide +kernel
theorem dX7_height_2 : decode cX7_height 2 = .ok (.iload_n 2, 1) := by decide +kernel
theorem dX7_height_3 : decode cX7_height 3 = .ok (.iconst 1, 1) := by decide +kernel
theorem dX7_height_4 : decode cX7_height 4 = .ok (.invokevirtual 221, 3) := by decide +kernel
theorem dX7_height_7 : decode cX7_height 7 = .ok (.istore_n 3, 1) := by decide +kernel
theorem dX7_height_8 : decode cX7_height 8 = .ok (.iload_n 3, 1) := by decide +kernel
theorem dX7_height_9 : decode cX7_height 9 = .ok (.ifCond .eq 5, 3) := by decide +kernel
theorem dX7_height_12 : decode cX7_height 12 = .ok (.iload_n 3, 1) := by decide +kernel
theorem dX7_height_13 : decode cX7_height 13 = .ok (.ireturn, 1) := by decide +kernel
theorem dX7_height_14 : decode cX7_height 14 = .ok (.aload_n 0, 1) := by decide +kernel
theorem dX7_height_15 : decode cX7_height 15 = .ok (.iload_n 1, 1) := by decide +kernel
theorem dX7_height_16 : decode cX7_height 16 = .ok (.iload_n 2, 1) := by decide +kernel
theorem dX7_height_17 : decode cX7_height 17 = .ok (.invokevirtual 238, 3) := by decide +kernel
theorem dX7_height_20 : decode cX7_height 20 = .ok (.aload_n 0, 1) := by decide +kernel
theorem dX7_height_21 : decode cX7_height 21 = .ok (.getfield 47, 3) := by decide +kernel
theorem dX7_height_24 : decode cX7_height 24 = .ok (.getfield 242, 3) := by decide +kernel
theorem dX7_height_27 : decode cX7_height 27 = .ok (.ifCond .ne 6, 3) := by decide +kernel
theorem dX7_height_30 : decode cX7_height 30 = .ok (.bipush (-9), 2) := by decide +kernel
theorem dX7_height_32 : decode cX7_height 32 = .ok (.ireturn, 1) := by decide +kernel
theorem dX7_height_33 : decode cX7_height 33 = .ok (.aload_n 0, 1) := by decide +kernel
theorem dX7_height_34 : decode cX7_height 34 = .ok (.getfield 47, 3) := by decide +kernel
theorem dX7_height_37 : decode cX7_height 37 = .ok (.invokevirtual 258, 3) := by decide +kernel
theorem dX7_height_40 : decode cX7_height 40 = .ok (.aload_n 0, 1) := by decide +kernel
theorem dX7_height_41 : decode cX7_height 41 = .ok (.getfield 47, 3) := by decide +kernel
theorem dX7_height_44 : decode cX7_height 44 = .ok (.invokevirtual 248, 3) := by decide +kernel
theorem dX7_height_47 : decode cX7_height 47 = .ok (.l2i, 1) := by decide +kernel
theorem dX7_height_48 : decode cX7_height 48 = .ok (.ireturn, 1) := by decide +kernel
theorem dX7_rankSum_0 : decode cX7_rankSum 0 = .ok (.aload_n 0, 1) := by decide +kernel
theorem dX7_rankSum_1 : decode cX7_rankSum 1 = .ok (.iload_n 1, 1) := by decide +kernel
theorem dX7_rankSum_2 : decode cX7_rankSum 2 = .ok (.iload_n 2, 1) := by decide +kernel
theorem dX7_rankSum_3 : decode cX7_rankSum 3 = .ok (.iload_n 3, 1) := by decide +kernel
theorem dX7_rankSum_4 : decode cX7_rankSum 4 = .ok (.invokestatic 261, 3) := by decide +kernel
theorem dX7_rankSum_7 : decode cX7_rankSum 7 = .ok (.invokevirtual 130, 3) := by decide +kernel
theorem dX7_rankSum_10 : decode cX7_rankSum 10 = .ok (.istore 4, 2) := by decide +kernel
theorem dX7_rankSum_12 : decode cX7_rankSum 12 = .ok (.iload 4, 2) := by decide +kernel
theorem dX7_rankSum_14 : decode cX7_rankSum 14 = .ok (.ifCond .eq 11, 3) := by decide +kernel
theorem dX7_rankSum_17 : decode cX7_rankSum 17 = .ok (.ldc2_w 243, 3) := by decide +kernel
theorem dX7_rankSum_20 : decode cX7_rankSum 20 = .ok (.iload 4, 2) := by decide +kernel
theorem dX7_rankSum_22 : decode cX7_rankSum 22 = .ok (.i2l, 1) := by decide +kernel
theorem dX7_rankSum_23 : decode cX7_rankSum 23 = .ok (.ladd, 1) := by decide +kernel
theorem dX7_rankSum_24 : decode cX7_rankSum 24 = .ok (.lreturn, 1) := by decide +kernel
theorem dX7_rankSum_25 : decode cX7_rankSum 25 = .ok (.aload_n 0, 1) := by decide +kernel
theorem dX7_rankSum_26 : decode cX7_rankSum 26 = .ok (.iload_n 1, 1) := by decide +kernel
theorem dX7_rankSum_27 : decode cX7_rankSum 27 = .ok (.iload_n 2, 1) := by decide +kernel
theorem dX7_rankSum_28 : decode cX7_rankSum 28 = .ok (.invokevirtual 238, 3) := by decide +kernel
theorem dX7_rankSum_31 : decode cX7_rankSum 31 = .ok (.aload_n 0, 1) := by decide +kernel
theorem dX7_rankSum_32 : decode cX7_rankSum 32 = .ok (.aload_n 0, 1) := by decide +kernel
theorem dX7_rankSum_33 : decode cX7_rankSum 33 = .ok (.getfield 10, 3) := by decide +kernel
theorem dX7_rankSum_36 : decode cX7_rankSum 36 = .ok (.getfield 133, 3) := by decide +kernel
theorem dX7_rankSum_39 : decode cX7_rankSum 39 = .ok (.iload_n 1, 1) := by decide +kernel
theorem dX7_rankSum_40 : decode cX7_rankSum 40 = .ok (.iaload, 1) := by decide +kernel
theorem dX7_rankSum_41 : decode cX7_rankSum 41 = .ok (.invokevirtual 177, 3) := by decide +kernel
theorem dX7_rankSum_44 : decode cX7_rankSum 44 = .ok (.istore 5, 2) := by decide +kernel
theorem dX7_rankSum_46 : decode cX7_rankSum 46 = .ok (.lconst 0, 1) := by decide +kernel
theorem dX7_rankSum_47 : decode cX7_rankSum 47 = .ok (.lstore 6, 2) := by decide +kernel
theorem dX7_rankSum_49 : decode cX7_rankSum 49 = .ok (.iconst 0, 1) := by decide +kernel
theorem dX7_rankSum_50 : decode cX7_rankSum 50 = .ok (.istore 8, 2) := by decide +kernel
theorem dX7_rankSum_52 : decode cX7_rankSum 52 = .ok (.iload 8, 2) := by decide +kernel
theorem dX7_rankSum_54 : decode cX7_rankSum 54 = .ok (.aload_n 0, 1) := by decide +kernel
theorem dX7_rankSum_55 : decode cX7_rankSum 55 = .ok (.getfield 47, 3) := by decide +kernel
theorem dX7_rankSum_58 : decode cX7_rankSum 58 = .ok (.getfield 242, 3) := by decide +kernel
theorem dX7_rankSum_61 : decode cX7_rankSum 61 = .ok (.if_icmp .ge 31, 3) := by decide +kernel
theorem dX7_rankSum_64 : decode cX7_rankSum 64 = .ok (.lload 6, 2) := by decide +kernel
theorem dX7_rankSum_66 : decode cX7_rankSum 66 = .ok (.iload_n 3, 1) := by decide +kernel
theorem dX7_rankSum_67 : decode cX7_rankSum 67 = .ok (.iload 5, 2) := by decide +kernel
theorem dX7_rankSum_69 : decode cX7_rankSum 69 = .ok (.aload_n 0, 1) := by decide +kernel
theorem dX7_rankSum_70 : decode cX7_rankSum 70 = .ok (.getfield 47, 3) := by decide +kernel
theorem dX7_rankSum_73 : decode cX7_rankSum 73 = .ok (.getfield 264, 3) := by decide +kernel
theorem dX7_rankSum_76 : decode cX7_rankSum 76 = .ok (.iload 8, 2) := by decide +kernel
theorem dX7_rankSum_78 : decode cX7_rankSum 78 = .ok (.iaload, 1) := by decide +kernel
theorem dX7_rankSum_79 : decode cX7_rankSum 79 = .ok (.isub, 1) := by decide +kernel
theorem dX7_rankSum_80 : decode cX7_rankSum 80 = .ok (.invokestatic 267, 3) := by decide +kernel
theorem dX7_rankSum_83 : decode cX7_rankSum 83 = .ok (.ladd, 1) := by decide +kernel
theorem dX7_rankSum_84 : decode cX7_rankSum 84 = .ok (.lstore 6, 2) := by decide +kernel
theorem dX7_rankSum_86 : decode cX7_rankSum 86 = .ok (.iinc 8 1, 3) := by decide +kernel
theorem dX7_rankSum_89 : decode cX7_rankSum 89 = .ok (.goto (-37), 3) := by decide +kernel
theorem dX7_rankSum_92 : decode cX7_rankSum 92 = .ok (.lload 6, 2) := by decide +kernel
theorem dX7_rankSum_94 : decode cX7_rankSum 94 = .ok (.lreturn, 1) := by decide +kernel
theorem dX7_characteristic_0 : decode cX7_characteristic 0 = .ok (.aload_n 0, 1) := by decide +kernel
theorem dX7_characteristic_1 : decode cX7_characteristic 1 = .ok (.iload_n 1, 1) := by decide +kernel
theorem dX7_characteristic_2 : decode cX7_characteristic 2 = .ok (.iload_n 2, 1) := by decide +kernel
theorem dX7_characteristic_3 : decode cX7_characteristic 3 = .ok (.iload_n 3, 1) := by decide +kernel
theorem dX7_characteristic_4 : decode cX7_characteristic 4 = .ok (.invokestatic 261, 3) := by decide +kernel
theorem dX7_characteristic_7 : decode cX7_characteristic 7 = .ok (.invokevirtual 130, 3) := by decide +kernel
theorem dX7_characteristic_10 : decode cX7_characteristic 10 = .ok (.istore 4, 2) := by decide +kernel
theorem dX7_characteristic_12 : decode cX7_characteristic 12 = .ok (.iload 4, 2) := by decide +kernel
theorem dX7_characteristic_14 : decode cX7_characteristic 14 = .ok (.ifCond .ne 28, 3) := by decide +kernel
theorem dX7_characteristic_17 : decode cX7_characteristic 17 = .ok (.aload_n 0, 1) := by decide +kernel
theorem dX7_characteristic_18 : decode cX7_characteristic 18 = .ok (.getfield 40, 3) := by decide +kernel
theorem dX7_characteristic_21 : decode cX7_characteristic 21 = .ok (.aload_n 0, 1) := by decide +kernel
theorem dX7_characteristic_22 : decode cX7_characteristic 22 = .ok (.getfield 10, 3) := by decide +kernel
theorem dX7_characteristic_25 : decode cX7_characteristic 25 = .ok (.getfield 133, 3) := by decide +kernel
theorem dX7_characteristic_28 : decode cX7_characteristic 28 = .ok (.iload_n 1, 1) := by decide +kernel
theorem dX7_characteristic_29 : decode cX7_characteristic 29 = .ok (.iaload, 1) := by decide +kernel
theorem dX7_characteristic_30 : decode cX7_characteristic 30 = .ok (.invokevirtual 195, 3) := by decide +kernel
theorem dX7_characteristic_33 : decode cX7_characteristic 33 = .ok (.bipush (-9), 2) := by decide +kernel
theorem dX7_characteristic_35 : decode cX7_characteristic 35 = .ok (.if_icmp .ne 7, 3) := by decide +kernel
theorem dX7_characteristic_38 : decode cX7_characteristic 38 = .ok (.bipush (-3), 2) := by decide +kernel
theorem dX7_characteristic_40 : decode cX7_characteristic 40 = .ok (.istore 4, 2) := by decide +kernel
theorem dX7_characteristic_42 : decode cX7_characteristic 42 = .ok (.iload 4, 2) := by decide +kernel
theorem dX7_characteristic_44 : decode cX7_characteristic 44 = .ok (.ifCond .eq 11, 3) := by decide +kernel
theorem dX7_characteristic_47 : decode cX7_characteristic 47 = .ok (.ldc2_w 243, 3) := by decide +kernel
theorem dX7_characteristic_50 : decode cX7_characteristic 50 = .ok (.iload 4, 2) := by decide +kernel
theorem dX7_characteristic_52 : decode cX7_characteristic 52 = .ok (.i2l, 1) := by decide +kernel
theorem dX7_characteristic_53 : decode cX7_characteristic 53 = .ok (.ladd, 1) := by decide +kernel
theorem dX7_characteristic_54 : decode cX7_characteristic 54 = .ok (.lreturn, 1) := by decide +kernel
theorem dX7_characteristic_55 : decode cX7_characteristic 55 = .ok (.aload_n 0, 1) := by decide +kernel
theorem dX7_characteristic_56 : decode cX7_characteristic 56 = .ok (.iload_n 1, 1) := by decide +kernel
theorem dX7_characteristic_57 : decode cX7_characteristic 57 = .ok (.iload_n 2, 1) := by decide +kernel
theorem dX7_characteristic_58 : decode cX7_characteristic 58 = .ok (.invokevirtual 238, 3) := by decide +kernel
theorem dX7_characteristic_61 : decode cX7_characteristic 61 = .ok (.aload_n 0, 1) := by decide +kernel
theorem dX7_characteristic_62 : decode cX7_characteristic 62 = .ok (.getfield 47, 3) := by decide +kernel
theorem dX7_characteristic_65 : decode cX7_characteristic 65 = .ok (.invokevirtual 245, 3) := by decide +kernel
theorem dX7_characteristic_68 : decode cX7_characteristic 68 = .ok (.aload_n 0, 1) := by decide +kernel
theorem dX7_characteristic_69 : decode cX7_characteristic 69 = .ok (.aload_n 0, 1) := by decide +kernel
theorem dX7_characteristic_70 : decode cX7_characteristic 70 = .ok (.getfield 10, 3) := by decide +kernel
theorem dX7_characteristic_73 : decode cX7_characteristic 73 = .ok (.getfield 133, 3) := by decide +kernel
theorem dX7_characteristic_76 : decode cX7_characteristic 76 = .ok (.iload_n 2, 1) := by decide +kernel
theorem dX7_characteristic_77 : decode cX7_characteristic 77 = .ok (.iaload, 1) := by decide +kernel
theorem dX7_characteristic_78 : decode cX7_characteristic 78 = .ok (.invokevirtual 177, 3) := by decide +kernel
theorem dX7_characteristic_81 : decode cX7_characteristic 81 = .ok (.istore 5, 2) := by decide +kernel
theorem dX7_characteristic_83 : decode cX7_characteristic 83 = .ok (.lconst 0, 1) := by decide +kernel
theorem dX7_characteristic_84 : decode cX7_characteristic 84 = .ok (.lstore 6, 2) := by decide +kernel
theorem dX7_characteristic_86 : decode cX7_characteristic 86 = .ok (.iconst 0, 1) := by decide +kernel
theorem dX7_characteristic_87 : decode cX7_characteristic 87 = .ok (.istore 8, 2) := by decide +kernel
theorem dX7_characteristic_89 : decode cX7_characteristic 89 = .ok (.iload 8, 2) := by decide +kernel
theorem dX7_characteristic_91 : decode cX7_characteristic 91 = .ok (.aload_n 0, 1) := by decide +kernel
theorem dX7_characteristic_92 : decode cX7_characteristic 92 = .ok (.getfield 47, 3) := by decide +kernel
theorem dX7_characteristic_95 : decode cX7_characteristic 95 = .ok (.getfield 242, 3) := by decide +kernel
theorem dX7_characteristic_98 : decode cX7_characteristic 98 = .ok (.if_icmp .ge 42, 3) := by decide +kernel
theorem dX7_characteristic_101 : decode cX7_characteristic 101 = .ok (.lload 6, 2) := by decide +kernel
theorem dX7_characteristic_103 : decode cX7_characteristic 103 = .ok (.aload_n 0, 1) := by decide +kernel
theorem dX7_characteristic_104 : decode cX7_characteristic 104 = .ok (.getfield 47, 3) := by decide +kernel
theorem dX7_characteristic_107 : decode cX7_characteristic 107 = .ok (.getfield 271, 3) := by decide +kernel
theorem dX7_characteristic_110 : decode cX7_characteristic 110 = .ok (.iload 8, 2) := by decide +kernel
theorem dX7_characteristic_112 : decode cX7_characteristic 112 = .ok (.laload, 1) := by decide +kernel
theorem dX7_characteristic_113 : decode cX7_characteristic 113 = .ok (.iload_n 3, 1) := by decide +kernel
theorem dX7_characteristic_114 : decode cX7_characteristic 114 = .ok (.aload_n 0, 1) := by decide +kernel
theorem dX7_characteristic_115 : decode cX7_characteristic 115 = .ok (.getfield 47, 3) := by decide +kernel
theorem dX7_characteristic_118 : decode cX7_characteristic 118 = .ok (.getfield 264, 3) := by decide +kernel
theorem dX7_characteristic_121 : decode cX7_characteristic 121 = .ok (.iload 8, 2) := by decide +kernel
theorem dX7_characteristic_123 : decode cX7_characteristic 123 = .ok (.iaload, 1) := by decide +kernel
theorem dX7_characteristic_124 : decode cX7_characteristic 124 = .ok (.iload 5, 2) := by decide +kernel
theorem dX7_characteristic_126 : decode cX7_characteristic 126 = .ok (.isub, 1) := by decide +kernel
theorem dX7_characteristic_127 : decode cX7_characteristic 127 = .ok (.invokestatic 267, 3) := by decide +kernel
theorem dX7_characteristic_130 : decode cX7_characteristic 130 = .ok (.lmul, 1) := by decide +kernel
theorem dX7_characteristic_131 : decode cX7_characteristic 131 = .ok (.ladd, 1) := by decide +kernel
theorem dX7_characteristic_132 : decode cX7_characteristic 132 = .ok (.lstore 6, 2) := by decide +kernel
theorem dX7_characteristic_134 : decode cX7_characteristic 134 = .ok (.iinc 8 1, 3) := by decide +kernel
theorem dX7_characteristic_137 : decode cX7_characteristic 137 = .ok (.goto (-48), 3) := by decide +kernel
theorem dX7_characteristic_140 : decode cX7_characteristic 140 = .ok (.lload 6, 2) := by decide +kernel
theorem dX7_characteristic_142 : decode cX7_characteristic 142 = .ok (.lreturn, 1) := by decide +kernel
theorem dX7_transfers_0 : decode cX7_transfers 0 = .ok (.aload_n 0, 1) := by decide +kernel
theorem dX7_transfers_1 : decode cX7_transfers 1 = .ok (.iload_n 1, 1) := by decide +kernel
theorem dX7_transfers_2 : decode cX7_transfers 2 = .ok (.iload_n 2, 1) := by decide +kernel
theorem dX7_transfers_3 : decode cX7_transfers 3 = .ok (.iconst 1, 1) := by decide +kernel
theorem dX7_transfers_4 : decode cX7_transfers 4 = .ok (.invokevirtual 130, 3) := by decide +kernel
theorem dX7_transfers_7 : decode cX7_transfers 7 = .ok (.istore_n 3, 1) := by decide +kernel
theorem dX7_transfers_8 : decode cX7_transfers 8 = .ok (.iload_n 3, 1) := by decide +kernel
theorem dX7_transfers_9 : decode cX7_transfers 9 = .ok (.ifCond .eq 5, 3) := by decide +kernel
theorem dX7_transfers_12 : decode cX7_transfers 12 = .ok (.iload_n 3, 1) := by decide +kernel
theorem dX7_transfers_13 : decode cX7_transfers 13 = .ok (.ireturn, 1) := by decide +kernel
theorem dX7_transfers_14 : decode cX7_transfers 14 = .ok (.aload_n 0, 1) := by decide +kernel
theorem dX7_transfers_15 : decode cX7_transfers 15 = .ok (.iload_n 1, 1) := by decide +kernel
theorem dX7_transfers_16 : decode cX7_transfers 16 = .ok (.invokevirtual 145, 3) := by decide +kernel
theorem dX7_transfers_19 : decode cX7_transfers 19 = .ok (.aload_n 0, 1) := by decide +kernel
theorem dX7_transfers_20 : decode cX7_transfers 20 = .ok (.getfield 58, 3) := by decide +kernel
theorem dX7_transfers_23 : decode cX7_transfers 23 = .ok (.aload_n 0, 1) := by decide +kernel
theorem dX7_transfers_24 : decode cX7_transfers 24 = .ok (.getfield 10, 3) := by decide +kernel
theorem dX7_transfers_27 : decode cX7_transfers 27 = .ok (.getfield 133, 3) := by decide +kernel
theorem dX7_transfers_30 : decode cX7_transfers 30 = .ok (.iload_n 2, 1) := by decide +kernel
theorem dX7_transfers_31 : decode cX7_transfers 31 = .ok (.iaload, 1) := by decide +kernel
theorem dX7_transfers_32 : decode cX7_transfers 32 = .ok (.aload_n 0, 1) := by decide +kernel
theorem dX7_transfers_33 : decode cX7_transfers 33 = .ok (.getfield 10, 3) := by decide +kernel
theorem dX7_transfers_36 : decode cX7_transfers 36 = .ok (.getfield 75, 3) := by decide +kernel
theorem dX7_transfers_39 : decode cX7_transfers 39 = .ok (.invokevirtual 275, 3) := by decide +kernel
theorem dX7_transfers_42 : decode cX7_transfers 42 = .ok (.aload_n 0, 1) := by decide +kernel
theorem dX7_transfers_43 : decode cX7_transfers 43 = .ok (.getfield 10, 3) := by decide +kernel
theorem dX7_transfers_46 : decode cX7_transfers 46 = .ok (.getfield 75, 3) := by decide +kernel
theorem dX7_transfers_49 : decode cX7_transfers 49 = .ok (.aload_n 0, 1) := by decide +kernel
theorem dX7_transfers_50 : decode cX7_transfers 50 = .ok (.invokevirtual 278, 3) := by decide +kernel
theorem dX7_transfers_53 : decode cX7_transfers 53 = .ok (.isub, 1) := by decide +kernel
theorem dX7_transfers_54 : decode cX7_transfers 54 = .ok (.ireturn, 1) := by decide +kernel
theorem dX7_disagreements_0 : decode cX7_disagreements 0 = .ok (.aload_n 0, 1) := by decide +kernel
theorem dX7_disagreements_1 : decode cX7_disagreements 1 = .ok (.iload_n 1, 1) := by decide +kernel
theorem dX7_disagreements_2 : decode cX7_disagreements 2 = .ok (.iload_n 2, 1) := by decide +kernel
theorem dX7_disagreements_3 : decode cX7_disagreements 3 = .ok (.iconst 1, 1) := by decide +kernel
theorem dX7_disagreements_4 : decode cX7_disagreements 4 = .ok (.invokevirtual 130, 3) := by decide +kernel
theorem dX7_disagreements_7 : decode cX7_disagreements 7 = .ok (.istore_n 3, 1) := by decide +kernel
theorem dX7_disagreements_8 : decode cX7_disagreements 8 = .ok (.iload_n 3, 1) := by decide +kernel
theorem dX7_disagreements_9 : decode cX7_disagreements 9 = .ok (.ifCond .eq 5, 3) := by decide +kernel
theorem dX7_disagreements_12 : decode cX7_disagreements 12 = .ok (.iload_n 3, 1) := by decide +kernel
theorem dX7_disagreements_13 : decode cX7_disagreements 13 = .ok (.ireturn, 1) := by decide +kernel
theorem dX7_disagreements_14 : decode cX7_disagreements 14 = .ok (.aload_n 0, 1) := by decide +kernel
theorem dX7_disagreements_15 : decode cX7_disagreements 15 = .ok (.getfield 10, 3) := by decide +kernel
theorem dX7_disagreements_18 : decode cX7_disagreements 18 = .ok (.getfield 133, 3) := by decide +kernel
theorem dX7_disagreements_21 : decode cX7_disagreements 21 = .ok (.iload_n 1, 1) := by decide +kernel
theorem dX7_disagreements_22 : decode cX7_disagreements 22 = .ok (.iaload, 1) := by decide +kernel
theorem dX7_disagreements_23 : decode cX7_disagreements 23 = .ok (.aload_n 0, 1) := by decide +kernel
theorem dX7_disagreements_24 : decode cX7_disagreements 24 = .ok (.getfield 10, 3) := by decide +kernel
theorem dX7_disagreements_27 : decode cX7_disagreements 27 = .ok (.getfield 133, 3) := by decide +kernel
theorem dX7_disagreements_30 : decode cX7_disagreements 30 = .ok (.iload_n 2, 1) := by decide +kernel
theorem dX7_disagreements_31 : decode cX7_disagreements 31 = .ok (.iaload, 1) := by decide +kernel
theorem dX7_disagreements_32 : decode cX7_disagreements 32 = .ok (.ixor, 1) := by decide +kernel
theorem dX7_disagreements_33 : decode cX7_disagreements 33 = .ok (.invokestatic 281, 3) := by decide +kernel
theorem dX7_disagreements_36 : decode cX7_disagreements 36 = .ok (.ireturn, 1) := by decide +kernel
theorem dX7_median_0 : decode cX7_median 0 = .ok (.iload_n 1, 1) := by decide +kernel
theorem dX7_median_1 : decode cX7_median 1 = .ok (.iconst 1, 1) := by decide +kernel
theorem dX7_median_2 : decode cX7_median 2 = .ok (.if_icmp .lt 17, 3) := by decide +kernel
theorem dX7_median_5 : decode cX7_median 5 = .ok (.iload_n 1, 1) := by decide +kernel
theorem dX7_median_6 : decode cX7_median 6 = .ok (.sipush 256, 3) := by decide +kernel
theorem dX7_median_9 : decode cX7_median 9 = .ok (.if_icmp .ge 10, 3) := by decide +kernel
theorem dX7_median_12 : decode cX7_median 12 = .ok (.iload_n 2, 1) := by decide +kernel
theorem dX7_median_13 : decode cX7_median 13 = .ok (.invokestatic 117, 3) := by decide +kernel
theorem dX7_median_16 : decode cX7_median 16 = .ok (.ifCond .ne 5, 3) := by decide +kernel
theorem dX7_median_19 : decode cX7_median 19 = .ok (.iconst (-1), 1) := by decide +kernel
theorem dX7_median_20 : decode cX7_median 20 = .ok (.ireturn, 1) := by decide +kernel
theorem dX7_median_21 : decode cX7_median 21 = .ok (.iconst 0, 1) := by decide +kernel
theorem dX7_median_22 : decode cX7_median 22 = .ok (.istore_n 3, 1) := by decide +kernel
theorem dX7_median_23 : decode cX7_median 23 = .ok (.iload_n 3, 1) := by decide +kernel
theorem dX7_median_24 : decode cX7_median 24 = .ok (.bipush 8, 2) := by decide +kernel
theorem dX7_median_26 : decode cX7_median 26 = .ok (.if_icmp .ge 33, 3) := by decide +kernel
theorem dX7_median_29 : decode cX7_median 29 = .ok (.iload_n 1, 1) := by decide +kernel
theorem dX7_median_30 : decode cX7_median 30 = .ok (.iload_n 3, 1) := by decide +kernel
theorem dX7_median_31 : decode cX7_median 31 = .ok (.ishr, 1) := by decide +kernel
theorem dX7_median_32 : decode cX7_median 32 = .ok (.iconst 1, 1) := by decide +kernel
theorem dX7_median_33 : decode cX7_median 33 = .ok (.iand, 1) := by decide +kernel
theorem dX7_median_34 : decode cX7_median 34 = .ok (.ifCond .eq 19, 3) := by decide +kernel
theorem dX7_median_37 : decode cX7_median 37 = .ok (.aload_n 0, 1) := by decide +kernel
theorem dX7_median_38 : decode cX7_median 38 = .ok (.getfield 10, 3) := by decide +kernel
theorem dX7_median_41 : decode cX7_median 41 = .ok (.getfield 133, 3) := by decide +kernel
theorem dX7_median_44 : decode cX7_median 44 = .ok (.iload_n 3, 1) := by decide +kernel
theorem dX7_median_45 : decode cX7_median 45 = .ok (.iaload, 1) := by decide +kernel
theorem dX7_median_46 : decode cX7_median 46 = .ok (.iconst (-1), 1) := by decide +kernel
theorem dX7_median_47 : decode cX7_median 47 = .ok (.if_icmp .ne 6, 3) := by decide +kernel
theorem dX7_median_50 : decode cX7_median 50 = .ok (.bipush (-2), 2) := by decide +kernel
theorem dX7_median_52 : decode cX7_median 52 = .ok (.ireturn, 1) := by decide +kernel
theorem dX7_median_53 : decode cX7_median 53 = .ok (.iinc 3 1, 3) := by decide +kernel
theorem dX7_median_56 : decode cX7_median 56 = .ok (.goto (-33), 3) := by decide +kernel
theorem dX7_median_59 : decode cX7_median 59 = .ok (.aload_n 0, 1) := by decide +kernel
theorem dX7_median_60 : decode cX7_median 60 = .ok (.getfield 40, 3) := by decide +kernel
theorem dX7_median_63 : decode cX7_median 63 = .ok (.getfield 173, 3) := by decide +kernel
theorem dX7_median_66 : decode cX7_median 66 = .ok (.ifCond .ne 6, 3) := by decide +kernel
theorem dX7_median_69 : decode cX7_median 69 = .ok (.bipush (-3), 2) := by decide +kernel
theorem dX7_median_71 : decode cX7_median 71 = .ok (.ireturn, 1) := by decide +kernel
theorem dX7_median_72 : decode cX7_median 72 = .ok (.iconst 0, 1) := by decide +kernel
theorem dX7_median_73 : decode cX7_median 73 = .ok (.istore_n 3, 1) := by decide +kernel
theorem dX7_median_74 : decode cX7_median 74 = .ok (.aload_n 0, 1) := by decide +kernel
theorem dX7_median_75 : decode cX7_median 75 = .ok (.iload_n 1, 1) := by decide +kernel
theorem dX7_median_76 : decode cX7_median 76 = .ok (.aload_n 0, 1) := by decide +kernel
theorem dX7_median_77 : decode cX7_median 77 = .ok (.getfield 40, 3) := by decide +kernel
theorem dX7_median_80 : decode cX7_median 80 = .ok (.getfield 158, 3) := by decide +kernel
theorem dX7_median_83 : decode cX7_median 83 = .ok (.iconst 0, 1) := by decide +kernel
theorem dX7_median_84 : decode cX7_median 84 = .ok (.iaload, 1) := by decide +kernel
theorem dX7_median_85 : decode cX7_median 85 = .ok (.invokevirtual 286, 3) := by decide +kernel
theorem dX7_median_88 : decode cX7_median 88 = .ok (.istore 4, 2) := by decide +kernel
theorem dX7_median_90 : decode cX7_median 90 = .ok (.iconst 1, 1) := by decide +kernel
theorem dX7_median_91 : decode cX7_median 91 = .ok (.istore 5, 2) := by decide +kernel
theorem dX7_median_93 : decode cX7_median 93 = .ok (.iload 5, 2) := by decide +kernel
theorem dX7_median_95 : decode cX7_median 95 = .ok (.aload_n 0, 1) := by decide +kernel
theorem dX7_median_96 : decode cX7_median 96 = .ok (.getfield 40, 3) := by decide +kernel
theorem dX7_median_99 : decode cX7_median 99 = .ok (.getfield 173, 3) := by decide +kernel
theorem dX7_median_102 : decode cX7_median 102 = .ok (.if_icmp .ge 40, 3) := by decide +kernel
theorem dX7_median_105 : decode cX7_median 105 = .ok (.aload_n 0, 1) := by decide +kernel
theorem dX7_median_106 : decode cX7_median 106 = .ok (.iload_n 1, 1) := by decide +kernel
theorem dX7_median_107 : decode cX7_median 107 = .ok (.aload_n 0, 1) := by decide +kernel
theorem dX7_median_108 : decode cX7_median 108 = .ok (.getfield 40, 3) := by decide +kernel
theorem dX7_median_111 : decode cX7_median 111 = .ok (.getfield 158, 3) := by decide +kernel
theorem dX7_median_114 : decode cX7_median 114 = .ok (.iload 5, 2) := by decide +kernel
theorem dX7_median_116 : decode cX7_median 116 = .ok (.iaload, 1) := by decide +kernel
theorem dX7_median_117 : decode cX7_median 117 = .ok (.invokevirtual 286, 3) := by decide +kernel
theorem dX7_median_120 : decode cX7_median 120 = .ok (.istore 6, 2) := by decide +kernel
theorem dX7_median_122 : decode cX7_median 122 = .ok (.iload 6, 2) := by decide +kernel
theorem dX7_median_124 : decode cX7_median 124 = .ok (.iload 4, 2) := by decide +kernel
theorem dX7_median_126 : decode cX7_median 126 = .ok (.if_icmp .ge 10, 3) := by decide +kernel
theorem dX7_median_129 : decode cX7_median 129 = .ok (.iload 6, 2) := by decide +kernel
theorem dX7_median_131 : decode cX7_median 131 = .ok (.istore 4, 2) := by decide +kernel
theorem dX7_median_133 : decode cX7_median 133 = .ok (.iload 5, 2) := by decide +kernel
theorem dX7_median_135 : decode cX7_median 135 = .ok (.istore_n 3, 1) := by decide +kernel
theorem dX7_median_136 : decode cX7_median 136 = .ok (.iinc 5 1, 3) := by decide +kernel
theorem dX7_median_139 : decode cX7_median 139 = .ok (.goto (-46), 3) := by decide +kernel
theorem dX7_median_142 : decode cX7_median 142 = .ok (.aload_n 0, 1) := by decide +kernel
theorem dX7_median_143 : decode cX7_median 143 = .ok (.iload_n 2, 1) := by decide +kernel
theorem dX7_median_144 : decode cX7_median 144 = .ok (.iload_n 3, 1) := by decide +kernel
theorem dX7_median_145 : decode cX7_median 145 = .ok (.invokevirtual 167, 3) := by decide +kernel
theorem dX7_median_148 : decode cX7_median 148 = .ok (.pop, 1) := by decide +kernel
theorem dX7_median_149 : decode cX7_median 149 = .ok (.iload 4, 2) := by decide +kernel
theorem dX7_median_151 : decode cX7_median 151 = .ok (.ireturn, 1) := by decide +kernel
theorem dX7_undo_0 : decode cX7_undo 0 = .ok (.aload_n 0, 1) := by decide +kernel
theorem dX7_undo_1 : decode cX7_undo 1 = .ok (.getfield 19, 3) := by decide +kernel
theorem dX7_undo_4 : decode cX7_undo 4 = .ok (.aload_n 0, 1) := by decide +kernel
theorem dX7_undo_5 : decode cX7_undo 5 = .ok (.getfield 10, 3) := by decide +kernel
theorem dX7_undo_8 : decode cX7_undo 8 = .ok (.invokevirtual 289, 3) := by decide +kernel
theorem dX7_undo_11 : decode cX7_undo 11 = .ok (.ifCond .ne 6, 3) := by decide +kernel
theorem dX7_undo_14 : decode cX7_undo 14 = .ok (.bipush (-3), 2) := by decide +kernel
theorem dX7_undo_16 : decode cX7_undo 16 = .ok (.ireturn, 1) := by decide +kernel
theorem dX7_undo_17 : decode cX7_undo 17 = .ok (.aload_n 0, 1) := by decide +kernel
theorem dX7_undo_18 : decode cX7_undo 18 = .ok (.invokevirtual 72, 3) := by decide +kernel
theorem dX7_undo_21 : decode cX7_undo 21 = .ok (.aload_n 0, 1) := by decide +kernel
theorem dX7_undo_22 : decode cX7_undo 22 = .ok (.getfield 19, 3) := by decide +kernel
theorem dX7_undo_25 : decode cX7_undo 25 = .ok (.getfield 293, 3) := by decide +kernel
theorem dX7_undo_28 : decode cX7_undo 28 = .ok (.ireturn, 1) := by decide +kernel
theorem dX7_told_0 : decode cX7_told 0 = .ok (.iload_n 1, 1) := by decide +kernel
theorem dX7_told_1 : decode cX7_told 1 = .ok (.tableswitch 137 0 8 #[51, 59, 67, 75, 83, 94, 105, 121, 129], 51) := by decide +kernel
theorem dX7_told_52 : decode cX7_told 52 = .ok (.aload_n 0, 1) := by decide +kernel
theorem dX7_told_53 : decode cX7_told 53 = .ok (.getfield 10, 3) := by decide +kernel
theorem dX7_told_56 : decode cX7_told 56 = .ok (.getfield 75, 3) := by decide +kernel
theorem dX7_told_59 : decode cX7_told 59 = .ok (.ireturn, 1) := by decide +kernel
theorem dX7_told_60 : decode cX7_told 60 = .ok (.aload_n 0, 1) := by decide +kernel
theorem dX7_told_61 : decode cX7_told 61 = .ok (.getfield 10, 3) := by decide +kernel
theorem dX7_told_64 : decode cX7_told 64 = .ok (.invokevirtual 296, 3) := by decide +kernel
theorem dX7_told_67 : decode cX7_told 67 = .ok (.ireturn, 1) := by decide +kernel
theorem dX7_told_68 : decode cX7_told 68 = .ok (.aload_n 0, 1) := by decide +kernel
theorem dX7_told_69 : decode cX7_told 69 = .ok (.getfield 10, 3) := by decide +kernel
theorem dX7_told_72 : decode cX7_told 72 = .ok (.getfield 83, 3) := by decide +kernel
theorem dX7_told_75 : decode cX7_told 75 = .ok (.ireturn, 1) := by decide +kernel
theorem dX7_told_76 : decode cX7_told 76 = .ok (.aload_n 0, 1) := by decide +kernel
theorem dX7_told_77 : decode cX7_told 77 = .ok (.getfield 10, 3) := by decide +kernel
theorem dX7_told_80 : decode cX7_told 80 = .ok (.getfield 90, 3) := by decide +kernel
theorem dX7_told_83 : decode cX7_told 83 = .ok (.ireturn, 1) := by decide +kernel
theorem dX7_told_84 : decode cX7_told 84 = .ok (.aload_n 0, 1) := by decide +kernel
theorem dX7_told_85 : decode cX7_told 85 = .ok (.getfield 10, 3) := by decide +kernel
theorem dX7_told_88 : decode cX7_told 88 = .ok (.getfield 101, 3) := by decide +kernel
theorem dX7_told_91 : decode cX7_told 91 = .ok (.invokestatic 281, 3) := by decide +kernel
theorem dX7_told_94 : decode cX7_told 94 = .ok (.ireturn, 1) := by decide +kernel
theorem dX7_told_95 : decode cX7_told 95 = .ok (.aload_n 0, 1) := by decide +kernel
theorem dX7_told_96 : decode cX7_told 96 = .ok (.getfield 10, 3) := by decide +kernel
theorem dX7_told_99 : decode cX7_told 99 = .ok (.getfield 104, 3) := by decide +kernel
theorem dX7_told_102 : decode cX7_told 102 = .ok (.invokestatic 281, 3) := by decide +kernel
theorem dX7_told_105 : decode cX7_told 105 = .ok (.ireturn, 1) := by decide +kernel
theorem dX7_told_106 : decode cX7_told 106 = .ok (.aload_n 0, 1) := by decide +kernel
theorem dX7_told_107 : decode cX7_told 107 = .ok (.getfield 10, 3) := by decide +kernel
theorem dX7_told_110 : decode cX7_told 110 = .ok (.getfield 107, 3) := by decide +kernel
theorem dX7_told_113 : decode cX7_told 113 = .ok (.ifCond .eq 7, 3) := by decide +kernel
theorem dX7_told_116 : decode cX7_told 116 = .ok (.iconst 1, 1) := by decide +kernel
theorem dX7_told_117 : decode cX7_told 117 = .ok (.goto 4, 3) := by decide +kernel
theorem dX7_told_120 : decode cX7_told 120 = .ok (.iconst 0, 1) := by decide +kernel
theorem dX7_told_121 : decode cX7_told 121 = .ok (.ireturn, 1) := by decide +kernel
theorem dX7_told_122 : decode cX7_told 122 = .ok (.aload_n 0, 1) := by decide +kernel
theorem dX7_told_123 : decode cX7_told 123 = .ok (.getfield 26, 3) := by decide +kernel
theorem dX7_told_126 : decode cX7_told 126 = .ok (.getfield 114, 3) := by decide +kernel
theorem dX7_told_129 : decode cX7_told 129 = .ok (.ireturn, 1) := by decide +kernel
theorem dX7_told_130 : decode cX7_told 130 = .ok (.aload_n 0, 1) := by decide +kernel
theorem dX7_told_131 : decode cX7_told 131 = .ok (.getfield 19, 3) := by decide +kernel
theorem dX7_told_134 : decode cX7_told 134 = .ok (.getfield 293, 3) := by decide +kernel
theorem dX7_told_137 : decode cX7_told 137 = .ok (.ireturn, 1) := by decide +kernel
theorem dX7_told_138 : decode cX7_told 138 = .ok (.iconst (-1), 1) := by decide +kernel
theorem dX7_told_139 : decode cX7_told 139 = .ok (.ireturn, 1) := by decide +kernel
theorem dX7_digest_0 : decode cX7_digest 0 = .ok (.ldc2_w 299, 3) := by decide +kernel
theorem dX7_digest_3 : decode cX7_digest 3 = .ok (.lstore_n 1, 1) := by decide +kernel
theorem dX7_digest_4 : decode cX7_digest 4 = .ok (.iconst 0, 1) := by decide +kernel
theorem dX7_digest_5 : decode cX7_digest 5 = .ok (.istore_n 3, 1) := by decide +kernel
theorem dX7_digest_6 : decode cX7_digest 6 = .ok (.iload_n 3, 1) := by decide +kernel
theorem dX7_digest_7 : decode cX7_digest 7 = .ok (.bipush 8, 2) := by decide +kernel
theorem dX7_digest_9 : decode cX7_digest 9 = .ok (.if_icmp .gt 22, 3) := by decide +kernel
theorem dX7_digest_12 : decode cX7_digest 12 = .ok (.ldc2_w 301, 3) := by decide +kernel
theorem dX7_digest_15 : decode cX7_digest 15 = .ok (.lload_n 1, 1) := by decide +kernel
theorem dX7_digest_16 : decode cX7_digest 16 = .ok (.lmul, 1) := by decide +kernel
theorem dX7_digest_17 : decode cX7_digest 17 = .ok (.aload_n 0, 1) := by decide +kernel
theorem dX7_digest_18 : decode cX7_digest 18 = .ok (.iload_n 3, 1) := by decide +kernel
theorem dX7_digest_19 : decode cX7_digest 19 = .ok (.invokevirtual 303, 3) := by decide +kernel
theorem dX7_digest_22 : decode cX7_digest 22 = .ok (.i2l, 1) := by decide +kernel
theorem dX7_digest_23 : decode cX7_digest 23 = .ok (.ladd, 1) := by decide +kernel
theorem dX7_digest_24 : decode cX7_digest 24 = .ok (.lstore_n 1, 1) := by decide +kernel
theorem dX7_digest_25 : decode cX7_digest 25 = .ok (.iinc 3 1, 3) := by decide +kernel
theorem dX7_digest_28 : decode cX7_digest 28 = .ok (.goto (-22), 3) := by decide +kernel
theorem dX7_digest_31 : decode cX7_digest 31 = .ok (.ldc2_w 301, 3) := by decide +kernel
theorem dX7_digest_34 : decode cX7_digest 34 = .ok (.lload_n 1, 1) := by decide +kernel
theorem dX7_digest_35 : decode cX7_digest 35 = .ok (.lmul, 1) := by decide +kernel
theorem dX7_digest_36 : decode cX7_digest 36 = .ok (.aload_n 0, 1) := by decide +kernel
theorem dX7_digest_37 : decode cX7_digest 37 = .ok (.invokevirtual 306, 3) := by decide +kernel
theorem dX7_digest_40 : decode cX7_digest 40 = .ok (.i2l, 1) := by decide +kernel
theorem dX7_digest_41 : decode cX7_digest 41 = .ok (.ladd, 1) := by decide +kernel
theorem dX7_digest_42 : decode cX7_digest 42 = .ok (.lstore_n 1, 1) := by decide +kernel
theorem dX7_digest_43 : decode cX7_digest 43 = .ok (.iconst 1, 1) := by decide +kernel
theorem dX7_digest_44 : decode cX7_digest 44 = .ok (.istore_n 3, 1) := by decide +kernel
theorem dX7_digest_45 : decode cX7_digest 45 = .ok (.iload_n 3, 1) := by decide +kernel
theorem dX7_digest_46 : decode cX7_digest 46 = .ok (.bipush 6, 2) := by decide +kernel
theorem dX7_digest_48 : decode cX7_digest 48 = .ok (.if_icmp .gt 22, 3) := by decide +kernel
theorem dX7_digest_51 : decode cX7_digest 51 = .ok (.ldc2_w 301, 3) := by decide +kernel
theorem dX7_digest_54 : decode cX7_digest 54 = .ok (.lload_n 1, 1) := by decide +kernel
theorem dX7_digest_55 : decode cX7_digest 55 = .ok (.lmul, 1) := by decide +kernel
theorem dX7_digest_56 : decode cX7_digest 56 = .ok (.aload_n 0, 1) := by decide +kernel
theorem dX7_digest_57 : decode cX7_digest 57 = .ok (.iload_n 3, 1) := by decide +kernel
theorem dX7_digest_58 : decode cX7_digest 58 = .ok (.invokevirtual 309, 3) := by decide +kernel
theorem dX7_digest_61 : decode cX7_digest 61 = .ok (.i2l, 1) := by decide +kernel
theorem dX7_digest_62 : decode cX7_digest 62 = .ok (.ladd, 1) := by decide +kernel
theorem dX7_digest_63 : decode cX7_digest 63 = .ok (.lstore_n 1, 1) := by decide +kernel
theorem dX7_digest_64 : decode cX7_digest 64 = .ok (.iinc 3 1, 3) := by decide +kernel
theorem dX7_digest_67 : decode cX7_digest 67 = .ok (.goto (-22), 3) := by decide +kernel
theorem dX7_digest_70 : decode cX7_digest 70 = .ok (.iconst 0, 1) := by decide +kernel
theorem dX7_digest_71 : decode cX7_digest 71 = .ok (.istore_n 3, 1) := by decide +kernel
theorem dX7_digest_72 : decode cX7_digest 72 = .ok (.iload_n 3, 1) := by decide +kernel
theorem dX7_digest_73 : decode cX7_digest 73 = .ok (.bipush 8, 2) := by decide +kernel
theorem dX7_digest_75 : decode cX7_digest 75 = .ok (.if_icmp .ge 41, 3) := by decide +kernel
theorem dX7_digest_78 : decode cX7_digest 78 = .ok (.aload_n 0, 1) := by decide +kernel
theorem dX7_digest_79 : decode cX7_digest 79 = .ok (.getfield 10, 3) := by decide +kernel
theorem dX7_digest_82 : decode cX7_digest 82 = .ok (.getfield 133, 3) := by decide +kernel
theorem dX7_digest_85 : decode cX7_digest 85 = .ok (.iload_n 3, 1) := by decide +kernel
theorem dX7_digest_86 : decode cX7_digest 86 = .ok (.iaload, 1) := by decide +kernel
theorem dX7_digest_87 : decode cX7_digest 87 = .ok (.iconst (-1), 1) := by decide +kernel
theorem dX7_digest_88 : decode cX7_digest 88 = .ok (.if_icmp .ne 15, 3) := by decide +kernel
theorem dX7_digest_91 : decode cX7_digest 91 = .ok (.ldc2_w 301, 3) := by decide +kernel
theorem dX7_digest_94 : decode cX7_digest 94 = .ok (.lload_n 1, 1) := by decide +kernel
theorem dX7_digest_95 : decode cX7_digest 95 = .ok (.lmul, 1) := by decide +kernel
theorem dX7_digest_96 : decode cX7_digest 96 = .ok (.ldc2_w 312, 3) := by decide +kernel
theorem dX7_digest_99 : decode cX7_digest 99 = .ok (.ladd, 1) := by decide +kernel
theorem dX7_digest_100 : decode cX7_digest 100 = .ok (.goto 9, 3) := by decide +kernel
theorem dX7_digest_103 : decode cX7_digest 103 = .ok (.aload_n 0, 1) := by decide +kernel
theorem dX7_digest_104 : decode cX7_digest 104 = .ok (.lload_n 1, 1) := by decide +kernel
theorem dX7_digest_105 : decode cX7_digest 105 = .ok (.iload_n 3, 1) := by decide +kernel
theorem dX7_digest_106 : decode cX7_digest 106 = .ok (.invokevirtual 314, 3) := by decide +kernel
theorem dX7_digest_109 : decode cX7_digest 109 = .ok (.lstore_n 1, 1) := by decide +kernel
theorem dX7_digest_110 : decode cX7_digest 110 = .ok (.iinc 3 1, 3) := by decide +kernel
theorem dX7_digest_113 : decode cX7_digest 113 = .ok (.goto (-41), 3) := by decide +kernel
theorem dX7_digest_116 : decode cX7_digest 116 = .ok (.lload_n 1, 1) := by decide +kernel
theorem dX7_digest_117 : decode cX7_digest 117 = .ok (.lreturn, 1) := by decide +kernel
theorem dX7_hashOfRegister_0 : decode cX7_hashOfRegister 0 = .ok (.ldc2_w 301, 3) := by decide +kernel
theorem dX7_hashOfRegister_3 : decode cX7_hashOfRegister 3 = .ok (.lload_n 1, 1) := by decide +kernel
theorem dX7_hashOfRegister_4 : decode cX7_hashOfRegister 4 = .ok (.lmul, 1) := by decide +kernel
theorem dX7_hashOfRegister_5 : decode cX7_hashOfRegister 5 = .ok (.aload_n 0, 1) := by decide +kernel
theorem dX7_hashOfRegister_6 : decode cX7_hashOfRegister 6 = .ok (.iload_n 3, 1) := by decide +kernel
theorem dX7_hashOfRegister_7 : decode cX7_hashOfRegister 7 = .ok (.invokevirtual 318, 3) := by decide +kernel
theorem dX7_hashOfRegister_10 : decode cX7_hashOfRegister 10 = .ok (.i2l, 1) := by decide +kernel
theorem dX7_hashOfRegister_11 : decode cX7_hashOfRegister 11 = .ok (.ladd, 1) := by decide +kernel
theorem dX7_hashOfRegister_12 : decode cX7_hashOfRegister 12 = .ok (.lstore 4, 2) := by decide +kernel
theorem dX7_hashOfRegister_14 : decode cX7_hashOfRegister 14 = .ok (.iconst 0, 1) := by decide +kernel
theorem dX7_hashOfRegister_15 : decode cX7_hashOfRegister 15 = .ok (.istore 6, 2) := by decide +kernel
theorem dX7_hashOfRegister_17 : decode cX7_hashOfRegister 17 = .ok (.iload 6, 2) := by decide +kernel
theorem dX7_hashOfRegister_19 : decode cX7_hashOfRegister 19 = .ok (.aload_n 0, 1) := by decide +kernel
theorem dX7_hashOfRegister_20 : decode cX7_hashOfRegister 20 = .ok (.getfield 10, 3) := by decide +kernel
theorem dX7_hashOfRegister_23 : decode cX7_hashOfRegister 23 = .ok (.getfield 75, 3) := by decide +kernel
theorem dX7_hashOfRegister_26 : decode cX7_hashOfRegister 26 = .ok (.if_icmp .ge 26, 3) := by decide +kernel
theorem dX7_hashOfRegister_29 : decode cX7_hashOfRegister 29 = .ok (.ldc2_w 301, 3) := by decide +kernel
theorem dX7_hashOfRegister_32 : decode cX7_hashOfRegister 32 = .ok (.lload 4, 2) := by decide +kernel
theorem dX7_hashOfRegister_34 : decode cX7_hashOfRegister 34 = .ok (.lmul, 1) := by decide +kernel
theorem dX7_hashOfRegister_35 : decode cX7_hashOfRegister 35 = .ok (.aload_n 0, 1) := by decide +kernel
theorem dX7_hashOfRegister_36 : decode cX7_hashOfRegister 36 = .ok (.iload_n 3, 1) := by decide +kernel
theorem dX7_hashOfRegister_37 : decode cX7_hashOfRegister 37 = .ok (.iload 6, 2) := by decide +kernel
theorem dX7_hashOfRegister_39 : decode cX7_hashOfRegister 39 = .ok (.invokevirtual 321, 3) := by decide +kernel
theorem dX7_hashOfRegister_42 : decode cX7_hashOfRegister 42 = .ok (.i2l, 1) := by decide +kernel
theorem dX7_hashOfRegister_43 : decode cX7_hashOfRegister 43 = .ok (.ladd, 1) := by decide +kernel
theorem dX7_hashOfRegister_44 : decode cX7_hashOfRegister 44 = .ok (.lstore 4, 2) := by decide +kernel
theorem dX7_hashOfRegister_46 : decode cX7_hashOfRegister 46 = .ok (.iinc 6 1, 3) := by decide +kernel
theorem dX7_hashOfRegister_49 : decode cX7_hashOfRegister 49 = .ok (.goto (-32), 3) := by decide +kernel
theorem dX7_hashOfRegister_52 : decode cX7_hashOfRegister 52 = .ok (.ldc2_w 301, 3) := by decide +kernel
theorem dX7_hashOfRegister_55 : decode cX7_hashOfRegister 55 = .ok (.lload 4, 2) := by decide +kernel
theorem dX7_hashOfRegister_57 : decode cX7_hashOfRegister 57 = .ok (.lmul, 1) := by decide +kernel
theorem dX7_hashOfRegister_58 : decode cX7_hashOfRegister 58 = .ok (.aload_n 0, 1) := by decide +kernel
theorem dX7_hashOfRegister_59 : decode cX7_hashOfRegister 59 = .ok (.iload_n 3, 1) := by decide +kernel
theorem dX7_hashOfRegister_60 : decode cX7_hashOfRegister 60 = .ok (.invokevirtual 205, 3) := by decide +kernel
theorem dX7_hashOfRegister_63 : decode cX7_hashOfRegister 63 = .ok (.i2l, 1) := by decide +kernel
theorem dX7_hashOfRegister_64 : decode cX7_hashOfRegister 64 = .ok (.ladd, 1) := by decide +kernel
theorem dX7_hashOfRegister_65 : decode cX7_hashOfRegister 65 = .ok (.lstore 4, 2) := by decide +kernel
theorem dX7_hashOfRegister_67 : decode cX7_hashOfRegister 67 = .ok (.ldc2_w 301, 3) := by decide +kernel
theorem dX7_hashOfRegister_70 : decode cX7_hashOfRegister 70 = .ok (.lload 4, 2) := by decide +kernel
theorem dX7_hashOfRegister_72 : decode cX7_hashOfRegister 72 = .ok (.lmul, 1) := by decide +kernel
theorem dX7_hashOfRegister_73 : decode cX7_hashOfRegister 73 = .ok (.aload_n 0, 1) := by decide +kernel
theorem dX7_hashOfRegister_74 : decode cX7_hashOfRegister 74 = .ok (.iload_n 3, 1) := by decide +kernel
theorem dX7_hashOfRegister_75 : decode cX7_hashOfRegister 75 = .ok (.invokevirtual 324, 3) := by decide +kernel
theorem dX7_hashOfRegister_78 : decode cX7_hashOfRegister 78 = .ok (.i2l, 1) := by decide +kernel
theorem dX7_hashOfRegister_79 : decode cX7_hashOfRegister 79 = .ok (.ladd, 1) := by decide +kernel
theorem dX7_hashOfRegister_80 : decode cX7_hashOfRegister 80 = .ok (.lstore 4, 2) := by decide +kernel
theorem dX7_hashOfRegister_82 : decode cX7_hashOfRegister 82 = .ok (.ldc2_w 301, 3) := by decide +kernel
theorem dX7_hashOfRegister_85 : decode cX7_hashOfRegister 85 = .ok (.lload 4, 2) := by decide +kernel
theorem dX7_hashOfRegister_87 : decode cX7_hashOfRegister 87 = .ok (.lmul, 1) := by decide +kernel
theorem dX7_hashOfRegister_88 : decode cX7_hashOfRegister 88 = .ok (.aload_n 0, 1) := by decide +kernel
theorem dX7_hashOfRegister_89 : decode cX7_hashOfRegister 89 = .ok (.iload_n 3, 1) := by decide +kernel
theorem dX7_hashOfRegister_90 : decode cX7_hashOfRegister 90 = .ok (.invokevirtual 327, 3) := by decide +kernel
theorem dX7_hashOfRegister_93 : decode cX7_hashOfRegister 93 = .ok (.i2l, 1) := by decide +kernel
theorem dX7_hashOfRegister_94 : decode cX7_hashOfRegister 94 = .ok (.ladd, 1) := by decide +kernel
theorem dX7_hashOfRegister_95 : decode cX7_hashOfRegister 95 = .ok (.lreturn, 1) := by decide +kernel
theorem dX7_isRegister_0 : decode cX7_isRegister 0 = .ok (.iload_n 0, 1) := by decide +kernel
theorem dX7_isRegister_1 : decode cX7_isRegister 1 = .ok (.ifCond .lt 13, 3) := by decide +kernel
theorem dX7_isRegister_4 : decode cX7_isRegister 4 = .ok (.iload_n 0, 1) := by decide +kernel
theorem dX7_isRegister_5 : decode cX7_isRegister 5 = .ok (.bipush 8, 2) := by decide +kernel
theorem dX7_isRegister_7 : decode cX7_isRegister 7 = .ok (.if_icmp .ge 7, 3) := by decide +kernel
theorem dX7_isRegister_10 : decode cX7_isRegister 10 = .ok (.iconst 1, 1) := by decide +kernel
theorem dX7_isRegister_11 : decode cX7_isRegister 11 = .ok (.goto 4, 3) := by decide +kernel
theorem dX7_isRegister_14 : decode cX7_isRegister 14 = .ok (.iconst 0, 1) := by decide +kernel
theorem dX7_isRegister_15 : decode cX7_isRegister 15 = .ok (.ireturn, 1) := by decide +kernel
theorem dX7_isElement_0 : decode cX7_isElement 0 = .ok (.iload_n 1, 1) := by decide +kernel
theorem dX7_isElement_1 : decode cX7_isElement 1 = .ok (.ifCond .lt 18, 3) := by decide +kernel
theorem dX7_isElement_4 : decode cX7_isElement 4 = .ok (.iload_n 1, 1) := by decide +kernel
theorem dX7_isElement_5 : decode cX7_isElement 5 = .ok (.aload_n 0, 1) := by decide +kernel
theorem dX7_isElement_6 : decode cX7_isElement 6 = .ok (.getfield 10, 3) := by decide +kernel
theorem dX7_isElement_9 : decode cX7_isElement 9 = .ok (.getfield 75, 3) := by decide +kernel
theorem dX7_isElement_12 : decode cX7_isElement 12 = .ok (.if_icmp .ge 7, 3) := by decide +kernel
theorem dX7_isElement_15 : decode cX7_isElement 15 = .ok (.iconst 1, 1) := by decide +kernel
theorem dX7_isElement_16 : decode cX7_isElement 16 = .ok (.goto 4, 3) := by decide +kernel
theorem dX7_isElement_19 : decode cX7_isElement 19 = .ok (.iconst 0, 1) := by decide +kernel
theorem dX7_isElement_20 : decode cX7_isElement 20 = .ok (.ireturn, 1) := by decide +kernel
theorem dX7_isBase_0 : decode cX7_isBase 0 = .ok (.iload_n 0, 1) := by decide +kernel
theorem dX7_isBase_1 : decode cX7_isBase 1 = .ok (.bipush (-9), 2) := by decide +kernel
theorem dX7_isBase_3 : decode cX7_isBase 3 = .ok (.if_icmp .lt 13, 3) := by decide +kernel
theorem dX7_isBase_6 : decode cX7_isBase 6 = .ok (.iload_n 0, 1) := by decide +kernel
theorem dX7_isBase_7 : decode cX7_isBase 7 = .ok (.bipush 9, 2) := by decide +kernel
theorem dX7_isBase_9 : decode cX7_isBase 9 = .ok (.if_icmp .gt 7, 3) := by decide +kernel
theorem dX7_isBase_12 : decode cX7_isBase 12 = .ok (.iconst 1, 1) := by decide +kernel
theorem dX7_isBase_13 : decode cX7_isBase 13 = .ok (.goto 4, 3) := by decide +kernel
theorem dX7_isBase_16 : decode cX7_isBase 16 = .ok (.iconst 0, 1) := by decide +kernel
theorem dX7_isBase_17 : decode cX7_isBase 17 = .ok (.ireturn, 1) := by decide +kernel
theorem dX7_faultOf_0 : decode cX7_faultOf 0 = .ok (.iload_n 3, 1) := by decide +kernel
theorem dX7_faultOf_1 : decode cX7_faultOf 1 = .ok (.ifCond .eq 17, 3) := by decide +kernel
theorem dX7_faultOf_4 : decode cX7_faultOf 4 = .ok (.iload_n 1, 1) := by decide +kernel
theorem dX7_faultOf_5 : decode cX7_faultOf 5 = .ok (.invokestatic 117, 3) := by decide +kernel
theorem dX7_faultOf_8 : decode cX7_faultOf 8 = .ok (.ifCond .eq 10, 3) := by decide +kernel
theorem dX7_faultOf_11 : decode cX7_faultOf 11 = .ok (.iload_n 2, 1) := by decide +kernel
theorem dX7_faultOf_12 : decode cX7_faultOf 12 = .ok (.invokestatic 117, 3) := by decide +kernel
theorem dX7_faultOf_15 : decode cX7_faultOf 15 = .ok (.ifCond .ne 5, 3) := by decide +kernel
theorem dX7_faultOf_18 : decode cX7_faultOf 18 = .ok (.iconst (-1), 1) := by decide +kernel
theorem dX7_faultOf_19 : decode cX7_faultOf 19 = .ok (.ireturn, 1) := by decide +kernel
theorem dX7_faultOf_20 : decode cX7_faultOf 20 = .ok (.aload_n 0, 1) := by decide +kernel
theorem dX7_faultOf_21 : decode cX7_faultOf 21 = .ok (.getfield 10, 3) := by decide +kernel
theorem dX7_faultOf_24 : decode cX7_faultOf 24 = .ok (.getfield 133, 3) := by decide +kernel
theorem dX7_faultOf_27 : decode cX7_faultOf 27 = .ok (.iload_n 1, 1) := by decide +kernel
theorem dX7_faultOf_28 : decode cX7_faultOf 28 = .ok (.iaload, 1) := by decide +kernel
theorem dX7_faultOf_29 : decode cX7_faultOf 29 = .ok (.iconst (-1), 1) := by decide +kernel
theorem dX7_faultOf_30 : decode cX7_faultOf 30 = .ok (.if_icmp .eq 16, 3) := by decide +kernel
theorem dX7_faultOf_33 : decode cX7_faultOf 33 = .ok (.aload_n 0, 1) := by decide +kernel
theorem dX7_faultOf_34 : decode cX7_faultOf 34 = .ok (.getfield 10, 3) := by decide +kernel
theorem dX7_faultOf_37 : decode cX7_faultOf 37 = .ok (.getfield 133, 3) := by decide +kernel
theorem dX7_faultOf_40 : decode cX7_faultOf 40 = .ok (.iload_n 2, 1) := by decide +kernel
theorem dX7_faultOf_41 : decode cX7_faultOf 41 = .ok (.iaload, 1) := by decide +kernel
theorem dX7_faultOf_42 : decode cX7_faultOf 42 = .ok (.iconst (-1), 1) := by decide +kernel
theorem dX7_faultOf_43 : decode cX7_faultOf 43 = .ok (.if_icmp .ne 8, 3) := by decide +kernel
theorem dX7_faultOf_46 : decode cX7_faultOf 46 = .ok (.bipush (-2), 2) := by decide +kernel
theorem dX7_faultOf_48 : decode cX7_faultOf 48 = .ok (.goto 4, 3) := by decide +kernel
theorem dX7_faultOf_51 : decode cX7_faultOf 51 = .ok (.iconst 0, 1) := by decide +kernel
theorem dX7_faultOf_52 : decode cX7_faultOf 52 = .ok (.ireturn, 1) := by decide +kernel
theorem dX7_faultOfAdmitted_0 : decode cX7_faultOfAdmitted 0 = .ok (.aload_n 0, 1) := by decide +kernel
theorem dX7_faultOfAdmitted_1 : decode cX7_faultOfAdmitted 1 = .ok (.iload_n 1, 1) := by decide +kernel
theorem dX7_faultOfAdmitted_2 : decode cX7_faultOfAdmitted 2 = .ok (.iload_n 2, 1) := by decide +kernel
theorem dX7_faultOfAdmitted_3 : decode cX7_faultOfAdmitted 3 = .ok (.iload_n 3, 1) := by decide +kernel
theorem dX7_faultOfAdmitted_4 : decode cX7_faultOfAdmitted 4 = .ok (.invokevirtual 130, 3) := by decide +kernel
theorem dX7_faultOfAdmitted_7 : decode cX7_faultOfAdmitted 7 = .ok (.istore 4, 2) := by decide +kernel
theorem dX7_faultOfAdmitted_9 : decode cX7_faultOfAdmitted 9 = .ok (.iload 4, 2) := by decide +kernel
theorem dX7_faultOfAdmitted_11 : decode cX7_faultOfAdmitted 11 = .ok (.ifCond .eq 6, 3) := by decide +kernel
theorem dX7_faultOfAdmitted_14 : decode cX7_faultOfAdmitted 14 = .ok (.iload 4, 2) := by decide +kernel
theorem dX7_faultOfAdmitted_16 : decode cX7_faultOfAdmitted 16 = .ok (.ireturn, 1) := by decide +kernel
theorem dX7_faultOfAdmitted_17 : decode cX7_faultOfAdmitted 17 = .ok (.aload_n 0, 1) := by decide +kernel
theorem dX7_faultOfAdmitted_18 : decode cX7_faultOfAdmitted 18 = .ok (.getfield 40, 3) := by decide +kernel
theorem dX7_faultOfAdmitted_21 : decode cX7_faultOfAdmitted 21 = .ok (.aload_n 0, 1) := by decide +kernel
theorem dX7_faultOfAdmitted_22 : decode cX7_faultOfAdmitted 22 = .ok (.getfield 10, 3) := by decide +kernel
theorem dX7_faultOfAdmitted_25 : decode cX7_faultOfAdmitted 25 = .ok (.getfield 133, 3) := by decide +kernel
theorem dX7_faultOfAdmitted_28 : decode cX7_faultOfAdmitted 28 = .ok (.iload_n 1, 1) := by decide +kernel
theorem dX7_faultOfAdmitted_29 : decode cX7_faultOfAdmitted 29 = .ok (.iaload, 1) := by decide +kernel
theorem dX7_faultOfAdmitted_30 : decode cX7_faultOfAdmitted 30 = .ok (.invokevirtual 195, 3) := by decide +kernel
theorem dX7_faultOfAdmitted_33 : decode cX7_faultOfAdmitted 33 = .ok (.bipush (-9), 2) := by decide +kernel
theorem dX7_faultOfAdmitted_35 : decode cX7_faultOfAdmitted 35 = .ok (.if_icmp .eq 28, 3) := by decide +kernel
theorem dX7_faultOfAdmitted_38 : decode cX7_faultOfAdmitted 38 = .ok (.aload_n 0, 1) := by decide +kernel
theorem dX7_faultOfAdmitted_39 : decode cX7_faultOfAdmitted 39 = .ok (.getfield 40, 3) := by decide +kernel
theorem dX7_faultOfAdmitted_42 : decode cX7_faultOfAdmitted 42 = .ok (.aload_n 0, 1) := by decide +kernel
theorem dX7_faultOfAdmitted_43 : decode cX7_faultOfAdmitted 43 = .ok (.getfield 10, 3) := by decide +kernel
theorem dX7_faultOfAdmitted_46 : decode cX7_faultOfAdmitted 46 = .ok (.getfield 133, 3) := by decide +kernel
theorem dX7_faultOfAdmitted_49 : decode cX7_faultOfAdmitted 49 = .ok (.iload_n 2, 1) := by decide +kernel
theorem dX7_faultOfAdmitted_50 : decode cX7_faultOfAdmitted 50 = .ok (.iaload, 1) := by decide +kernel
theorem dX7_faultOfAdmitted_51 : decode cX7_faultOfAdmitted 51 = .ok (.invokevirtual 195, 3) := by decide +kernel
theorem dX7_faultOfAdmitted_54 : decode cX7_faultOfAdmitted 54 = .ok (.bipush (-9), 2) := by decide +kernel
theorem dX7_faultOfAdmitted_56 : decode cX7_faultOfAdmitted 56 = .ok (.if_icmp .eq 7, 3) := by decide +kernel
theorem dX7_faultOfAdmitted_59 : decode cX7_faultOfAdmitted 59 = .ok (.iconst 1, 1) := by decide +kernel
theorem dX7_faultOfAdmitted_60 : decode cX7_faultOfAdmitted 60 = .ok (.goto 4, 3) := by decide +kernel
theorem dX7_faultOfAdmitted_63 : decode cX7_faultOfAdmitted 63 = .ok (.iconst 0, 1) := by decide +kernel
theorem dX7_faultOfAdmitted_64 : decode cX7_faultOfAdmitted 64 = .ok (.istore 5, 2) := by decide +kernel
theorem dX7_faultOfAdmitted_66 : decode cX7_faultOfAdmitted 66 = .ok (.iload 5, 2) := by decide +kernel
theorem dX7_faultOfAdmitted_68 : decode cX7_faultOfAdmitted 68 = .ok (.ifCond .eq 7, 3) := by decide +kernel
theorem dX7_faultOfAdmitted_71 : decode cX7_faultOfAdmitted 71 = .ok (.iconst 0, 1) := by decide +kernel
theorem dX7_faultOfAdmitted_72 : decode cX7_faultOfAdmitted 72 = .ok (.goto 5, 3) := by decide +kernel
theorem dX7_faultOfAdmitted_75 : decode cX7_faultOfAdmitted 75 = .ok (.bipush (-3), 2) := by decide +kernel
theorem dX7_faultOfAdmitted_77 : decode cX7_faultOfAdmitted 77 = .ok (.ireturn, 1) := by decide +kernel
theorem dX7_refresh_0 : decode cX7_refresh 0 = .ok (.aload_n 0, 1) := by decide +kernel
theorem dX7_refresh_1 : decode cX7_refresh 1 = .ok (.getfield 33, 3) := by decide +kernel
theorem dX7_refresh_4 : decode cX7_refresh 4 = .ok (.aload_n 0, 1) := by decide +kernel
theorem dX7_refresh_5 : decode cX7_refresh 5 = .ok (.getfield 10, 3) := by decide +kernel
theorem dX7_refresh_8 : decode cX7_refresh 8 = .ok (.getfield 75, 3) := by decide +kernel
theorem dX7_refresh_11 : decode cX7_refresh 11 = .ok (.invokevirtual 330, 3) := by decide +kernel
theorem dX7_refresh_14 : decode cX7_refresh 14 = .ok (.aload_n 0, 1) := by decide +kernel
theorem dX7_refresh_15 : decode cX7_refresh 15 = .ok (.getfield 40, 3) := by decide +kernel
theorem dX7_refresh_18 : decode cX7_refresh 18 = .ok (.aload_n 0, 1) := by decide +kernel
theorem dX7_refresh_19 : decode cX7_refresh 19 = .ok (.getfield 33, 3) := by decide +kernel
theorem dX7_refresh_22 : decode cX7_refresh 22 = .ok (.aload_n 0, 1) := by decide +kernel
theorem dX7_refresh_23 : decode cX7_refresh 23 = .ok (.getfield 10, 3) := by decide +kernel
theorem dX7_refresh_26 : decode cX7_refresh 26 = .ok (.invokevirtual 333, 3) := by decide +kernel
theorem dX7_refresh_29 : decode cX7_refresh 29 = .ok (.return_, 1) := by decide +kernel
theorem dX7_put_0 : decode cX7_put 0 = .ok (.aload_n 0, 1) := by decide +kernel
theorem dX7_put_1 : decode cX7_put 1 = .ok (.getfield 19, 3) := by decide +kernel
theorem dX7_put_4 : decode cX7_put 4 = .ok (.aload_n 0, 1) := by decide +kernel
theorem dX7_put_5 : decode cX7_put 5 = .ok (.getfield 10, 3) := by decide +kernel
theorem dX7_put_8 : decode cX7_put 8 = .ok (.invokevirtual 79, 3) := by decide +kernel
theorem dX7_put_11 : decode cX7_put 11 = .ok (.aload_n 0, 1) := by decide +kernel
theorem dX7_put_12 : decode cX7_put 12 = .ok (.getfield 10, 3) := by decide +kernel
theorem dX7_put_15 : decode cX7_put 15 = .ok (.getfield 133, 3) := by decide +kernel
theorem dX7_put_18 : decode cX7_put 18 = .ok (.iload_n 1, 1) := by decide +kernel
theorem dX7_put_19 : decode cX7_put 19 = .ok (.iload_n 2, 1) := by decide +kernel
theorem dX7_put_20 : decode cX7_put 20 = .ok (.iastore, 1) := by decide +kernel
theorem dX7_put_21 : decode cX7_put 21 = .ok (.aload_n 0, 1) := by decide +kernel
theorem dX7_put_22 : decode cX7_put 22 = .ok (.iload_n 2, 1) := by decide +kernel
theorem dX7_put_23 : decode cX7_put 23 = .ok (.invokevirtual 177, 3) := by decide +kernel
theorem dX7_put_26 : decode cX7_put 26 = .ok (.ireturn, 1) := by decide +kernel
theorem dX7_stepTo_0 : decode cX7_stepTo 0 = .ok (.aload_n 0, 1) := by decide +kernel
theorem dX7_stepTo_1 : decode cX7_stepTo 1 = .ok (.getfield 19, 3) := by decide +kernel
theorem dX7_stepTo_4 : decode cX7_stepTo 4 = .ok (.aload_n 0, 1) := by decide +kernel
theorem dX7_stepTo_5 : decode cX7_stepTo 5 = .ok (.getfield 10, 3) := by decide +kernel
theorem dX7_stepTo_8 : decode cX7_stepTo 8 = .ok (.invokevirtual 79, 3) := by decide +kernel
theorem dX7_stepTo_11 : decode cX7_stepTo 11 = .ok (.aload_n 0, 1) := by decide +kernel
theorem dX7_stepTo_12 : decode cX7_stepTo 12 = .ok (.getfield 40, 3) := by decide +kernel
theorem dX7_stepTo_15 : decode cX7_stepTo 15 = .ok (.iload_n 2, 1) := by decide +kernel
theorem dX7_stepTo_16 : decode cX7_stepTo 16 = .ok (.invokevirtual 155, 3) := by decide +kernel
theorem dX7_stepTo_19 : decode cX7_stepTo 19 = .ok (.ifCond .ne 6, 3) := by decide +kernel
theorem dX7_stepTo_22 : decode cX7_stepTo 22 = .ok (.bipush (-9), 2) := by decide +kernel
theorem dX7_stepTo_24 : decode cX7_stepTo 24 = .ok (.ireturn, 1) := by decide +kernel
theorem dX7_stepTo_25 : decode cX7_stepTo 25 = .ok (.aload_n 0, 1) := by decide +kernel
theorem dX7_stepTo_26 : decode cX7_stepTo 26 = .ok (.getfield 10, 3) := by decide +kernel
theorem dX7_stepTo_29 : decode cX7_stepTo 29 = .ok (.getfield 133, 3) := by decide +kernel
theorem dX7_stepTo_32 : decode cX7_stepTo 32 = .ok (.iload_n 1, 1) := by decide +kernel
theorem dX7_stepTo_33 : decode cX7_stepTo 33 = .ok (.aload_n 0, 1) := by decide +kernel
theorem dX7_stepTo_34 : decode cX7_stepTo 34 = .ok (.getfield 40, 3) := by decide +kernel
theorem dX7_stepTo_37 : decode cX7_stepTo 37 = .ok (.getfield 158, 3) := by decide +kernel
theorem dX7_stepTo_40 : decode cX7_stepTo 40 = .ok (.iload_n 2, 1) := by decide +kernel
theorem dX7_stepTo_41 : decode cX7_stepTo 41 = .ok (.iaload, 1) := by decide +kernel
theorem dX7_stepTo_42 : decode cX7_stepTo 42 = .ok (.iastore, 1) := by decide +kernel
theorem dX7_stepTo_43 : decode cX7_stepTo 43 = .ok (.iload_n 2, 1) := by decide +kernel
theorem dX7_stepTo_44 : decode cX7_stepTo 44 = .ok (.ireturn, 1) := by decide +kernel
theorem dX7_moveElements_0 : decode cX7_moveElements 0 = .ok (.aload_n 0, 1) := by decide +kernel
theorem dX7_moveElements_1 : decode cX7_moveElements 1 = .ok (.getfield 10, 3) := by decide +kernel
theorem dX7_moveElements_4 : decode cX7_moveElements 4 = .ok (.getfield 133, 3) := by decide +kernel
theorem dX7_moveElements_7 : decode cX7_moveElements 7 = .ok (.iload_n 1, 1) := by decide +kernel
theorem dX7_moveElements_8 : decode cX7_moveElements 8 = .ok (.iaload, 1) := by decide +kernel
theorem dX7_moveElements_9 : decode cX7_moveElements 9 = .ok (.istore_n 2, 1) := by decide +kernel
theorem dX7_moveElements_10 : decode cX7_moveElements 10 = .ok (.iconst 0, 1) := by decide +kernel
theorem dX7_moveElements_11 : decode cX7_moveElements 11 = .ok (.istore_n 3, 1) := by decide +kernel
theorem dX7_moveElements_12 : decode cX7_moveElements 12 = .ok (.iconst 0, 1) := by decide +kernel
theorem dX7_moveElements_13 : decode cX7_moveElements 13 = .ok (.istore 4, 2) := by decide +kernel
theorem dX7_moveElements_15 : decode cX7_moveElements 15 = .ok (.iload 4, 2) := by decide +kernel
theorem dX7_moveElements_17 : decode cX7_moveElements 17 = .ok (.bipush 15, 2) := by decide +kernel
theorem dX7_moveElements_19 : decode cX7_moveElements 19 = .ok (.if_icmp .ge 46, 3) := by decide +kernel
theorem dX7_moveElements_22 : decode cX7_moveElements 22 = .ok (.iload_n 2, 1) := by decide +kernel
theorem dX7_moveElements_23 : decode cX7_moveElements 23 = .ok (.iload 4, 2) := by decide +kernel
theorem dX7_moveElements_25 : decode cX7_moveElements 25 = .ok (.ishr, 1) := by decide +kernel
theorem dX7_moveElements_26 : decode cX7_moveElements 26 = .ok (.iconst 1, 1) := by decide +kernel
theorem dX7_moveElements_27 : decode cX7_moveElements 27 = .ok (.iand, 1) := by decide +kernel
theorem dX7_moveElements_28 : decode cX7_moveElements 28 = .ok (.ifCond .eq 31, 3) := by decide +kernel
theorem dX7_moveElements_31 : decode cX7_moveElements 31 = .ok (.iload_n 3, 1) := by decide +kernel
theorem dX7_moveElements_32 : decode cX7_moveElements 32 = .ok (.aload_n 0, 1) := by decide +kernel
theorem dX7_moveElements_33 : decode cX7_moveElements 33 = .ok (.getfield 61, 3) := by decide +kernel
theorem dX7_moveElements_36 : decode cX7_moveElements 36 = .ok (.getstatic 337, 3) := by decide +kernel
theorem dX7_moveElements_39 : decode cX7_moveElements 39 = .ok (.iload 4, 2) := by decide +kernel
theorem dX7_moveElements_41 : decode cX7_moveElements 41 = .ok (.iaload, 1) := by decide +kernel
theorem dX7_moveElements_42 : decode cX7_moveElements 42 = .ok (.iaload, 1) := by decide +kernel
theorem dX7_moveElements_43 : decode cX7_moveElements 43 = .ok (.aload_n 0, 1) := by decide +kernel
theorem dX7_moveElements_44 : decode cX7_moveElements 44 = .ok (.getfield 61, 3) := by decide +kernel
theorem dX7_moveElements_47 : decode cX7_moveElements 47 = .ok (.getstatic 340, 3) := by decide +kernel
theorem dX7_moveElements_50 : decode cX7_moveElements 50 = .ok (.iload 4, 2) := by decide +kernel
theorem dX7_moveElements_52 : decode cX7_moveElements 52 = .ok (.iaload, 1) := by decide +kernel
theorem dX7_moveElements_53 : decode cX7_moveElements 53 = .ok (.iaload, 1) := by decide +kernel
theorem dX7_moveElements_54 : decode cX7_moveElements 54 = .ok (.invokestatic 97, 3) := by decide +kernel
theorem dX7_moveElements_57 : decode cX7_moveElements 57 = .ok (.ior, 1) := by decide +kernel
theorem dX7_moveElements_58 : decode cX7_moveElements 58 = .ok (.istore_n 3, 1) := by decide +kernel
theorem dX7_moveElements_59 : decode cX7_moveElements 59 = .ok (.iinc 4 1, 3) := by decide +kernel
theorem dX7_moveElements_62 : decode cX7_moveElements 62 = .ok (.goto (-47), 3) := by decide +kernel
theorem dX7_moveElements_65 : decode cX7_moveElements 65 = .ok (.aload_n 0, 1) := by decide +kernel
theorem dX7_moveElements_66 : decode cX7_moveElements 66 = .ok (.iload_n 1, 1) := by decide +kernel
theorem dX7_moveElements_67 : decode cX7_moveElements 67 = .ok (.iload_n 3, 1) := by decide +kernel
theorem dX7_moveElements_68 : decode cX7_moveElements 68 = .ok (.invokevirtual 124, 3) := by decide +kernel
theorem dX7_moveElements_71 : decode cX7_moveElements 71 = .ok (.pop, 1) := by decide +kernel
theorem dX7_moveElements_72 : decode cX7_moveElements 72 = .ok (.iload_n 3, 1) := by decide +kernel
theorem dX7_moveElements_73 : decode cX7_moveElements 73 = .ok (.iload_n 2, 1) := by decide +kernel
theorem dX7_moveElements_74 : decode cX7_moveElements 74 = .ok (.if_icmp .eq 7, 3) := by decide +kernel
theorem dX7_moveElements_77 : decode cX7_moveElements 77 = .ok (.iconst 1, 1) := by decide +kernel
theorem dX7_moveElements_78 : decode cX7_moveElements 78 = .ok (.goto 4, 3) := by decide +kernel
theorem dX7_moveElements_81 : decode cX7_moveElements 81 = .ok (.iconst 0, 1) := by decide +kernel
theorem dX7_moveElements_82 : decode cX7_moveElements 82 = .ok (.ireturn, 1) := by decide +kernel
theorem dX7_spellRegister_0 : decode cX7_spellRegister 0 = .ok (.aload_n 0, 1) := by decide +kernel
theorem dX7_spellRegister_1 : decode cX7_spellRegister 1 = .ok (.getfield 54, 3) := by decide +kernel
theorem dX7_spellRegister_4 : decode cX7_spellRegister 4 = .ok (.aload_n 0, 1) := by decide +kernel
theorem dX7_spellRegister_5 : decode cX7_spellRegister 5 = .ok (.getfield 10, 3) := by decide +kernel
theorem dX7_spellRegister_8 : decode cX7_spellRegister 8 = .ok (.getfield 133, 3) := by decide +kernel
theorem dX7_spellRegister_11 : decode cX7_spellRegister 11 = .ok (.iload_n 1, 1) := by decide +kernel
theorem dX7_spellRegister_12 : decode cX7_spellRegister 12 = .ok (.iaload, 1) := by decide +kernel
theorem dX7_spellRegister_13 : decode cX7_spellRegister 13 = .ok (.aload_n 0, 1) := by decide +kernel
theorem dX7_spellRegister_14 : decode cX7_spellRegister 14 = .ok (.getfield 10, 3) := by decide +kernel
theorem dX7_spellRegister_17 : decode cX7_spellRegister 17 = .ok (.getfield 75, 3) := by decide +kernel
theorem dX7_spellRegister_20 : decode cX7_spellRegister 20 = .ok (.invokevirtual 275, 3) := by decide +kernel
theorem dX7_spellRegister_23 : decode cX7_spellRegister 23 = .ok (.return_, 1) := by decide +kernel
theorem dX7_blockCountOf_0 : decode cX7_blockCountOf 0 = .ok (.aload_n 0, 1) := by decide +kernel
theorem dX7_blockCountOf_1 : decode cX7_blockCountOf 1 = .ok (.getfield 54, 3) := by decide +kernel
theorem dX7_blockCountOf_4 : decode cX7_blockCountOf 4 = .ok (.iload_n 1, 1) := by decide +kernel
theorem dX7_blockCountOf_5 : decode cX7_blockCountOf 5 = .ok (.aload_n 0, 1) := by decide +kernel
theorem dX7_blockCountOf_6 : decode cX7_blockCountOf 6 = .ok (.getfield 10, 3) := by decide +kernel
theorem dX7_blockCountOf_9 : decode cX7_blockCountOf 9 = .ok (.getfield 75, 3) := by decide +kernel
theorem dX7_blockCountOf_12 : decode cX7_blockCountOf 12 = .ok (.invokevirtual 275, 3) := by decide +kernel
theorem dX7_blockCountOf_15 : decode cX7_blockCountOf 15 = .ok (.aload_n 0, 1) := by decide +kernel
theorem dX7_blockCountOf_16 : decode cX7_blockCountOf 16 = .ok (.getfield 54, 3) := by decide +kernel
theorem dX7_blockCountOf_19 : decode cX7_blockCountOf 19 = .ok (.getfield 183, 3) := by decide +kernel
theorem dX7_blockCountOf_22 : decode cX7_blockCountOf 22 = .ok (.ireturn, 1) := by decide +kernel
theorem dX7_findNearestBounds_0 : decode cX7_findNearestBounds 0 = .ok (.aload_n 0, 1) := by decide +kernel
theorem dX7_findNearestBounds_1 : decode cX7_findNearestBounds 1 = .ok (.getfield 10, 3) := by decide +kernel
theorem dX7_findNearestBounds_4 : decode cX7_findNearestBounds 4 = .ok (.getfield 133, 3) := by decide +kernel
theorem dX7_findNearestBounds_7 : decode cX7_findNearestBounds 7 = .ok (.iload_n 1, 1) := by decide +kernel
theorem dX7_findNearestBounds_8 : decode cX7_findNearestBounds 8 = .ok (.iaload, 1) := by decide +kernel
theorem dX7_findNearestBounds_9 : decode cX7_findNearestBounds 9 = .ok (.istore 4, 2) := by decide +kernel
theorem dX7_findNearestBounds_11 : decode cX7_findNearestBounds 11 = .ok (.aload_n 0, 1) := by decide +kernel
theorem dX7_findNearestBounds_12 : decode cX7_findNearestBounds 12 = .ok (.getfield 10, 3) := by decide +kernel
theorem dX7_findNearestBounds_15 : decode cX7_findNearestBounds 15 = .ok (.getfield 133, 3) := by decide +kernel
theorem dX7_findNearestBounds_18 : decode cX7_findNearestBounds 18 = .ok (.iload_n 2, 1) := by decide +kernel
theorem dX7_findNearestBounds_19 : decode cX7_findNearestBounds 19 = .ok (.iaload, 1) := by decide +kernel
theorem dX7_findNearestBounds_20 : decode cX7_findNearestBounds 20 = .ok (.istore 5, 2) := by decide +kernel
theorem dX7_findNearestBounds_22 : decode cX7_findNearestBounds 22 = .ok (.aload_n 0, 1) := by decide +kernel
theorem dX7_findNearestBounds_23 : decode cX7_findNearestBounds 23 = .ok (.getfield 40, 3) := by decide +kernel
theorem dX7_findNearestBounds_26 : decode cX7_findNearestBounds 26 = .ok (.iload_n 3, 1) := by decide +kernel
theorem dX7_findNearestBounds_27 : decode cX7_findNearestBounds 27 = .ok (.ifCond .eq 11, 3) := by decide +kernel
theorem dX7_findNearestBounds_30 : decode cX7_findNearestBounds 30 = .ok (.iload 4, 2) := by decide +kernel
theorem dX7_findNearestBounds_32 : decode cX7_findNearestBounds 32 = .ok (.iload 5, 2) := by decide +kernel
theorem dX7_findNearestBounds_34 : decode cX7_findNearestBounds 34 = .ok (.iand, 1) := by decide +kernel
theorem dX7_findNearestBounds_35 : decode cX7_findNearestBounds 35 = .ok (.goto 8, 3) := by decide +kernel
theorem dX7_findNearestBounds_38 : decode cX7_findNearestBounds 38 = .ok (.iload 4, 2) := by decide +kernel
theorem dX7_findNearestBounds_40 : decode cX7_findNearestBounds 40 = .ok (.iload 5, 2) := by decide +kernel
theorem dX7_findNearestBounds_42 : decode cX7_findNearestBounds 42 = .ok (.ior, 1) := by decide +kernel
theorem dX7_findNearestBounds_43 : decode cX7_findNearestBounds 43 = .ok (.iload_n 3, 1) := by decide +kernel
theorem dX7_findNearestBounds_44 : decode cX7_findNearestBounds 44 = .ok (.iconst (-1), 1) := by decide +kernel
theorem dX7_findNearestBounds_45 : decode cX7_findNearestBounds 45 = .ok (.invokevirtual 224, 3) := by decide +kernel
theorem dX7_findNearestBounds_48 : decode cX7_findNearestBounds 48 = .ok (.return_, 1) := by decide +kernel
theorem dX7_selectSpan_0 : decode cX7_selectSpan 0 = .ok (.aload_n 0, 1) := by decide +kernel
theorem dX7_selectSpan_1 : decode cX7_selectSpan 1 = .ok (.getfield 47, 3) := by decide +kernel
theorem dX7_selectSpan_4 : decode cX7_selectSpan 4 = .ok (.aload_n 0, 1) := by decide +kernel
theorem dX7_selectSpan_5 : decode cX7_selectSpan 5 = .ok (.getfield 40, 3) := by decide +kernel
theorem dX7_selectSpan_8 : decode cX7_selectSpan 8 = .ok (.aload_n 0, 1) := by decide +kernel
theorem dX7_selectSpan_9 : decode cX7_selectSpan 9 = .ok (.getfield 10, 3) := by decide +kernel
theorem dX7_selectSpan_12 : decode cX7_selectSpan 12 = .ok (.getfield 133, 3) := by decide +kernel
theorem dX7_selectSpan_15 : decode cX7_selectSpan 15 = .ok (.iload_n 1, 1) := by decide +kernel
theorem dX7_selectSpan_16 : decode cX7_selectSpan 16 = .ok (.iaload, 1) := by decide +kernel
theorem dX7_selectSpan_17 : decode cX7_selectSpan 17 = .ok (.aload_n 0, 1) := by decide +kernel
theorem dX7_selectSpan_18 : decode cX7_selectSpan 18 = .ok (.getfield 10, 3) := by decide +kernel
theorem dX7_selectSpan_21 : decode cX7_selectSpan 21 = .ok (.getfield 133, 3) := by decide +kernel
theorem dX7_selectSpan_24 : decode cX7_selectSpan 24 = .ok (.iload_n 2, 1) := by decide +kernel
theorem dX7_selectSpan_25 : decode cX7_selectSpan 25 = .ok (.iaload, 1) := by decide +kernel
theorem dX7_selectSpan_26 : decode cX7_selectSpan 26 = .ok (.invokevirtual 343, 3) := by decide +kernel
theorem dX7_selectSpan_29 : decode cX7_selectSpan 29 = .ok (.return_, 1) := by decide +kernel
theorem dX7_disagreementsWith_0 : decode cX7_disagreementsWith 0 = .ok (.iconst 0, 1) := by decide +kernel
theorem dX7_disagreementsWith_1 : decode cX7_disagreementsWith 1 = .ok (.istore_n 3, 1) := by decide +kernel
theorem dX7_disagreementsWith_2 : decode cX7_disagreementsWith 2 = .ok (.iconst 0, 1) := by decide +kernel
theorem dX7_disagreementsWith_3 : decode cX7_disagreementsWith 3 = .ok (.istore 4, 2) := by decide +kernel
theorem dX7_disagreementsWith_5 : decode cX7_disagreementsWith 5 = .ok (.iload 4, 2) := by decide +kernel
theorem dX7_disagreementsWith_7 : decode cX7_disagreementsWith 7 = .ok (.bipush 8, 2) := by decide +kernel
theorem dX7_disagreementsWith_9 : decode cX7_disagreementsWith 9 = .ok (.if_icmp .ge 36, 3) := by decide +kernel
theorem dX7_disagreementsWith_12 : decode cX7_disagreementsWith 12 = .ok (.iload_n 1, 1) := by decide +kernel
theorem dX7_disagreementsWith_13 : decode cX7_disagreementsWith 13 = .ok (.iload 4, 2) := by decide +kernel
theorem dX7_disagreementsWith_15 : decode cX7_disagreementsWith 15 = .ok (.ishr, 1) := by decide +kernel
theorem dX7_disagreementsWith_16 : decode cX7_disagreementsWith 16 = .ok (.iconst 1, 1) := by decide +kernel
theorem dX7_disagreementsWith_17 : decode cX7_disagreementsWith 17 = .ok (.iand, 1) := by decide +kernel
theorem dX7_disagreementsWith_18 : decode cX7_disagreementsWith 18 = .ok (.ifCond .eq 21, 3) := by decide +kernel
theorem dX7_disagreementsWith_21 : decode cX7_disagreementsWith 21 = .ok (.iload_n 3, 1) := by decide +kernel
theorem dX7_disagreementsWith_22 : decode cX7_disagreementsWith 22 = .ok (.aload_n 0, 1) := by decide +kernel
theorem dX7_disagreementsWith_23 : decode cX7_disagreementsWith 23 = .ok (.getfield 10, 3) := by decide +kernel
theorem dX7_disagreementsWith_26 : decode cX7_disagreementsWith 26 = .ok (.getfield 133, 3) := by decide +kernel
theorem dX7_disagreementsWith_29 : decode cX7_disagreementsWith 29 = .ok (.iload 4, 2) := by decide +kernel
theorem dX7_disagreementsWith_31 : decode cX7_disagreementsWith 31 = .ok (.iaload, 1) := by decide +kernel
theorem dX7_disagreementsWith_32 : decode cX7_disagreementsWith 32 = .ok (.iload_n 2, 1) := by decide +kernel
theorem dX7_disagreementsWith_33 : decode cX7_disagreementsWith 33 = .ok (.ixor, 1) := by decide +kernel
theorem dX7_disagreementsWith_34 : decode cX7_disagreementsWith 34 = .ok (.invokestatic 281, 3) := by decide +kernel
theorem dX7_disagreementsWith_37 : decode cX7_disagreementsWith 37 = .ok (.iadd, 1) := by decide +kernel
theorem dX7_disagreementsWith_38 : decode cX7_disagreementsWith 38 = .ok (.istore_n 3, 1) := by decide +kernel
theorem dX7_disagreementsWith_39 : decode cX7_disagreementsWith 39 = .ok (.iinc 4 1, 3) := by decide +kernel
theorem dX7_disagreementsWith_42 : decode cX7_disagreementsWith 42 = .ok (.goto (-37), 3) := by decide +kernel
theorem dX7_disagreementsWith_45 : decode cX7_disagreementsWith 45 = .ok (.iload_n 3, 1) := by decide +kernel
theorem dX7_disagreementsWith_46 : decode cX7_disagreementsWith 46 = .ok (.ireturn, 1) := by decide +kernel
theorem dX7_mostThatStay_0 : decode cX7_mostThatStay 0 = .ok (.iconst 1, 1) := by decide +kernel
theorem dX7_mostThatStay_1 : decode cX7_mostThatStay 1 = .ok (.aload_n 0, 1) := by decide +kernel
theorem dX7_mostThatStay_2 : decode cX7_mostThatStay 2 = .ok (.getfield 58, 3) := by decide +kernel
theorem dX7_mostThatStay_5 : decode cX7_mostThatStay 5 = .ok (.getfield 183, 3) := by decide +kernel
theorem dX7_mostThatStay_8 : decode cX7_mostThatStay 8 = .ok (.ishl, 1) := by decide +kernel
theorem dX7_mostThatStay_9 : decode cX7_mostThatStay 9 = .ok (.istore_n 1, 1) := by decide +kernel
theorem dX7_mostThatStay_10 : decode cX7_mostThatStay 10 = .ok (.iconst 0, 1) := by decide +kernel
theorem dX7_mostThatStay_11 : decode cX7_mostThatStay 11 = .ok (.istore_n 2, 1) := by decide +kernel
theorem dX7_mostThatStay_12 : decode cX7_mostThatStay 12 = .ok (.iload_n 2, 1) := by decide +kernel
theorem dX7_mostThatStay_13 : decode cX7_mostThatStay 13 = .ok (.iload_n 1, 1) := by decide +kernel
theorem dX7_mostThatStay_14 : decode cX7_mostThatStay 14 = .ok (.if_icmp .ge 16, 3) := by decide +kernel
theorem dX7_mostThatStay_17 : decode cX7_mostThatStay 17 = .ok (.aload_n 0, 1) := by decide +kernel
theorem dX7_mostThatStay_18 : decode cX7_mostThatStay 18 = .ok (.getfield 65, 3) := by decide +kernel
theorem dX7_mostThatStay_21 : decode cX7_mostThatStay 21 = .ok (.iload_n 2, 1) := by decide +kernel
theorem dX7_mostThatStay_22 : decode cX7_mostThatStay 22 = .ok (.iconst 0, 1) := by decide +kernel
theorem dX7_mostThatStay_23 : decode cX7_mostThatStay 23 = .ok (.iastore, 1) := by decide +kernel
theorem dX7_mostThatStay_24 : decode cX7_mostThatStay 24 = .ok (.iinc 2 1, 3) := by decide +kernel
theorem dX7_mostThatStay_27 : decode cX7_mostThatStay 27 = .ok (.goto (-15), 3) := by decide +kernel
theorem dX7_mostThatStay_30 : decode cX7_mostThatStay 30 = .ok (.iconst 0, 1) := by decide +kernel
theorem dX7_mostThatStay_31 : decode cX7_mostThatStay 31 = .ok (.istore_n 2, 1) := by decide +kernel
theorem dX7_mostThatStay_32 : decode cX7_mostThatStay 32 = .ok (.iload_n 2, 1) := by decide +kernel
theorem dX7_mostThatStay_33 : decode cX7_mostThatStay 33 = .ok (.aload_n 0, 1) := by decide +kernel
theorem dX7_mostThatStay_34 : decode cX7_mostThatStay 34 = .ok (.getfield 54, 3) := by decide +kernel
theorem dX7_mostThatStay_37 : decode cX7_mostThatStay 37 = .ok (.getfield 183, 3) := by decide +kernel
theorem dX7_mostThatStay_40 : decode cX7_mostThatStay 40 = .ok (.if_icmp .ge 44, 3) := by decide +kernel
theorem dX7_mostThatStay_43 : decode cX7_mostThatStay 43 = .ok (.iload_n 1, 1) := by decide +kernel
theorem dX7_mostThatStay_44 : decode cX7_mostThatStay 44 = .ok (.iconst 1, 1) := by decide +kernel
theorem dX7_mostThatStay_45 : decode cX7_mostThatStay 45 = .ok (.isub, 1) := by decide +kernel
theorem dX7_mostThatStay_46 : decode cX7_mostThatStay 46 = .ok (.istore_n 3, 1) := by decide +kernel
theorem dX7_mostThatStay_47 : decode cX7_mostThatStay 47 = .ok (.iload_n 3, 1) := by decide +kernel
theorem dX7_mostThatStay_48 : decode cX7_mostThatStay 48 = .ok (.ifCond .le 30, 3) := by decide +kernel
theorem dX7_mostThatStay_51 : decode cX7_mostThatStay 51 = .ok (.aload_n 0, 1) := by decide +kernel
theorem dX7_mostThatStay_52 : decode cX7_mostThatStay 52 = .ok (.getfield 65, 3) := by decide +kernel
theorem dX7_mostThatStay_55 : decode cX7_mostThatStay 55 = .ok (.iload_n 3, 1) := by decide +kernel
theorem dX7_mostThatStay_56 : decode cX7_mostThatStay 56 = .ok (.aload_n 0, 1) := by decide +kernel
theorem dX7_mostThatStay_57 : decode cX7_mostThatStay 57 = .ok (.getfield 65, 3) := by decide +kernel
theorem dX7_mostThatStay_60 : decode cX7_mostThatStay 60 = .ok (.iload_n 3, 1) := by decide +kernel
theorem dX7_mostThatStay_61 : decode cX7_mostThatStay 61 = .ok (.iaload, 1) := by decide +kernel
theorem dX7_mostThatStay_62 : decode cX7_mostThatStay 62 = .ok (.aload_n 0, 1) := by decide +kernel
theorem dX7_mostThatStay_63 : decode cX7_mostThatStay 63 = .ok (.iload_n 2, 1) := by decide +kernel
theorem dX7_mostThatStay_64 : decode cX7_mostThatStay 64 = .ok (.iload_n 3, 1) := by decide +kernel
theorem dX7_mostThatStay_65 : decode cX7_mostThatStay 65 = .ok (.invokevirtual 346, 3) := by decide +kernel
theorem dX7_mostThatStay_68 : decode cX7_mostThatStay 68 = .ok (.invokestatic 349, 3) := by decide +kernel
theorem dX7_mostThatStay_71 : decode cX7_mostThatStay 71 = .ok (.iastore, 1) := by decide +kernel
theorem dX7_mostThatStay_72 : decode cX7_mostThatStay 72 = .ok (.iinc 3 (-1), 3) := by decide +kernel
theorem dX7_mostThatStay_75 : decode cX7_mostThatStay 75 = .ok (.goto (-28), 3) := by decide +kernel
theorem dX7_mostThatStay_78 : decode cX7_mostThatStay 78 = .ok (.iinc 2 1, 3) := by decide +kernel
theorem dX7_mostThatStay_81 : decode cX7_mostThatStay 81 = .ok (.goto (-49), 3) := by decide +kernel
theorem dX7_mostThatStay_84 : decode cX7_mostThatStay 84 = .ok (.aload_n 0, 1) := by decide +kernel
theorem dX7_mostThatStay_85 : decode cX7_mostThatStay 85 = .ok (.getfield 65, 3) := by decide +kernel
theorem dX7_mostThatStay_88 : decode cX7_mostThatStay 88 = .ok (.iload_n 1, 1) := by decide +kernel
theorem dX7_mostThatStay_89 : decode cX7_mostThatStay 89 = .ok (.iconst 1, 1) := by decide +kernel
theorem dX7_mostThatStay_90 : decode cX7_mostThatStay 90 = .ok (.isub, 1) := by decide +kernel
theorem dX7_mostThatStay_91 : decode cX7_mostThatStay 91 = .ok (.iaload, 1) := by decide +kernel
theorem dX7_mostThatStay_92 : decode cX7_mostThatStay 92 = .ok (.ireturn, 1) := by decide +kernel
theorem dX7_mostWithBlock_0 : decode cX7_mostWithBlock 0 = .ok (.iconst 0, 1) := by decide +kernel
theorem dX7_mostWithBlock_1 : decode cX7_mostWithBlock 1 = .ok (.istore_n 3, 1) := by decide +kernel
theorem dX7_mostWithBlock_2 : decode cX7_mostWithBlock 2 = .ok (.iconst 0, 1) := by decide +kernel
theorem dX7_mostWithBlock_3 : decode cX7_mostWithBlock 3 = .ok (.istore 4, 2) := by decide +kernel
theorem dX7_mostWithBlock_5 : decode cX7_mostWithBlock 5 = .ok (.iload 4, 2) := by decide +kernel
theorem dX7_mostWithBlock_7 : decode cX7_mostWithBlock 7 = .ok (.aload_n 0, 1) := by decide +kernel
theorem dX7_mostWithBlock_8 : decode cX7_mostWithBlock 8 = .ok (.getfield 58, 3) := by decide +kernel
theorem dX7_mostWithBlock_11 : decode cX7_mostWithBlock 11 = .ok (.getfield 183, 3) := by decide +kernel
theorem dX7_mostWithBlock_14 : decode cX7_mostWithBlock 14 = .ok (.if_icmp .ge 64, 3) := by decide +kernel
theorem dX7_mostWithBlock_17 : decode cX7_mostWithBlock 17 = .ok (.iload_n 2, 1) := by decide +kernel
theorem dX7_mostWithBlock_18 : decode cX7_mostWithBlock 18 = .ok (.iload 4, 2) := by decide +kernel
theorem dX7_mostWithBlock_20 : decode cX7_mostWithBlock 20 = .ok (.ishr, 1) := by decide +kernel
theorem dX7_mostWithBlock_21 : decode cX7_mostWithBlock 21 = .ok (.iconst 1, 1) := by decide +kernel
theorem dX7_mostWithBlock_22 : decode cX7_mostWithBlock 22 = .ok (.iand, 1) := by decide +kernel
theorem dX7_mostWithBlock_23 : decode cX7_mostWithBlock 23 = .ok (.ifCond .eq 49, 3) := by decide +kernel
theorem dX7_mostWithBlock_26 : decode cX7_mostWithBlock 26 = .ok (.aload_n 0, 1) := by decide +kernel
theorem dX7_mostWithBlock_27 : decode cX7_mostWithBlock 27 = .ok (.getfield 54, 3) := by decide +kernel
theorem dX7_mostWithBlock_30 : decode cX7_mostWithBlock 30 = .ok (.getfield 186, 3) := by decide +kernel
theorem dX7_mostWithBlock_33 : decode cX7_mostWithBlock 33 = .ok (.iload_n 1, 1) := by decide +kernel
theorem dX7_mostWithBlock_34 : decode cX7_mostWithBlock 34 = .ok (.iaload, 1) := by decide +kernel
theorem dX7_mostWithBlock_35 : decode cX7_mostWithBlock 35 = .ok (.aload_n 0, 1) := by decide +kernel
theorem dX7_mostWithBlock_36 : decode cX7_mostWithBlock 36 = .ok (.getfield 58, 3) := by decide +kernel
theorem dX7_mostWithBlock_39 : decode cX7_mostWithBlock 39 = .ok (.getfield 186, 3) := by decide +kernel
theorem dX7_mostWithBlock_42 : decode cX7_mostWithBlock 42 = .ok (.iload 4, 2) := by decide +kernel
theorem dX7_mostWithBlock_44 : decode cX7_mostWithBlock 44 = .ok (.iaload, 1) := by decide +kernel
theorem dX7_mostWithBlock_45 : decode cX7_mostWithBlock 45 = .ok (.iand, 1) := by decide +kernel
theorem dX7_mostWithBlock_46 : decode cX7_mostWithBlock 46 = .ok (.invokestatic 281, 3) := by decide +kernel
theorem dX7_mostWithBlock_49 : decode cX7_mostWithBlock 49 = .ok (.istore 5, 2) := by decide +kernel
theorem dX7_mostWithBlock_51 : decode cX7_mostWithBlock 51 = .ok (.iload_n 3, 1) := by decide +kernel
theorem dX7_mostWithBlock_52 : decode cX7_mostWithBlock 52 = .ok (.aload_n 0, 1) := by decide +kernel
theorem dX7_mostWithBlock_53 : decode cX7_mostWithBlock 53 = .ok (.getfield 65, 3) := by decide +kernel
theorem dX7_mostWithBlock_56 : decode cX7_mostWithBlock 56 = .ok (.iload_n 2, 1) := by decide +kernel
theorem dX7_mostWithBlock_57 : decode cX7_mostWithBlock 57 = .ok (.iconst 1, 1) := by decide +kernel
theorem dX7_mostWithBlock_58 : decode cX7_mostWithBlock 58 = .ok (.iload 4, 2) := by decide +kernel
theorem dX7_mostWithBlock_60 : decode cX7_mostWithBlock 60 = .ok (.ishl, 1) := by decide +kernel
theorem dX7_mostWithBlock_61 : decode cX7_mostWithBlock 61 = .ok (.iconst (-1), 1) := by decide +kernel
theorem dX7_mostWithBlock_62 : decode cX7_mostWithBlock 62 = .ok (.ixor, 1) := by decide +kernel
theorem dX7_mostWithBlock_63 : decode cX7_mostWithBlock 63 = .ok (.iand, 1) := by decide +kernel
theorem dX7_mostWithBlock_64 : decode cX7_mostWithBlock 64 = .ok (.iaload, 1) := by decide +kernel
theorem dX7_mostWithBlock_65 : decode cX7_mostWithBlock 65 = .ok (.iload 5, 2) := by decide +kernel
theorem dX7_mostWithBlock_67 : decode cX7_mostWithBlock 67 = .ok (.iadd, 1) := by decide +kernel
theorem dX7_mostWithBlock_68 : decode cX7_mostWithBlock 68 = .ok (.invokestatic 349, 3) := by decide +kernel
theorem dX7_mostWithBlock_71 : decode cX7_mostWithBlock 71 = .ok (.istore_n 3, 1) := by decide +kernel
theorem dX7_mostWithBlock_72 : decode cX7_mostWithBlock 72 = .ok (.iinc 4 1, 3) := by decide +kernel
theorem dX7_mostWithBlock_75 : decode cX7_mostWithBlock 75 = .ok (.goto (-70), 3) := by decide +kernel
theorem dX7_mostWithBlock_78 : decode cX7_mostWithBlock 78 = .ok (.iload_n 3, 1) := by decide +kernel
theorem dX7_mostWithBlock_79 : decode cX7_mostWithBlock 79 = .ok (.ireturn, 1) := by decide +kernel
theorem dX7_isBelow_0 : decode cX7_isBelow 0 = .ok (.iload_n 0, 1) := by decide +kernel
theorem dX7_isBelow_1 : decode cX7_isBelow 1 = .ok (.iload_n 1, 1) := by decide +kernel
theorem dX7_isBelow_2 : decode cX7_isBelow 2 = .ok (.iconst (-1), 1) := by decide +kernel
theorem dX7_isBelow_3 : decode cX7_isBelow 3 = .ok (.ixor, 1) := by decide +kernel
theorem dX7_isBelow_4 : decode cX7_isBelow 4 = .ok (.iand, 1) := by decide +kernel
theorem dX7_isBelow_5 : decode cX7_isBelow 5 = .ok (.ifCond .ne 7, 3) := by decide +kernel
theorem dX7_isBelow_8 : decode cX7_isBelow 8 = .ok (.iconst 1, 1) := by decide +kernel
theorem dX7_isBelow_9 : decode cX7_isBelow 9 = .ok (.goto 4, 3) := by decide +kernel
theorem dX7_isBelow_12 : decode cX7_isBelow 12 = .ok (.iconst 0, 1) := by decide +kernel
theorem dX7_isBelow_13 : decode cX7_isBelow 13 = .ok (.ireturn, 1) := by decide +kernel
theorem dX7_withBits_0 : decode cX7_withBits 0 = .ok (.iload_n 2, 1) := by decide +kernel
theorem dX7_withBits_1 : decode cX7_withBits 1 = .ok (.ifCond .eq 9, 3) := by decide +kernel
theorem dX7_withBits_4 : decode cX7_withBits 4 = .ok (.iload_n 0, 1) := by decide +kernel
theorem dX7_withBits_5 : decode cX7_withBits 5 = .ok (.iload_n 1, 1) := by decide +kernel
theorem dX7_withBits_6 : decode cX7_withBits 6 = .ok (.ior, 1) := by decide +kernel
theorem dX7_withBits_7 : decode cX7_withBits 7 = .ok (.goto 8, 3) := by decide +kernel
theorem dX7_withBits_10 : decode cX7_withBits 10 = .ok (.iload_n 0, 1) := by decide +kernel
theorem dX7_withBits_11 : decode cX7_withBits 11 = .ok (.iload_n 1, 1) := by decide +kernel
theorem dX7_withBits_12 : decode cX7_withBits 12 = .ok (.iconst (-1), 1) := by decide +kernel
theorem dX7_withBits_13 : decode cX7_withBits 13 = .ok (.ixor, 1) := by decide +kernel
theorem dX7_withBits_14 : decode cX7_withBits 14 = .ok (.iand, 1) := by decide +kernel
theorem dX7_withBits_15 : decode cX7_withBits 15 = .ok (.ireturn, 1) := by decide +kernel
theorem dX7_pairBit_0 : decode cX7_pairBit 0 = .ok (.iload_n 0, 1) := by decide +kernel
theorem dX7_pairBit_1 : decode cX7_pairBit 1 = .ok (.iload_n 1, 1) := by decide +kernel
theorem dX7_pairBit_2 : decode cX7_pairBit 2 = .ok (.if_icmp .ne 5, 3) := by decide +kernel
theorem dX7_pairBit_5 : decode cX7_pairBit 5 = .ok (.iconst 0, 1) := by decide +kernel
theorem dX7_pairBit_6 : decode cX7_pairBit 6 = .ok (.ireturn, 1) := by decide +kernel
theorem dX7_pairBit_7 : decode cX7_pairBit 7 = .ok (.iload_n 0, 1) := by decide +kernel
theorem dX7_pairBit_8 : decode cX7_pairBit 8 = .ok (.iload_n 1, 1) := by decide +kernel
theorem dX7_pairBit_9 : decode cX7_pairBit 9 = .ok (.if_icmp .ge 7, 3) := by decide +kernel
theorem dX7_pairBit_12 : decode cX7_pairBit 12 = .ok (.iload_n 0, 1) := by decide +kernel
theorem dX7_pairBit_13 : decode cX7_pairBit 13 = .ok (.goto 4, 3) := by decide +kernel
theorem dX7_pairBit_16 : decode cX7_pairBit 16 = .ok (.iload_n 1, 1) := by decide +kernel
theorem dX7_pairBit_17 : decode cX7_pairBit 17 = .ok (.istore_n 2, 1) := by decide +kernel
theorem dX7_pairBit_18 : decode cX7_pairBit 18 = .ok (.iload_n 0, 1) := by decide +kernel
theorem dX7_pairBit_19 : decode cX7_pairBit 19 = .ok (.iload_n 1, 1) := by decide +kernel
theorem dX7_pairBit_20 : decode cX7_pairBit 20 = .ok (.if_icmp .ge 7, 3) := by decide +kernel
theorem dX7_pairBit_23 : decode cX7_pairBit 23 = .ok (.iload_n 1, 1) := by decide +kernel
theorem dX7_pairBit_24 : decode cX7_pairBit 24 = .ok (.goto 4, 3) := by decide +kernel
theorem dX7_pairBit_27 : decode cX7_pairBit 27 = .ok (.iload_n 0, 1) := by decide +kernel
theorem dX7_pairBit_28 : decode cX7_pairBit 28 = .ok (.istore_n 3, 1) := by decide +kernel
theorem dX7_pairBit_29 : decode cX7_pairBit 29 = .ok (.iconst 1, 1) := by decide +kernel
theorem dX7_pairBit_30 : decode cX7_pairBit 30 = .ok (.iload_n 2, 1) := by decide +kernel
theorem dX7_pairBit_31 : decode cX7_pairBit 31 = .ok (.bipush 11, 2) := by decide +kernel
theorem dX7_pairBit_33 : decode cX7_pairBit 33 = .ok (.iload_n 2, 1) := by decide +kernel
theorem dX7_pairBit_34 : decode cX7_pairBit 34 = .ok (.isub, 1) := by decide +kernel
theorem dX7_pairBit_35 : decode cX7_pairBit 35 = .ok (.imul, 1) := by decide +kernel
theorem dX7_pairBit_36 : decode cX7_pairBit 36 = .ok (.iconst 2, 1) := by decide +kernel
theorem dX7_pairBit_37 : decode cX7_pairBit 37 = .ok (.idiv, 1) := by decide +kernel
theorem dX7_pairBit_38 : decode cX7_pairBit 38 = .ok (.iload_n 3, 1) := by decide +kernel
theorem dX7_pairBit_39 : decode cX7_pairBit 39 = .ok (.iadd, 1) := by decide +kernel
theorem dX7_pairBit_40 : decode cX7_pairBit 40 = .ok (.iload_n 2, 1) := by decide +kernel
theorem dX7_pairBit_41 : decode cX7_pairBit 41 = .ok (.isub, 1) := by decide +kernel
theorem dX7_pairBit_42 : decode cX7_pairBit 42 = .ok (.iconst 1, 1) := by decide +kernel
theorem dX7_pairBit_43 : decode cX7_pairBit 43 = .ok (.isub, 1) := by decide +kernel
theorem dX7_pairBit_44 : decode cX7_pairBit 44 = .ok (.ishl, 1) := by decide +kernel
theorem dX7_pairBit_45 : decode cX7_pairBit 45 = .ok (.ireturn, 1) := by decide +kernel
theorem dX7_pairsWith_0 : decode cX7_pairsWith 0 = .ok (.iconst 0, 1) := by decide +kernel
theorem dX7_pairsWith_1 : decode cX7_pairsWith 1 = .ok (.istore_n 2, 1) := by decide +kernel
theorem dX7_pairsWith_2 : decode cX7_pairsWith 2 = .ok (.iconst 0, 1) := by decide +kernel
theorem dX7_pairsWith_3 : decode cX7_pairsWith 3 = .ok (.istore_n 3, 1) := by decide +kernel
theorem dX7_pairsWith_4 : decode cX7_pairsWith 4 = .ok (.iload_n 3, 1) := by decide +kernel
theorem dX7_pairsWith_5 : decode cX7_pairsWith 5 = .ok (.bipush 6, 2) := by decide +kernel
theorem dX7_pairsWith_7 : decode cX7_pairsWith 7 = .ok (.if_icmp .ge 25, 3) := by decide +kernel
theorem dX7_pairsWith_10 : decode cX7_pairsWith 10 = .ok (.iload_n 0, 1) := by decide +kernel
theorem dX7_pairsWith_11 : decode cX7_pairsWith 11 = .ok (.iload_n 3, 1) := by decide +kernel
theorem dX7_pairsWith_12 : decode cX7_pairsWith 12 = .ok (.ishr, 1) := by decide +kernel
theorem dX7_pairsWith_13 : decode cX7_pairsWith 13 = .ok (.iconst 1, 1) := by decide +kernel
theorem dX7_pairsWith_14 : decode cX7_pairsWith 14 = .ok (.iand, 1) := by decide +kernel
theorem dX7_pairsWith_15 : decode cX7_pairsWith 15 = .ok (.ifCond .eq 11, 3) := by decide +kernel
theorem dX7_pairsWith_18 : decode cX7_pairsWith 18 = .ok (.iload_n 2, 1) := by decide +kernel
theorem dX7_pairsWith_19 : decode cX7_pairsWith 19 = .ok (.iload_n 1, 1) := by decide +kernel
theorem dX7_pairsWith_20 : decode cX7_pairsWith 20 = .ok (.iload_n 3, 1) := by decide +kernel
theorem dX7_pairsWith_21 : decode cX7_pairsWith 21 = .ok (.invokestatic 97, 3) := by decide +kernel
theorem dX7_pairsWith_24 : decode cX7_pairsWith 24 = .ok (.ior, 1) := by decide +kernel
theorem dX7_pairsWith_25 : decode cX7_pairsWith 25 = .ok (.istore_n 2, 1) := by decide +kernel
theorem dX7_pairsWith_26 : decode cX7_pairsWith 26 = .ok (.iinc 3 1, 3) := by decide +kernel
theorem dX7_pairsWith_29 : decode cX7_pairsWith 29 = .ok (.goto (-25), 3) := by decide +kernel
theorem dX7_pairsWith_32 : decode cX7_pairsWith 32 = .ok (.iload_n 2, 1) := by decide +kernel
theorem dX7_pairsWith_33 : decode cX7_pairsWith 33 = .ok (.ireturn, 1) := by decide +kernel
theorem dX7_allPairs_0 : decode cX7_allPairs 0 = .ok (.iconst 0, 1) := by decide +kernel
theorem dX7_allPairs_1 : decode cX7_allPairs 1 = .ok (.istore_n 1, 1) := by decide +kernel
theorem dX7_allPairs_2 : decode cX7_allPairs 2 = .ok (.iconst 0, 1) := by decide +kernel
theorem dX7_allPairs_3 : decode cX7_allPairs 3 = .ok (.istore_n 2, 1) := by decide +kernel
theorem dX7_allPairs_4 : decode cX7_allPairs 4 = .ok (.iload_n 2, 1) := by decide +kernel
theorem dX7_allPairs_5 : decode cX7_allPairs 5 = .ok (.bipush 15, 2) := by decide +kernel
theorem dX7_allPairs_7 : decode cX7_allPairs 7 = .ok (.if_icmp .ge 24, 3) := by decide +kernel
theorem dX7_allPairs_10 : decode cX7_allPairs 10 = .ok (.getstatic 340, 3) := by decide +kernel
theorem dX7_allPairs_13 : decode cX7_allPairs 13 = .ok (.iload_n 2, 1) := by decide +kernel
theorem dX7_allPairs_14 : decode cX7_allPairs 14 = .ok (.iaload, 1) := by decide +kernel
theorem dX7_allPairs_15 : decode cX7_allPairs 15 = .ok (.iload_n 0, 1) := by decide +kernel
theorem dX7_allPairs_16 : decode cX7_allPairs 16 = .ok (.if_icmp .ge 9, 3) := by decide +kernel
theorem dX7_allPairs_19 : decode cX7_allPairs 19 = .ok (.iload_n 1, 1) := by decide +kernel
theorem dX7_allPairs_20 : decode cX7_allPairs 20 = .ok (.iconst 1, 1) := by decide +kernel
theorem dX7_allPairs_21 : decode cX7_allPairs 21 = .ok (.iload_n 2, 1) := by decide +kernel
theorem dX7_allPairs_22 : decode cX7_allPairs 22 = .ok (.ishl, 1) := by decide +kernel
theorem dX7_allPairs_23 : decode cX7_allPairs 23 = .ok (.ior, 1) := by decide +kernel
theorem dX7_allPairs_24 : decode cX7_allPairs 24 = .ok (.istore_n 1, 1) := by decide +kernel
theorem dX7_allPairs_25 : decode cX7_allPairs 25 = .ok (.iinc 2 1, 3) := by decide +kernel
theorem dX7_allPairs_28 : decode cX7_allPairs 28 = .ok (.goto (-24), 3) := by decide +kernel
theorem dX7_allPairs_31 : decode cX7_allPairs 31 = .ok (.iload_n 1, 1) := by decide +kernel
theorem dX7_allPairs_32 : decode cX7_allPairs 32 = .ok (.ireturn, 1) := by decide +kernel
theorem dX7_firstPair_0 : decode cX7_firstPair 0 = .ok (.iconst 0, 1) := by decide +kernel
theorem dX7_firstPair_1 : decode cX7_firstPair 1 = .ok (.istore_n 1, 1) := by decide +kernel
theorem dX7_firstPair_2 : decode cX7_firstPair 2 = .ok (.iload_n 1, 1) := by decide +kernel
theorem dX7_firstPair_3 : decode cX7_firstPair 3 = .ok (.bipush 15, 2) := by decide +kernel
theorem dX7_firstPair_5 : decode cX7_firstPair 5 = .ok (.if_icmp .ge 32, 3) := by decide +kernel
theorem dX7_firstPair_8 : decode cX7_firstPair 8 = .ok (.iload_n 0, 1) := by decide +kernel
theorem dX7_firstPair_9 : decode cX7_firstPair 9 = .ok (.iload_n 1, 1) := by decide +kernel
theorem dX7_firstPair_10 : decode cX7_firstPair 10 = .ok (.ishr, 1) := by decide +kernel
theorem dX7_firstPair_11 : decode cX7_firstPair 11 = .ok (.iconst 1, 1) := by decide +kernel
theorem dX7_firstPair_12 : decode cX7_firstPair 12 = .ok (.iand, 1) := by decide +kernel
theorem dX7_firstPair_13 : decode cX7_firstPair 13 = .ok (.ifCond .eq 18, 3) := by decide +kernel
theorem dX7_firstPair_16 : decode cX7_firstPair 16 = .ok (.bipush 10, 2) := by decide +kernel
theorem dX7_firstPair_18 : decode cX7_firstPair 18 = .ok (.getstatic 337, 3) := by decide +kernel
theorem dX7_firstPair_21 : decode cX7_firstPair 21 = .ok (.iload_n 1, 1) := by decide +kernel
theorem dX7_firstPair_22 : decode cX7_firstPair 22 = .ok (.iaload, 1) := by decide +kernel
theorem dX7_firstPair_23 : decode cX7_firstPair 23 = .ok (.imul, 1) := by decide +kernel
theorem dX7_firstPair_24 : decode cX7_firstPair 24 = .ok (.getstatic 340, 3) := by decide +kernel
theorem dX7_firstPair_27 : decode cX7_firstPair 27 = .ok (.iload_n 1, 1) := by decide +kernel
theorem dX7_firstPair_28 : decode cX7_firstPair 28 = .ok (.iaload, 1) := by decide +kernel
theorem dX7_firstPair_29 : decode cX7_firstPair 29 = .ok (.iadd, 1) := by decide +kernel
theorem dX7_firstPair_30 : decode cX7_firstPair 30 = .ok (.ireturn, 1) := by decide +kernel
theorem dX7_firstPair_31 : decode cX7_firstPair 31 = .ok (.iinc 1 1, 3) := by decide +kernel
theorem dX7_firstPair_34 : decode cX7_firstPair 34 = .ok (.goto (-32), 3) := by decide +kernel
theorem dX7_firstPair_37 : decode cX7_firstPair 37 = .ok (.bipush (-9), 2) := by decide +kernel
theorem dX7_firstPair_39 : decode cX7_firstPair 39 = .ok (.ireturn, 1) := by decide +kernel
theorem dX7_complementOf_0 : decode cX7_complementOf 0 = .ok (.iconst 0, 1) := by decide +kernel
theorem dX7_complementOf_1 : decode cX7_complementOf 1 = .ok (.istore_n 2, 1) := by decide +kernel
theorem dX7_complementOf_2 : decode cX7_complementOf 2 = .ok (.iconst 0, 1) := by decide +kernel
theorem dX7_complementOf_3 : decode cX7_complementOf 3 = .ok (.istore_n 3, 1) := by decide +kernel
theorem dX7_complementOf_4 : decode cX7_complementOf 4 = .ok (.iload_n 3, 1) := by decide +kernel
theorem dX7_complementOf_5 : decode cX7_complementOf 5 = .ok (.bipush 15, 2) := by decide +kernel
theorem dX7_complementOf_7 : decode cX7_complementOf 7 = .ok (.if_icmp .ge 41, 3) := by decide +kernel
theorem dX7_complementOf_10 : decode cX7_complementOf 10 = .ok (.getstatic 340, 3) := by decide +kernel
theorem dX7_complementOf_13 : decode cX7_complementOf 13 = .ok (.iload_n 3, 1) := by decide +kernel
theorem dX7_complementOf_14 : decode cX7_complementOf 14 = .ok (.iaload, 1) := by decide +kernel
theorem dX7_complementOf_15 : decode cX7_complementOf 15 = .ok (.iload_n 1, 1) := by decide +kernel
theorem dX7_complementOf_16 : decode cX7_complementOf 16 = .ok (.if_icmp .ge 26, 3) := by decide +kernel
theorem dX7_complementOf_19 : decode cX7_complementOf 19 = .ok (.iload_n 0, 1) := by decide +kernel
theorem dX7_complementOf_20 : decode cX7_complementOf 20 = .ok (.getstatic 337, 3) := by decide +kernel
theorem dX7_complementOf_23 : decode cX7_complementOf 23 = .ok (.iload_n 3, 1) := by decide +kernel
theorem dX7_complementOf_24 : decode cX7_complementOf 24 = .ok (.iaload, 1) := by decide +kernel
theorem dX7_complementOf_25 : decode cX7_complementOf 25 = .ok (.getstatic 340, 3) := by decide +kernel
theorem dX7_complementOf_28 : decode cX7_complementOf 28 = .ok (.iload_n 3, 1) := by decide +kernel
theorem dX7_complementOf_29 : decode cX7_complementOf 29 = .ok (.iaload, 1) := by decide +kernel
theorem dX7_complementOf_30 : decode cX7_complementOf 30 = .ok (.invokestatic 354, 3) := by decide +kernel
theorem dX7_complementOf_33 : decode cX7_complementOf 33 = .ok (.ifCond .ne 9, 3) := by decide +kernel
theorem dX7_complementOf_36 : decode cX7_complementOf 36 = .ok (.iload_n 2, 1) := by decide +kernel
theorem dX7_complementOf_37 : decode cX7_complementOf 37 = .ok (.iconst 1, 1) := by decide +kernel
theorem dX7_complementOf_38 : decode cX7_complementOf 38 = .ok (.iload_n 3, 1) := by decide +kernel
theorem dX7_complementOf_39 : decode cX7_complementOf 39 = .ok (.ishl, 1) := by decide +kernel
theorem dX7_complementOf_40 : decode cX7_complementOf 40 = .ok (.ior, 1) := by decide +kernel
theorem dX7_complementOf_41 : decode cX7_complementOf 41 = .ok (.istore_n 2, 1) := by decide +kernel
theorem dX7_complementOf_42 : decode cX7_complementOf 42 = .ok (.iinc 3 1, 3) := by decide +kernel
theorem dX7_complementOf_45 : decode cX7_complementOf 45 = .ok (.goto (-41), 3) := by decide +kernel
theorem dX7_complementOf_48 : decode cX7_complementOf 48 = .ok (.iload_n 2, 1) := by decide +kernel
theorem dX7_complementOf_49 : decode cX7_complementOf 49 = .ok (.ireturn, 1) := by decide +kernel
theorem dX7_isSplit_0 : decode cX7_isSplit 0 = .ok (.iconst 0, 1) := by decide +kernel
theorem dX7_isSplit_1 : decode cX7_isSplit 1 = .ok (.istore_n 3, 1) := by decide +kernel
theorem dX7_isSplit_2 : decode cX7_isSplit 2 = .ok (.iload_n 3, 1) := by decide +kernel
theorem dX7_isSplit_3 : decode cX7_isSplit 3 = .ok (.bipush 15, 2) := by decide +kernel
theorem dX7_isSplit_5 : decode cX7_isSplit 5 = .ok (.if_icmp .ge 76, 3) := by decide +kernel
theorem dX7_isSplit_8 : decode cX7_isSplit 8 = .ok (.iload_n 1, 1) := by decide +kernel
theorem dX7_isSplit_9 : decode cX7_isSplit 9 = .ok (.getstatic 337, 3) := by decide +kernel
theorem dX7_isSplit_12 : decode cX7_isSplit 12 = .ok (.iload_n 3, 1) := by decide +kernel
theorem dX7_isSplit_13 : decode cX7_isSplit 13 = .ok (.iaload, 1) := by decide +kernel
theorem dX7_isSplit_14 : decode cX7_isSplit 14 = .ok (.if_icmp .ge 16, 3) := by decide +kernel
theorem dX7_isSplit_17 : decode cX7_isSplit 17 = .ok (.getstatic 337, 3) := by decide +kernel
theorem dX7_isSplit_20 : decode cX7_isSplit 20 = .ok (.iload_n 3, 1) := by decide +kernel
theorem dX7_isSplit_21 : decode cX7_isSplit 21 = .ok (.iaload, 1) := by decide +kernel
theorem dX7_isSplit_22 : decode cX7_isSplit 22 = .ok (.iload_n 2, 1) := by decide +kernel
theorem dX7_isSplit_23 : decode cX7_isSplit 23 = .ok (.if_icmp .gt 7, 3) := by decide +kernel
theorem dX7_isSplit_26 : decode cX7_isSplit 26 = .ok (.iconst 1, 1) := by decide +kernel
theorem dX7_isSplit_27 : decode cX7_isSplit 27 = .ok (.goto 4, 3) := by decide +kernel
theorem dX7_isSplit_30 : decode cX7_isSplit 30 = .ok (.iconst 0, 1) := by decide +kernel
theorem dX7_isSplit_31 : decode cX7_isSplit 31 = .ok (.istore 4, 2) := by decide +kernel
theorem dX7_isSplit_33 : decode cX7_isSplit 33 = .ok (.iload_n 1, 1) := by decide +kernel
theorem dX7_isSplit_34 : decode cX7_isSplit 34 = .ok (.getstatic 340, 3) := by decide +kernel
theorem dX7_isSplit_37 : decode cX7_isSplit 37 = .ok (.iload_n 3, 1) := by decide +kernel
theorem dX7_isSplit_38 : decode cX7_isSplit 38 = .ok (.iaload, 1) := by decide +kernel
theorem dX7_isSplit_39 : decode cX7_isSplit 39 = .ok (.if_icmp .ge 16, 3) := by decide +kernel
theorem dX7_isSplit_42 : decode cX7_isSplit 42 = .ok (.getstatic 340, 3) := by decide +kernel
theorem dX7_isSplit_45 : decode cX7_isSplit 45 = .ok (.iload_n 3, 1) := by decide +kernel
theorem dX7_isSplit_46 : decode cX7_isSplit 46 = .ok (.iaload, 1) := by decide +kernel
theorem dX7_isSplit_47 : decode cX7_isSplit 47 = .ok (.iload_n 2, 1) := by decide +kernel
theorem dX7_isSplit_48 : decode cX7_isSplit 48 = .ok (.if_icmp .gt 7, 3) := by decide +kernel
theorem dX7_isSplit_51 : decode cX7_isSplit 51 = .ok (.iconst 1, 1) := by decide +kernel
theorem dX7_isSplit_52 : decode cX7_isSplit 52 = .ok (.goto 4, 3) := by decide +kernel
theorem dX7_isSplit_55 : decode cX7_isSplit 55 = .ok (.iconst 0, 1) := by decide +kernel
theorem dX7_isSplit_56 : decode cX7_isSplit 56 = .ok (.istore 5, 2) := by decide +kernel
theorem dX7_isSplit_58 : decode cX7_isSplit 58 = .ok (.iload_n 0, 1) := by decide +kernel
theorem dX7_isSplit_59 : decode cX7_isSplit 59 = .ok (.iload_n 3, 1) := by decide +kernel
theorem dX7_isSplit_60 : decode cX7_isSplit 60 = .ok (.ishr, 1) := by decide +kernel
theorem dX7_isSplit_61 : decode cX7_isSplit 61 = .ok (.iconst 1, 1) := by decide +kernel
theorem dX7_isSplit_62 : decode cX7_isSplit 62 = .ok (.iand, 1) := by decide +kernel
theorem dX7_isSplit_63 : decode cX7_isSplit 63 = .ok (.ifCond .eq 12, 3) := by decide +kernel
theorem dX7_isSplit_66 : decode cX7_isSplit 66 = .ok (.iload 4, 2) := by decide +kernel
theorem dX7_isSplit_68 : decode cX7_isSplit 68 = .ok (.iload 5, 2) := by decide +kernel
theorem dX7_isSplit_70 : decode cX7_isSplit 70 = .ok (.if_icmp .eq 5, 3) := by decide +kernel
theorem dX7_isSplit_73 : decode cX7_isSplit 73 = .ok (.iconst 1, 1) := by decide +kernel
theorem dX7_isSplit_74 : decode cX7_isSplit 74 = .ok (.ireturn, 1) := by decide +kernel
theorem dX7_isSplit_75 : decode cX7_isSplit 75 = .ok (.iinc 3 1, 3) := by decide +kernel
theorem dX7_isSplit_78 : decode cX7_isSplit 78 = .ok (.goto (-76), 3) := by decide +kernel
theorem dX7_isSplit_81 : decode cX7_isSplit 81 = .ok (.iconst 0, 1) := by decide +kernel
theorem dX7_isSplit_82 : decode cX7_isSplit 82 = .ok (.ireturn, 1) := by decide +kernel
theorem dX7_power_0 : decode cX7_power 0 = .ok (.lconst 1, 1) := by decide +kernel
theorem dX7_power_1 : decode cX7_power 1 = .ok (.lstore_n 2, 1) := by decide +kernel
theorem dX7_power_2 : decode cX7_power 2 = .ok (.iconst 0, 1) := by decide +kernel
theorem dX7_power_3 : decode cX7_power 3 = .ok (.istore 4, 2) := by decide +kernel
theorem dX7_power_5 : decode cX7_power 5 = .ok (.iload 4, 2) := by decide +kernel
theorem dX7_power_7 : decode cX7_power 7 = .ok (.iload_n 1, 1) := by decide +kernel
theorem dX7_power_8 : decode cX7_power 8 = .ok (.if_icmp .ge 14, 3) := by decide +kernel
theorem dX7_power_11 : decode cX7_power 11 = .ok (.lload_n 2, 1) := by decide +kernel
theorem dX7_power_12 : decode cX7_power 12 = .ok (.iload_n 0, 1) := by decide +kernel
theorem dX7_power_13 : decode cX7_power 13 = .ok (.i2l, 1) := by decide +kernel
theorem dX7_power_14 : decode cX7_power 14 = .ok (.lmul, 1) := by decide +kernel
theorem dX7_power_15 : decode cX7_power 15 = .ok (.lstore_n 2, 1) := by decide +kernel
theorem dX7_power_16 : decode cX7_power 16 = .ok (.iinc 4 1, 3) := by decide +kernel
theorem dX7_power_19 : decode cX7_power 19 = .ok (.goto (-14), 3) := by decide +kernel
theorem dX7_power_22 : decode cX7_power 22 = .ok (.lload_n 2, 1) := by decide +kernel
theorem dX7_power_23 : decode cX7_power 23 = .ok (.lreturn, 1) := by decide +kernel
theorem dJ6_bitCount_0f7a4_0 : decode cJ6_bitCount_0f7a4 0 = .ok (.iload_n 0, 1) := by decide +kernel
theorem dJ6_bitCount_0f7a4_1 : decode cJ6_bitCount_0f7a4 1 = .ok (.iload_n 0, 1) := by decide +kernel
theorem dJ6_bitCount_0f7a4_2 : decode cJ6_bitCount_0f7a4 2 = .ok (.iconst 1, 1) := by decide +kernel
theorem dJ6_bitCount_0f7a4_3 : decode cJ6_bitCount_0f7a4 3 = .ok (.iushr, 1) := by decide +kernel
theorem dJ6_bitCount_0f7a4_4 : decode cJ6_bitCount_0f7a4 4 = .ok (.ldc_w 265, 3) := by decide +kernel
theorem dJ6_bitCount_0f7a4_7 : decode cJ6_bitCount_0f7a4 7 = .ok (.iand, 1) := by decide +kernel
theorem dJ6_bitCount_0f7a4_8 : decode cJ6_bitCount_0f7a4 8 = .ok (.isub, 1) := by decide +kernel
theorem dJ6_bitCount_0f7a4_9 : decode cJ6_bitCount_0f7a4 9 = .ok (.istore_n 0, 1) := by decide +kernel
theorem dJ6_bitCount_0f7a4_10 : decode cJ6_bitCount_0f7a4 10 = .ok (.iload_n 0, 1) := by decide +kernel
theorem dJ6_bitCount_0f7a4_11 : decode cJ6_bitCount_0f7a4 11 = .ok (.ldc_w 266, 3) := by decide +kernel
theorem dJ6_bitCount_0f7a4_14 : decode cJ6_bitCount_0f7a4 14 = .ok (.iand, 1) := by decide +kernel
theorem dJ6_bitCount_0f7a4_15 : decode cJ6_bitCount_0f7a4 15 = .ok (.iload_n 0, 1) := by decide +kernel
theorem dJ6_bitCount_0f7a4_16 : decode cJ6_bitCount_0f7a4 16 = .ok (.iconst 2, 1) := by decide +kernel
theorem dJ6_bitCount_0f7a4_17 : decode cJ6_bitCount_0f7a4 17 = .ok (.iushr, 1) := by decide +kernel
theorem dJ6_bitCount_0f7a4_18 : decode cJ6_bitCount_0f7a4 18 = .ok (.ldc_w 266, 3) := by decide +kernel
theorem dJ6_bitCount_0f7a4_21 : decode cJ6_bitCount_0f7a4 21 = .ok (.iand, 1) := by decide +kernel
theorem dJ6_bitCount_0f7a4_22 : decode cJ6_bitCount_0f7a4 22 = .ok (.iadd, 1) := by decide +kernel
theorem dJ6_bitCount_0f7a4_23 : decode cJ6_bitCount_0f7a4 23 = .ok (.istore_n 0, 1) := by decide +kernel
theorem dJ6_bitCount_0f7a4_24 : decode cJ6_bitCount_0f7a4 24 = .ok (.iload_n 0, 1) := by decide +kernel
theorem dJ6_bitCount_0f7a4_25 : decode cJ6_bitCount_0f7a4 25 = .ok (.iload_n 0, 1) := by decide +kernel
theorem dJ6_bitCount_0f7a4_26 : decode cJ6_bitCount_0f7a4 26 = .ok (.iconst 4, 1) := by decide +kernel
theorem dJ6_bitCount_0f7a4_27 : decode cJ6_bitCount_0f7a4 27 = .ok (.iushr, 1) := by decide +kernel
theorem dJ6_bitCount_0f7a4_28 : decode cJ6_bitCount_0f7a4 28 = .ok (.iadd, 1) := by decide +kernel
theorem dJ6_bitCount_0f7a4_29 : decode cJ6_bitCount_0f7a4 29 = .ok (.ldc_w 267, 3) := by decide +kernel
theorem dJ6_bitCount_0f7a4_32 : decode cJ6_bitCount_0f7a4 32 = .ok (.iand, 1) := by decide +kernel
theorem dJ6_bitCount_0f7a4_33 : decode cJ6_bitCount_0f7a4 33 = .ok (.istore_n 0, 1) := by decide +kernel
theorem dJ6_bitCount_0f7a4_34 : decode cJ6_bitCount_0f7a4 34 = .ok (.iload_n 0, 1) := by decide +kernel
theorem dJ6_bitCount_0f7a4_35 : decode cJ6_bitCount_0f7a4 35 = .ok (.iload_n 0, 1) := by decide +kernel
theorem dJ6_bitCount_0f7a4_36 : decode cJ6_bitCount_0f7a4 36 = .ok (.bipush 8, 2) := by decide +kernel
theorem dJ6_bitCount_0f7a4_38 : decode cJ6_bitCount_0f7a4 38 = .ok (.iushr, 1) := by decide +kernel
theorem dJ6_bitCount_0f7a4_39 : decode cJ6_bitCount_0f7a4 39 = .ok (.iadd, 1) := by decide +kernel
theorem dJ6_bitCount_0f7a4_40 : decode cJ6_bitCount_0f7a4 40 = .ok (.istore_n 0, 1) := by decide +kernel
theorem dJ6_bitCount_0f7a4_41 : decode cJ6_bitCount_0f7a4 41 = .ok (.iload_n 0, 1) := by decide +kernel
theorem dJ6_bitCount_0f7a4_42 : decode cJ6_bitCount_0f7a4 42 = .ok (.iload_n 0, 1) := by decide +kernel
theorem dJ6_bitCount_0f7a4_43 : decode cJ6_bitCount_0f7a4 43 = .ok (.bipush 16, 2) := by decide +kernel
theorem dJ6_bitCount_0f7a4_45 : decode cJ6_bitCount_0f7a4 45 = .ok (.iushr, 1) := by decide +kernel
theorem dJ6_bitCount_0f7a4_46 : decode cJ6_bitCount_0f7a4 46 = .ok (.iadd, 1) := by decide +kernel
theorem dJ6_bitCount_0f7a4_47 : decode cJ6_bitCount_0f7a4 47 = .ok (.istore_n 0, 1) := by decide +kernel
theorem dJ6_bitCount_0f7a4_48 : decode cJ6_bitCount_0f7a4 48 = .ok (.iload_n 0, 1) := by decide +kernel
theorem dJ6_bitCount_0f7a4_49 : decode cJ6_bitCount_0f7a4 49 = .ok (.bipush 63, 2) := by decide +kernel
theorem dJ6_bitCount_0f7a4_51 : decode cJ6_bitCount_0f7a4 51 = .ok (.iand, 1) := by decide +kernel
theorem dJ6_bitCount_0f7a4_52 : decode cJ6_bitCount_0f7a4 52 = .ok (.ireturn, 1) := by decide +kernel
theorem dJ9_max_7cf53_0 : decode cJ9_max_7cf53 0 = .ok (.iload_n 0, 1) := by decide +kernel
theorem dJ9_max_7cf53_1 : decode cJ9_max_7cf53 1 = .ok (.iload_n 1, 1) := by decide +kernel
theorem dJ9_max_7cf53_2 : decode cJ9_max_7cf53 2 = .ok (.if_icmp .lt 7, 3) := by decide +kernel
theorem dJ9_max_7cf53_5 : decode cJ9_max_7cf53 5 = .ok (.iload_n 0, 1) := by decide +kernel
theorem dJ9_max_7cf53_6 : decode cJ9_max_7cf53 6 = .ok (.goto 4, 3) := by decide +kernel
theorem dJ9_max_7cf53_9 : decode cJ9_max_7cf53 9 = .ok (.iload_n 1, 1) := by decide +kernel
theorem dJ9_max_7cf53_10 : decode cJ9_max_7cf53 10 = .ok (.ireturn, 1) := by decide +kernel
theorem dJ9_max_f86c9_0 : decode cJ9_max_f86c9 0 = .ok (.lload_n 0, 1) := by decide +kernel
theorem dJ9_max_f86c9_1 : decode cJ9_max_f86c9 1 = .ok (.lload_n 2, 1) := by decide +kernel
theorem dJ9_max_f86c9_2 : decode cJ9_max_f86c9 2 = .ok (.lcmp, 1) := by decide +kernel
theorem dJ9_max_f86c9_3 : decode cJ9_max_f86c9 3 = .ok (.ifCond .lt 7, 3) := by decide +kernel
theorem dJ9_max_f86c9_6 : decode cJ9_max_f86c9 6 = .ok (.lload_n 0, 1) := by decide +kernel
theorem dJ9_max_f86c9_7 : decode cJ9_max_f86c9 7 = .ok (.goto 4, 3) := by decide +kernel
theorem dJ9_max_f86c9_10 : decode cJ9_max_f86c9 10 = .ok (.lload_n 2, 1) := by decide +kernel
theorem dJ9_max_f86c9_11 : decode cJ9_max_f86c9 11 = .ok (.lreturn, 1) := by decide +kernel
theorem dJ9_min_7cf53_0 : decode cJ9_min_7cf53 0 = .ok (.iload_n 0, 1) := by decide +kernel
theorem dJ9_min_7cf53_1 : decode cJ9_min_7cf53 1 = .ok (.iload_n 1, 1) := by decide +kernel
theorem dJ9_min_7cf53_2 : decode cJ9_min_7cf53 2 = .ok (.if_icmp .gt 7, 3) := by decide +kernel
theorem dJ9_min_7cf53_5 : decode cJ9_min_7cf53 5 = .ok (.iload_n 0, 1) := by decide +kernel
theorem dJ9_min_7cf53_6 : decode cJ9_min_7cf53 6 = .ok (.goto 4, 3) := by decide +kernel
theorem dJ9_min_7cf53_9 : decode cJ9_min_7cf53 9 = .ok (.iload_n 1, 1) := by decide +kernel
theorem dJ9_min_7cf53_10 : decode cJ9_min_7cf53 10 = .ok (.ireturn, 1) := by decide +kernel
