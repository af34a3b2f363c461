theorem dX8_init_0 : decode cX8_init 0 = .ok (.aload_n 0, 1) := by decide +kernel
theorem dX8_init_1 : decode cX8_init 1 = .ok (.invokespecial 1, 3) := by decide +kernel
theorem dX8_init_4 : decode cX8_init 4 = .ok (.aload_n 0, 1) := by decide +kernel
theorem dX8_init_5 : decode cX8_init 5 = .ok (.sipush 154, 3) := by decide +kernel
theorem dX8_init_8 : decode cX8_init 8 = .ok (.newarray .int, 2) := by decide +kernel
theorem dX8_init_10 : decode cX8_init 10 = .ok (.putfield 7, 3) := by decide +kernel
theorem dX8_init_13 : decode cX8_init 13 = .ok (.aload_n 0, 1) := by decide +kernel
theorem dX8_init_14 : decode cX8_init 14 = .ok (.bipush 20, 2) := by decide +kernel
theorem dX8_init_16 : decode cX8_init 16 = .ok (.newarray .int, 2) := by decide +kernel
theorem dX8_init_18 : decode cX8_init 18 = .ok (.putfield 13, 3) := by decide +kernel
theorem dX8_init_21 : decode cX8_init 21 = .ok (.aload_n 0, 1) := by decide +kernel
theorem dX8_init_22 : decode cX8_init 22 = .ok (.sipush 1218, 3) := by decide +kernel
theorem dX8_init_25 : decode cX8_init 25 = .ok (.newarray .int, 2) := by decide +kernel
theorem dX8_init_27 : decode cX8_init 27 = .ok (.putfield 16, 3) := by decide +kernel
theorem dX8_init_30 : decode cX8_init 30 = .ok (.aload_n 0, 1) := by decide +kernel
theorem dX8_init_31 : decode cX8_init 31 = .ok (.sipush 203, 3) := by decide +kernel
theorem dX8_init_34 : decode cX8_init 34 = .ok (.newarray .int, 2) := by decide +kernel
theorem dX8_init_36 : decode cX8_init 36 = .ok (.putfield 19, 3) := by decide +kernel
theorem dX8_init_39 : decode cX8_init 39 = .ok (.aload_n 0, 1) := by decide +kernel
theorem dX8_init_40 : decode cX8_init 40 = .ok (.sipush 203, 3) := by decide +kernel
theorem dX8_init_43 : decode cX8_init 43 = .ok (.newarray .int, 2) := by decide +kernel
theorem dX8_init_45 : decode cX8_init 45 = .ok (.putfield 22, 3) := by decide +kernel
theorem dX8_init_48 : decode cX8_init 48 = .ok (.aload_n 0, 1) := by decide +kernel
theorem dX8_init_49 : decode cX8_init 49 = .ok (.bipush 6, 2) := by decide +kernel
theorem dX8_init_51 : decode cX8_init 51 = .ok (.newarray .int, 2) := by decide +kernel
theorem dX8_init_53 : decode cX8_init 53 = .ok (.putfield 25, 3) := by decide +kernel
theorem dX8_init_56 : decode cX8_init 56 = .ok (.aload_n 0, 1) := by decide +kernel
theorem dX8_init_57 : decode cX8_init 57 = .ok (.sipush 203, 3) := by decide +kernel
theorem dX8_init_60 : decode cX8_init 60 = .ok (.newarray .long, 2) := by decide +kernel
theorem dX8_init_62 : decode cX8_init 62 = .ok (.putfield 28, 3) := by decide +kernel
theorem dX8_init_65 : decode cX8_init 65 = .ok (.aload_n 0, 1) := by decide +kernel
theorem dX8_init_66 : decode cX8_init 66 = .ok (.sipush 203, 3) := by decide +kernel
theorem dX8_init_69 : decode cX8_init 69 = .ok (.newarray .long, 2) := by decide +kernel
theorem dX8_init_71 : decode cX8_init 71 = .ok (.putfield 32, 3) := by decide +kernel
theorem dX8_init_74 : decode cX8_init 74 = .ok (.aload_n 0, 1) := by decide +kernel
theorem dX8_init_75 : decode cX8_init 75 = .ok (.bipush 64, 2) := by decide +kernel
theorem dX8_init_77 : decode cX8_init 77 = .ok (.newarray .int, 2) := by decide +kernel
theorem dX8_init_79 : decode cX8_init 79 = .ok (.putfield 35, 3) := by decide +kernel
theorem dX8_init_82 : decode cX8_init 82 = .ok (.aload_n 0, 1) := by decide +kernel
theorem dX8_init_83 : decode cX8_init 83 = .ok (.iconst 5, 1) := by decide +kernel
theorem dX8_init_84 : decode cX8_init 84 = .ok (.invokevirtual 38, 3) := by decide +kernel
theorem dX8_init_87 : decode cX8_init 87 = .ok (.return_, 1) := by decide +kernel
theorem dX8_in_0 : decode cX8_in 0 = .ok (.iload_n 0, 1) := by decide +kernel
theorem dX8_in_1 : decode cX8_in 1 = .ok (.iload_n 1, 1) := by decide +kernel
theorem dX8_in_2 : decode cX8_in 2 = .ok (.if_icmp .lt 12, 3) := by decide +kernel
theorem dX8_in_5 : decode cX8_in 5 = .ok (.iload_n 0, 1) := by decide +kernel
theorem dX8_in_6 : decode cX8_in 6 = .ok (.iload_n 2, 1) := by decide +kernel
theorem dX8_in_7 : decode cX8_in 7 = .ok (.if_icmp .gt 7, 3) := by decide +kernel
theorem dX8_in_10 : decode cX8_in 10 = .ok (.iconst 1, 1) := by decide +kernel
theorem dX8_in_11 : decode cX8_in 11 = .ok (.goto 4, 3) := by decide +kernel
theorem dX8_in_14 : decode cX8_in 14 = .ok (.iconst 0, 1) := by decide +kernel
theorem dX8_in_15 : decode cX8_in 15 = .ok (.ireturn, 1) := by decide +kernel
theorem dX8_starts_0 : decode cX8_starts 0 = .ok (.aload_n 0, 1) := by decide +kernel
theorem dX8_starts_1 : decode cX8_starts 1 = .ok (.getfield 7, 3) := by decide +kernel
theorem dX8_starts_4 : decode cX8_starts 4 = .ok (.iconst 0, 1) := by decide +kernel
theorem dX8_starts_5 : decode cX8_starts 5 = .ok (.iload_n 1, 1) := by decide +kernel
theorem dX8_starts_6 : decode cX8_starts 6 = .ok (.iastore, 1) := by decide +kernel
theorem dX8_starts_7 : decode cX8_starts 7 = .ok (.aload_n 0, 1) := by decide +kernel
theorem dX8_starts_8 : decode cX8_starts 8 = .ok (.getfield 7, 3) := by decide +kernel
theorem dX8_starts_11 : decode cX8_starts 11 = .ok (.iconst 1, 1) := by decide +kernel
theorem dX8_starts_12 : decode cX8_starts 12 = .ok (.bipush 126, 2) := by decide +kernel
theorem dX8_starts_14 : decode cX8_starts 14 = .ok (.iastore, 1) := by decide +kernel
theorem dX8_starts_15 : decode cX8_starts 15 = .ok (.aload_n 0, 1) := by decide +kernel
theorem dX8_starts_16 : decode cX8_starts 16 = .ok (.getfield 7, 3) := by decide +kernel
theorem dX8_starts_19 : decode cX8_starts 19 = .ok (.iconst 2, 1) := by decide +kernel
theorem dX8_starts_20 : decode cX8_starts 20 = .ok (.bipush 126, 2) := by decide +kernel
theorem dX8_starts_22 : decode cX8_starts 22 = .ok (.iastore, 1) := by decide +kernel
theorem dX8_starts_23 : decode cX8_starts 23 = .ok (.aload_n 0, 1) := by decide +kernel
theorem dX8_starts_24 : decode cX8_starts 24 = .ok (.getfield 7, 3) := by decide +kernel
theorem dX8_starts_27 : decode cX8_starts 27 = .ok (.iconst 3, 1) := by decide +kernel
theorem dX8_starts_28 : decode cX8_starts 28 = .ok (.iconst 0, 1) := by decide +kernel
theorem dX8_starts_29 : decode cX8_starts 29 = .ok (.iastore, 1) := by decide +kernel
theorem dX8_starts_30 : decode cX8_starts 30 = .ok (.aload_n 0, 1) := by decide +kernel
theorem dX8_starts_31 : decode cX8_starts 31 = .ok (.getfield 7, 3) := by decide +kernel
theorem dX8_starts_34 : decode cX8_starts 34 = .ok (.iconst 4, 1) := by decide +kernel
theorem dX8_starts_35 : decode cX8_starts 35 = .ok (.iconst 0, 1) := by decide +kernel
theorem dX8_starts_36 : decode cX8_starts 36 = .ok (.iastore, 1) := by decide +kernel
theorem dX8_starts_37 : decode cX8_starts 37 = .ok (.aload_n 0, 1) := by decide +kernel
theorem dX8_starts_38 : decode cX8_starts 38 = .ok (.getfield 7, 3) := by decide +kernel
theorem dX8_starts_41 : decode cX8_starts 41 = .ok (.iconst 5, 1) := by decide +kernel
theorem dX8_starts_42 : decode cX8_starts 42 = .ok (.iconst 0, 1) := by decide +kernel
theorem dX8_starts_43 : decode cX8_starts 43 = .ok (.iastore, 1) := by decide +kernel
theorem dX8_starts_44 : decode cX8_starts 44 = .ok (.iconst 0, 1) := by decide +kernel
theorem dX8_starts_45 : decode cX8_starts 45 = .ok (.istore_n 2, 1) := by decide +kernel
theorem dX8_starts_46 : decode cX8_starts 46 = .ok (.iload_n 2, 1) := by decide +kernel
theorem dX8_starts_47 : decode cX8_starts 47 = .ok (.bipush 8, 2) := by decide +kernel
theorem dX8_starts_49 : decode cX8_starts 49 = .ok (.if_icmp .ge 20, 3) := by decide +kernel
theorem dX8_starts_52 : decode cX8_starts 52 = .ok (.aload_n 0, 1) := by decide +kernel
theorem dX8_starts_53 : decode cX8_starts 53 = .ok (.getfield 7, 3) := by decide +kernel
theorem dX8_starts_56 : decode cX8_starts 56 = .ok (.bipush 6, 2) := by decide +kernel
theorem dX8_starts_58 : decode cX8_starts 58 = .ok (.iload_n 2, 1) := by decide +kernel
theorem dX8_starts_59 : decode cX8_starts 59 = .ok (.iadd, 1) := by decide +kernel
theorem dX8_starts_60 : decode cX8_starts 60 = .ok (.bipush (-9), 2) := by decide +kernel
theorem dX8_starts_62 : decode cX8_starts 62 = .ok (.iastore, 1) := by decide +kernel
theorem dX8_starts_63 : decode cX8_starts 63 = .ok (.iinc 2 1, 3) := by decide +kernel
theorem dX8_starts_66 : decode cX8_starts 66 = .ok (.goto (-20), 3) := by decide +kernel
theorem dX8_starts_69 : decode cX8_starts 69 = .ok (.aload_n 0, 1) := by decide +kernel
theorem dX8_starts_70 : decode cX8_starts 70 = .ok (.invokevirtual 42, 3) := by decide +kernel
theorem dX8_starts_73 : decode cX8_starts 73 = .ok (.aload_n 0, 1) := by decide +kernel
theorem dX8_starts_74 : decode cX8_starts 74 = .ok (.invokevirtual 45, 3) := by decide +kernel
theorem dX8_starts_77 : decode cX8_starts 77 = .ok (.return_, 1) := by decide +kernel
theorem dX8_begins_0 : decode cX8_begins 0 = .ok (.aload_n 0, 1) := by decide +kernel
theorem dX8_begins_1 : decode cX8_begins 1 = .ok (.getfield 48, 3) := by decide +kernel
theorem dX8_begins_4 : decode cX8_begins 4 = .ok (.bipush 10, 2) := by decide +kernel
theorem dX8_begins_6 : decode cX8_begins 6 = .ok (.if_icmp .ne 45, 3) := by decide +kernel
theorem dX8_begins_9 : decode cX8_begins 9 = .ok (.iconst 0, 1) := by decide +kernel
theorem dX8_begins_10 : decode cX8_begins 10 = .ok (.istore_n 1, 1) := by decide +kernel
theorem dX8_begins_11 : decode cX8_begins 11 = .ok (.iload_n 1, 1) := by decide +kernel
theorem dX8_begins_12 : decode cX8_begins 12 = .ok (.bipush 126, 2) := by decide +kernel
theorem dX8_begins_14 : decode cX8_begins 14 = .ok (.if_icmp .ge 27, 3) := by decide +kernel
theorem dX8_begins_17 : decode cX8_begins 17 = .ok (.aload_n 0, 1) := by decide +kernel
theorem dX8_begins_18 : decode cX8_begins 18 = .ok (.getfield 7, 3) := by decide +kernel
theorem dX8_begins_21 : decode cX8_begins 21 = .ok (.bipush 14, 2) := by decide +kernel
theorem dX8_begins_23 : decode cX8_begins 23 = .ok (.iload_n 1, 1) := by decide +kernel
theorem dX8_begins_24 : decode cX8_begins 24 = .ok (.iadd, 1) := by decide +kernel
theorem dX8_begins_25 : decode cX8_begins 25 = .ok (.aload_n 0, 1) := by decide +kernel
theorem dX8_begins_26 : decode cX8_begins 26 = .ok (.getfield 7, 3) := by decide +kernel
theorem dX8_begins_29 : decode cX8_begins 29 = .ok (.bipush 28, 2) := by decide +kernel
theorem dX8_begins_31 : decode cX8_begins 31 = .ok (.iload_n 1, 1) := by decide +kernel
theorem dX8_begins_32 : decode cX8_begins 32 = .ok (.iadd, 1) := by decide +kernel
theorem dX8_begins_33 : decode cX8_begins 33 = .ok (.iaload, 1) := by decide +kernel
theorem dX8_begins_34 : decode cX8_begins 34 = .ok (.iastore, 1) := by decide +kernel
theorem dX8_begins_35 : decode cX8_begins 35 = .ok (.iinc 1 1, 3) := by decide +kernel
theorem dX8_begins_38 : decode cX8_begins 38 = .ok (.goto (-27), 3) := by decide +kernel
theorem dX8_begins_41 : decode cX8_begins 41 = .ok (.aload_n 0, 1) := by decide +kernel
theorem dX8_begins_42 : decode cX8_begins 42 = .ok (.dup, 1) := by decide +kernel
theorem dX8_begins_43 : decode cX8_begins 43 = .ok (.getfield 48, 3) := by decide +kernel
theorem dX8_begins_46 : decode cX8_begins 46 = .ok (.iconst 1, 1) := by decide +kernel
theorem dX8_begins_47 : decode cX8_begins 47 = .ok (.isub, 1) := by decide +kernel
theorem dX8_begins_48 : decode cX8_begins 48 = .ok (.putfield 48, 3) := by decide +kernel
theorem dX8_begins_51 : decode cX8_begins 51 = .ok (.aload_n 0, 1) := by decide +kernel
theorem dX8_begins_52 : decode cX8_begins 52 = .ok (.dup, 1) := by decide +kernel
theorem dX8_begins_53 : decode cX8_begins 53 = .ok (.getfield 48, 3) := by decide +kernel
theorem dX8_begins_56 : decode cX8_begins 56 = .ok (.iconst 1, 1) := by decide +kernel
theorem dX8_begins_57 : decode cX8_begins 57 = .ok (.iadd, 1) := by decide +kernel
theorem dX8_begins_58 : decode cX8_begins 58 = .ok (.putfield 48, 3) := by decide +kernel
theorem dX8_begins_61 : decode cX8_begins 61 = .ok (.iconst 0, 1) := by decide +kernel
theorem dX8_begins_62 : decode cX8_begins 62 = .ok (.istore_n 1, 1) := by decide +kernel
theorem dX8_begins_63 : decode cX8_begins 63 = .ok (.iload_n 1, 1) := by decide +kernel
theorem dX8_begins_64 : decode cX8_begins 64 = .ok (.bipush 14, 2) := by decide +kernel
theorem dX8_begins_66 : decode cX8_begins 66 = .ok (.if_icmp .ge 29, 3) := by decide +kernel
theorem dX8_begins_69 : decode cX8_begins 69 = .ok (.aload_n 0, 1) := by decide +kernel
theorem dX8_begins_70 : decode cX8_begins 70 = .ok (.getfield 7, 3) := by decide +kernel
theorem dX8_begins_73 : decode cX8_begins 73 = .ok (.bipush 14, 2) := by decide +kernel
theorem dX8_begins_75 : decode cX8_begins 75 = .ok (.aload_n 0, 1) := by decide +kernel
theorem dX8_begins_76 : decode cX8_begins 76 = .ok (.getfield 48, 3) := by decide +kernel
theorem dX8_begins_79 : decode cX8_begins 79 = .ok (.imul, 1) := by decide +kernel
theorem dX8_begins_80 : decode cX8_begins 80 = .ok (.iload_n 1, 1) := by decide +kernel
theorem dX8_begins_81 : decode cX8_begins 81 = .ok (.iadd, 1) := by decide +kernel
theorem dX8_begins_82 : decode cX8_begins 82 = .ok (.aload_n 0, 1) := by decide +kernel
theorem dX8_begins_83 : decode cX8_begins 83 = .ok (.getfield 7, 3) := by decide +kernel
theorem dX8_begins_86 : decode cX8_begins 86 = .ok (.iload_n 1, 1) := by decide +kernel
theorem dX8_begins_87 : decode cX8_begins 87 = .ok (.iaload, 1) := by decide +kernel
theorem dX8_begins_88 : decode cX8_begins 88 = .ok (.iastore, 1) := by decide +kernel
theorem dX8_begins_89 : decode cX8_begins 89 = .ok (.iinc 1 1, 3) := by decide +kernel
theorem dX8_begins_92 : decode cX8_begins 92 = .ok (.goto (-29), 3) := by decide +kernel
theorem dX8_begins_95 : decode cX8_begins 95 = .ok (.return_, 1) := by decide +kernel
theorem dX8_at_0 : decode cX8_at 0 = .ok (.aload_n 0, 1) := by decide +kernel
theorem dX8_at_1 : decode cX8_at 1 = .ok (.getfield 16, 3) := by decide +kernel
theorem dX8_at_4 : decode cX8_at 4 = .ok (.bipush 6, 2) := by decide +kernel
theorem dX8_at_6 : decode cX8_at 6 = .ok (.iload_n 1, 1) := by decide +kernel
theorem dX8_at_7 : decode cX8_at 7 = .ok (.imul, 1) := by decide +kernel
theorem dX8_at_8 : decode cX8_at 8 = .ok (.iload_n 2, 1) := by decide +kernel
theorem dX8_at_9 : decode cX8_at 9 = .ok (.iadd, 1) := by decide +kernel
theorem dX8_at_10 : decode cX8_at 10 = .ok (.iaload, 1) := by decide +kernel
theorem dX8_at_11 : decode cX8_at 11 = .ok (.ireturn, 1) := by decide +kernel
theorem dX8_greatest_0 : decode cX8_greatest 0 = .ok (.iconst (-1), 1) := by decide +kernel
theorem dX8_greatest_1 : decode cX8_greatest 1 = .ok (.istore_n 2, 1) := by decide +kernel
theorem dX8_greatest_2 : decode cX8_greatest 2 = .ok (.iconst 0, 1) := by decide +kernel
theorem dX8_greatest_3 : decode cX8_greatest 3 = .ok (.istore_n 3, 1) := by decide +kernel
theorem dX8_greatest_4 : decode cX8_greatest 4 = .ok (.iload_n 3, 1) := by decide +kernel
theorem dX8_greatest_5 : decode cX8_greatest 5 = .ok (.iload_n 1, 1) := by decide +kernel
theorem dX8_greatest_6 : decode cX8_greatest 6 = .ok (.if_icmp .ge 30, 3) := by decide +kernel
theorem dX8_greatest_9 : decode cX8_greatest 9 = .ok (.aload_n 0, 1) := by decide +kernel
theorem dX8_greatest_10 : decode cX8_greatest 10 = .ok (.getfield 25, 3) := by decide +kernel
theorem dX8_greatest_13 : decode cX8_greatest 13 = .ok (.iload_n 3, 1) := by decide +kernel
theorem dX8_greatest_14 : decode cX8_greatest 14 = .ok (.iaload, 1) := by decide +kernel
theorem dX8_greatest_15 : decode cX8_greatest 15 = .ok (.iload_n 2, 1) := by decide +kernel
theorem dX8_greatest_16 : decode cX8_greatest 16 = .ok (.if_icmp .le 12, 3) := by decide +kernel
theorem dX8_greatest_19 : decode cX8_greatest 19 = .ok (.aload_n 0, 1) := by decide +kernel
theorem dX8_greatest_20 : decode cX8_greatest 20 = .ok (.getfield 25, 3) := by decide +kernel
theorem dX8_greatest_23 : decode cX8_greatest 23 = .ok (.iload_n 3, 1) := by decide +kernel
theorem dX8_greatest_24 : decode cX8_greatest 24 = .ok (.iaload, 1) := by decide +kernel
theorem dX8_greatest_25 : decode cX8_greatest 25 = .ok (.goto 4, 3) := by decide +kernel
theorem dX8_greatest_28 : decode cX8_greatest 28 = .ok (.iload_n 2, 1) := by decide +kernel
theorem dX8_greatest_29 : decode cX8_greatest 29 = .ok (.istore_n 2, 1) := by decide +kernel
theorem dX8_greatest_30 : decode cX8_greatest 30 = .ok (.iinc 3 1, 3) := by decide +kernel
theorem dX8_greatest_33 : decode cX8_greatest 33 = .ok (.goto (-29), 3) := by decide +kernel
theorem dX8_greatest_36 : decode cX8_greatest 36 = .ok (.iload_n 2, 1) := by decide +kernel
theorem dX8_greatest_37 : decode cX8_greatest 37 = .ok (.ireturn, 1) := by decide +kernel
theorem dX8_lays_0 : decode cX8_lays 0 = .ok (.aload_n 0, 1) := by decide +kernel
theorem dX8_lays_1 : decode cX8_lays 1 = .ok (.getfield 7, 3) := by decide +kernel
theorem dX8_lays_4 : decode cX8_lays 4 = .ok (.iconst 0, 1) := by decide +kernel
theorem dX8_lays_5 : decode cX8_lays 5 = .ok (.iaload, 1) := by decide +kernel
theorem dX8_lays_6 : decode cX8_lays 6 = .ok (.istore_n 1, 1) := by decide +kernel
theorem dX8_lays_7 : decode cX8_lays 7 = .ok (.aload_n 0, 1) := by decide +kernel
theorem dX8_lays_8 : decode cX8_lays 8 = .ok (.iconst 0, 1) := by decide +kernel
theorem dX8_lays_9 : decode cX8_lays 9 = .ok (.putfield 52, 3) := by decide +kernel
theorem dX8_lays_12 : decode cX8_lays 12 = .ok (.iconst 0, 1) := by decide +kernel
theorem dX8_lays_13 : decode cX8_lays 13 = .ok (.istore_n 2, 1) := by decide +kernel
theorem dX8_lays_14 : decode cX8_lays 14 = .ok (.iload_n 2, 1) := by decide +kernel
theorem dX8_lays_15 : decode cX8_lays 15 = .ok (.bipush 6, 2) := by decide +kernel
theorem dX8_lays_17 : decode cX8_lays 17 = .ok (.if_icmp .ge 16, 3) := by decide +kernel
theorem dX8_lays_20 : decode cX8_lays 20 = .ok (.aload_n 0, 1) := by decide +kernel
theorem dX8_lays_21 : decode cX8_lays 21 = .ok (.getfield 25, 3) := by decide +kernel
theorem dX8_lays_24 : decode cX8_lays 24 = .ok (.iload_n 2, 1) := by decide +kernel
theorem dX8_lays_25 : decode cX8_lays 25 = .ok (.iconst 0, 1) := by decide +kernel
theorem dX8_lays_26 : decode cX8_lays 26 = .ok (.iastore, 1) := by decide +kernel
theorem dX8_lays_27 : decode cX8_lays 27 = .ok (.iinc 2 1, 3) := by decide +kernel
theorem dX8_lays_30 : decode cX8_lays 30 = .ok (.goto (-16), 3) := by decide +kernel
theorem dX8_lays_33 : decode cX8_lays 33 = .ok (.iconst 1, 1) := by decide +kernel
theorem dX8_lays_34 : decode cX8_lays 34 = .ok (.istore_n 2, 1) := by decide +kernel
theorem dX8_lays_35 : decode cX8_lays 35 = .ok (.iload_n 2, 1) := by decide +kernel
theorem dX8_lays_36 : decode cX8_lays 36 = .ok (.ifCond .eq 142, 3) := by decide +kernel
theorem dX8_lays_39 : decode cX8_lays 39 = .ok (.iconst 0, 1) := by decide +kernel
theorem dX8_lays_40 : decode cX8_lays 40 = .ok (.istore_n 3, 1) := by decide +kernel
theorem dX8_lays_41 : decode cX8_lays 41 = .ok (.iload_n 3, 1) := by decide +kernel
theorem dX8_lays_42 : decode cX8_lays 42 = .ok (.iload_n 1, 1) := by decide +kernel
theorem dX8_lays_43 : decode cX8_lays 43 = .ok (.if_icmp .ge 29, 3) := by decide +kernel
theorem dX8_lays_46 : decode cX8_lays 46 = .ok (.aload_n 0, 1) := by decide +kernel
theorem dX8_lays_47 : decode cX8_lays 47 = .ok (.getfield 16, 3) := by decide +kernel
theorem dX8_lays_50 : decode cX8_lays 50 = .ok (.bipush 6, 2) := by decide +kernel
theorem dX8_lays_52 : decode cX8_lays 52 = .ok (.aload_n 0, 1) := by decide +kernel
theorem dX8_lays_53 : decode cX8_lays 53 = .ok (.getfield 52, 3) := by decide +kernel
theorem dX8_lays_56 : decode cX8_lays 56 = .ok (.imul, 1) := by decide +kernel
theorem dX8_lays_57 : decode cX8_lays 57 = .ok (.iload_n 3, 1) := by decide +kernel
theorem dX8_lays_58 : decode cX8_lays 58 = .ok (.iadd, 1) := by decide +kernel
theorem dX8_lays_59 : decode cX8_lays 59 = .ok (.aload_n 0, 1) := by decide +kernel
theorem dX8_lays_60 : decode cX8_lays 60 = .ok (.getfield 25, 3) := by decide +kernel
theorem dX8_lays_63 : decode cX8_lays 63 = .ok (.iload_n 3, 1) := by decide +kernel
theorem dX8_lays_64 : decode cX8_lays 64 = .ok (.iaload, 1) := by decide +kernel
theorem dX8_lays_65 : decode cX8_lays 65 = .ok (.iastore, 1) := by decide +kernel
theorem dX8_lays_66 : decode cX8_lays 66 = .ok (.iinc 3 1, 3) := by decide +kernel
theorem dX8_lays_69 : decode cX8_lays 69 = .ok (.goto (-28), 3) := by decide +kernel
theorem dX8_lays_72 : decode cX8_lays 72 = .ok (.aload_n 0, 1) := by decide +kernel
theorem dX8_lays_73 : decode cX8_lays 73 = .ok (.getfield 19, 3) := by decide +kernel
theorem dX8_lays_76 : decode cX8_lays 76 = .ok (.aload_n 0, 1) := by decide +kernel
theorem dX8_lays_77 : decode cX8_lays 77 = .ok (.getfield 52, 3) := by decide +kernel
theorem dX8_lays_80 : decode cX8_lays 80 = .ok (.aload_n 0, 1) := by decide +kernel
theorem dX8_lays_81 : decode cX8_lays 81 = .ok (.iload_n 1, 1) := by decide +kernel
theorem dX8_lays_82 : decode cX8_lays 82 = .ok (.invokevirtual 55, 3) := by decide +kernel
theorem dX8_lays_85 : decode cX8_lays 85 = .ok (.iconst 1, 1) := by decide +kernel
theorem dX8_lays_86 : decode cX8_lays 86 = .ok (.iadd, 1) := by decide +kernel
theorem dX8_lays_87 : decode cX8_lays 87 = .ok (.iastore, 1) := by decide +kernel
theorem dX8_lays_88 : decode cX8_lays 88 = .ok (.aload_n 0, 1) := by decide +kernel
theorem dX8_lays_89 : decode cX8_lays 89 = .ok (.dup, 1) := by decide +kernel
theorem dX8_lays_90 : decode cX8_lays 90 = .ok (.getfield 52, 3) := by decide +kernel
theorem dX8_lays_93 : decode cX8_lays 93 = .ok (.iconst 1, 1) := by decide +kernel
theorem dX8_lays_94 : decode cX8_lays 94 = .ok (.iadd, 1) := by decide +kernel
theorem dX8_lays_95 : decode cX8_lays 95 = .ok (.putfield 52, 3) := by decide +kernel
theorem dX8_lays_98 : decode cX8_lays 98 = .ok (.iload_n 1, 1) := by decide +kernel
theorem dX8_lays_99 : decode cX8_lays 99 = .ok (.iconst 1, 1) := by decide +kernel
theorem dX8_lays_100 : decode cX8_lays 100 = .ok (.isub, 1) := by decide +kernel
theorem dX8_lays_101 : decode cX8_lays 101 = .ok (.istore_n 3, 1) := by decide +kernel
theorem dX8_lays_102 : decode cX8_lays 102 = .ok (.iload_n 3, 1) := by decide +kernel
theorem dX8_lays_103 : decode cX8_lays 103 = .ok (.ifCond .le 23, 3) := by decide +kernel
theorem dX8_lays_106 : decode cX8_lays 106 = .ok (.aload_n 0, 1) := by decide +kernel
theorem dX8_lays_107 : decode cX8_lays 107 = .ok (.getfield 25, 3) := by decide +kernel
theorem dX8_lays_110 : decode cX8_lays 110 = .ok (.iload_n 3, 1) := by decide +kernel
theorem dX8_lays_111 : decode cX8_lays 111 = .ok (.iaload, 1) := by decide +kernel
theorem dX8_lays_112 : decode cX8_lays 112 = .ok (.aload_n 0, 1) := by decide +kernel
theorem dX8_lays_113 : decode cX8_lays 113 = .ok (.iload_n 3, 1) := by decide +kernel
theorem dX8_lays_114 : decode cX8_lays 114 = .ok (.invokevirtual 55, 3) := by decide +kernel
theorem dX8_lays_117 : decode cX8_lays 117 = .ok (.if_icmp .le 9, 3) := by decide +kernel
theorem dX8_lays_120 : decode cX8_lays 120 = .ok (.iinc 3 (-1), 3) := by decide +kernel
theorem dX8_lays_123 : decode cX8_lays 123 = .ok (.goto (-21), 3) := by decide +kernel
theorem dX8_lays_126 : decode cX8_lays 126 = .ok (.iload_n 3, 1) := by decide +kernel
theorem dX8_lays_127 : decode cX8_lays 127 = .ok (.ifCond .le 7, 3) := by decide +kernel
theorem dX8_lays_130 : decode cX8_lays 130 = .ok (.iconst 1, 1) := by decide +kernel
theorem dX8_lays_131 : decode cX8_lays 131 = .ok (.goto 4, 3) := by decide +kernel
theorem dX8_lays_134 : decode cX8_lays 134 = .ok (.iconst 0, 1) := by decide +kernel
theorem dX8_lays_135 : decode cX8_lays 135 = .ok (.istore_n 2, 1) := by decide +kernel
theorem dX8_lays_136 : decode cX8_lays 136 = .ok (.iload_n 2, 1) := by decide +kernel
theorem dX8_lays_137 : decode cX8_lays 137 = .ok (.ifCond .eq 38, 3) := by decide +kernel
theorem dX8_lays_140 : decode cX8_lays 140 = .ok (.aload_n 0, 1) := by decide +kernel
theorem dX8_lays_141 : decode cX8_lays 141 = .ok (.getfield 25, 3) := by decide +kernel
theorem dX8_lays_144 : decode cX8_lays 144 = .ok (.iload_n 3, 1) := by decide +kernel
theorem dX8_lays_145 : decode cX8_lays 145 = .ok (.dup2, 1) := by decide +kernel
theorem dX8_lays_146 : decode cX8_lays 146 = .ok (.iaload, 1) := by decide +kernel
theorem dX8_lays_147 : decode cX8_lays 147 = .ok (.iconst 1, 1) := by decide +kernel
theorem dX8_lays_148 : decode cX8_lays 148 = .ok (.iadd, 1) := by decide +kernel
theorem dX8_lays_149 : decode cX8_lays 149 = .ok (.iastore, 1) := by decide +kernel
theorem dX8_lays_150 : decode cX8_lays 150 = .ok (.iload_n 3, 1) := by decide +kernel
theorem dX8_lays_151 : decode cX8_lays 151 = .ok (.iconst 1, 1) := by decide +kernel
theorem dX8_lays_152 : decode cX8_lays 152 = .ok (.iadd, 1) := by decide +kernel
theorem dX8_lays_153 : decode cX8_lays 153 = .ok (.istore 4, 2) := by decide +kernel
theorem dX8_lays_155 : decode cX8_lays 155 = .ok (.iload 4, 2) := by decide +kernel
theorem dX8_lays_157 : decode cX8_lays 157 = .ok (.iload_n 1, 1) := by decide +kernel
theorem dX8_lays_158 : decode cX8_lays 158 = .ok (.if_icmp .ge 17, 3) := by decide +kernel
theorem dX8_lays_161 : decode cX8_lays 161 = .ok (.aload_n 0, 1) := by decide +kernel
theorem dX8_lays_162 : decode cX8_lays 162 = .ok (.getfield 25, 3) := by decide +kernel
theorem dX8_lays_165 : decode cX8_lays 165 = .ok (.iload 4, 2) := by decide +kernel
theorem dX8_lays_167 : decode cX8_lays 167 = .ok (.iconst 0, 1) := by decide +kernel
theorem dX8_lays_168 : decode cX8_lays 168 = .ok (.iastore, 1) := by decide +kernel
theorem dX8_lays_169 : decode cX8_lays 169 = .ok (.iinc 4 1, 3) := by decide +kernel
theorem dX8_lays_172 : decode cX8_lays 172 = .ok (.goto (-17), 3) := by decide +kernel
theorem dX8_lays_175 : decode cX8_lays 175 = .ok (.goto (-140), 3) := by decide +kernel
theorem dX8_lays_178 : decode cX8_lays 178 = .ok (.return_, 1) := by decide +kernel
theorem dX8_admits_0 : decode cX8_admits 0 = .ok (.aload_n 0, 1) := by decide +kernel
theorem dX8_admits_1 : decode cX8_admits 1 = .ok (.iconst 0, 1) := by decide +kernel
theorem dX8_admits_2 : decode cX8_admits 2 = .ok (.putfield 59, 3) := by decide +kernel
theorem dX8_admits_5 : decode cX8_admits 5 = .ok (.iconst 0, 1) := by decide +kernel
theorem dX8_admits_6 : decode cX8_admits 6 = .ok (.istore_n 1, 1) := by decide +kernel
theorem dX8_admits_7 : decode cX8_admits 7 = .ok (.iload_n 1, 1) := by decide +kernel
theorem dX8_admits_8 : decode cX8_admits 8 = .ok (.aload_n 0, 1) := by decide +kernel
theorem dX8_admits_9 : decode cX8_admits 9 = .ok (.getfield 52, 3) := by decide +kernel
theorem dX8_admits_12 : decode cX8_admits 12 = .ok (.if_icmp .ge 45, 3) := by decide +kernel
theorem dX8_admits_15 : decode cX8_admits 15 = .ok (.aload_n 0, 1) := by decide +kernel
theorem dX8_admits_16 : decode cX8_admits 16 = .ok (.getfield 22, 3) := by decide +kernel
theorem dX8_admits_19 : decode cX8_admits 19 = .ok (.iload_n 1, 1) := by decide +kernel
theorem dX8_admits_20 : decode cX8_admits 20 = .ok (.bipush (-9), 2) := by decide +kernel
theorem dX8_admits_22 : decode cX8_admits 22 = .ok (.iastore, 1) := by decide +kernel
theorem dX8_admits_23 : decode cX8_admits 23 = .ok (.aload_n 0, 1) := by decide +kernel
theorem dX8_admits_24 : decode cX8_admits 24 = .ok (.iload_n 1, 1) := by decide +kernel
theorem dX8_admits_25 : decode cX8_admits 25 = .ok (.invokevirtual 62, 3) := by decide +kernel
theorem dX8_admits_28 : decode cX8_admits 28 = .ok (.ifCond .ne 23, 3) := by decide +kernel
theorem dX8_admits_31 : decode cX8_admits 31 = .ok (.aload_n 0, 1) := by decide +kernel
theorem dX8_admits_32 : decode cX8_admits 32 = .ok (.getfield 22, 3) := by decide +kernel
theorem dX8_admits_35 : decode cX8_admits 35 = .ok (.iload_n 1, 1) := by decide +kernel
theorem dX8_admits_36 : decode cX8_admits 36 = .ok (.aload_n 0, 1) := by decide +kernel
theorem dX8_admits_37 : decode cX8_admits 37 = .ok (.getfield 59, 3) := by decide +kernel
theorem dX8_admits_40 : decode cX8_admits 40 = .ok (.iastore, 1) := by decide +kernel
theorem dX8_admits_41 : decode cX8_admits 41 = .ok (.aload_n 0, 1) := by decide +kernel
theorem dX8_admits_42 : decode cX8_admits 42 = .ok (.dup, 1) := by decide +kernel
theorem dX8_admits_43 : decode cX8_admits 43 = .ok (.getfield 59, 3) := by decide +kernel
theorem dX8_admits_46 : decode cX8_admits 46 = .ok (.iconst 1, 1) := by decide +kernel
theorem dX8_admits_47 : decode cX8_admits 47 = .ok (.iadd, 1) := by decide +kernel
theorem dX8_admits_48 : decode cX8_admits 48 = .ok (.putfield 59, 3) := by decide +kernel
theorem dX8_admits_51 : decode cX8_admits 51 = .ok (.iinc 1 1, 3) := by decide +kernel
theorem dX8_admits_54 : decode cX8_admits 54 = .ok (.goto (-47), 3) := by decide +kernel
theorem dX8_admits_57 : decode cX8_admits 57 = .ok (.return_, 1) := by decide +kernel
theorem dX8_isAdmitted_0 : decode cX8_isAdmitted 0 = .ok (.aload_n 0, 1) := by decide +kernel
theorem dX8_isAdmitted_1 : decode cX8_isAdmitted 1 = .ok (.getfield 22, 3) := by decide +kernel
theorem dX8_isAdmitted_4 : decode cX8_isAdmitted 4 = .ok (.iload_n 1, 1) := by decide +kernel
theorem dX8_isAdmitted_5 : decode cX8_isAdmitted 5 = .ok (.iaload, 1) := by decide +kernel
theorem dX8_isAdmitted_6 : decode cX8_isAdmitted 6 = .ok (.ifCond .lt 7, 3) := by decide +kernel
theorem dX8_isAdmitted_9 : decode cX8_isAdmitted 9 = .ok (.iconst 1, 1) := by decide +kernel
theorem dX8_isAdmitted_10 : decode cX8_isAdmitted 10 = .ok (.goto 4, 3) := by decide +kernel
theorem dX8_isAdmitted_13 : decode cX8_isAdmitted 13 = .ok (.iconst 0, 1) := by decide +kernel
theorem dX8_isAdmitted_14 : decode cX8_isAdmitted 14 = .ok (.ireturn, 1) := by decide +kernel
theorem dX8_numberOf_0 : decode cX8_numberOf 0 = .ok (.aload_n 0, 1) := by decide +kernel
theorem dX8_numberOf_1 : decode cX8_numberOf 1 = .ok (.getfield 7, 3) := by decide +kernel
theorem dX8_numberOf_4 : decode cX8_numberOf 4 = .ok (.iconst 0, 1) := by decide +kernel
theorem dX8_numberOf_5 : decode cX8_numberOf 5 = .ok (.iaload, 1) := by decide +kernel
theorem dX8_numberOf_6 : decode cX8_numberOf 6 = .ok (.istore_n 1, 1) := by decide +kernel
theorem dX8_numberOf_7 : decode cX8_numberOf 7 = .ok (.iconst 0, 1) := by decide +kernel
theorem dX8_numberOf_8 : decode cX8_numberOf 8 = .ok (.istore_n 2, 1) := by decide +kernel
theorem dX8_numberOf_9 : decode cX8_numberOf 9 = .ok (.iload_n 2, 1) := by decide +kernel
theorem dX8_numberOf_10 : decode cX8_numberOf 10 = .ok (.aload_n 0, 1) := by decide +kernel
theorem dX8_numberOf_11 : decode cX8_numberOf 11 = .ok (.getfield 52, 3) := by decide +kernel
theorem dX8_numberOf_14 : decode cX8_numberOf 14 = .ok (.if_icmp .ge 109, 3) := by decide +kernel
theorem dX8_numberOf_17 : decode cX8_numberOf 17 = .ok (.iconst 1, 1) := by decide +kernel
theorem dX8_numberOf_18 : decode cX8_numberOf 18 = .ok (.istore_n 3, 1) := by decide +kernel
theorem dX8_numberOf_19 : decode cX8_numberOf 19 = .ok (.iconst 0, 1) := by decide +kernel
theorem dX8_numberOf_20 : decode cX8_numberOf 20 = .ok (.istore 4, 2) := by decide +kernel
theorem dX8_numberOf_22 : decode cX8_numberOf 22 = .ok (.iload 4, 2) := by decide +kernel
theorem dX8_numberOf_24 : decode cX8_numberOf 24 = .ok (.iload_n 1, 1) := by decide +kernel
theorem dX8_numberOf_25 : decode cX8_numberOf 25 = .ok (.if_icmp .ge 86, 3) := by decide +kernel
theorem dX8_numberOf_28 : decode cX8_numberOf 28 = .ok (.iload_n 3, 1) := by decide +kernel
theorem dX8_numberOf_29 : decode cX8_numberOf 29 = .ok (.ifCond .eq 82, 3) := by decide +kernel
theorem dX8_numberOf_32 : decode cX8_numberOf 32 = .ok (.iconst 0, 1) := by decide +kernel
theorem dX8_numberOf_33 : decode cX8_numberOf 33 = .ok (.istore 5, 2) := by decide +kernel
theorem dX8_numberOf_35 : decode cX8_numberOf 35 = .ok (.iload 5, 2) := by decide +kernel
theorem dX8_numberOf_37 : decode cX8_numberOf 37 = .ok (.iload 4, 2) := by decide +kernel
theorem dX8_numberOf_39 : decode cX8_numberOf 39 = .ok (.if_icmp .ge 66, 3) := by decide +kernel
theorem dX8_numberOf_42 : decode cX8_numberOf 42 = .ok (.iload_n 3, 1) := by decide +kernel
theorem dX8_numberOf_43 : decode cX8_numberOf 43 = .ok (.ifCond .eq 62, 3) := by decide +kernel
theorem dX8_numberOf_46 : decode cX8_numberOf 46 = .ok (.aload_n 0, 1) := by decide +kernel
theorem dX8_numberOf_47 : decode cX8_numberOf 47 = .ok (.getfield 25, 3) := by decide +kernel
theorem dX8_numberOf_50 : decode cX8_numberOf 50 = .ok (.iload 4, 2) := by decide +kernel
theorem dX8_numberOf_52 : decode cX8_numberOf 52 = .ok (.iaload, 1) := by decide +kernel
theorem dX8_numberOf_53 : decode cX8_numberOf 53 = .ok (.aload_n 0, 1) := by decide +kernel
theorem dX8_numberOf_54 : decode cX8_numberOf 54 = .ok (.getfield 25, 3) := by decide +kernel
theorem dX8_numberOf_57 : decode cX8_numberOf 57 = .ok (.iload 5, 2) := by decide +kernel
theorem dX8_numberOf_59 : decode cX8_numberOf 59 = .ok (.iaload, 1) := by decide +kernel
theorem dX8_numberOf_60 : decode cX8_numberOf 60 = .ok (.if_icmp .ne 7, 3) := by decide +kernel
theorem dX8_numberOf_63 : decode cX8_numberOf 63 = .ok (.iconst 1, 1) := by decide +kernel
theorem dX8_numberOf_64 : decode cX8_numberOf 64 = .ok (.goto 4, 3) := by decide +kernel
theorem dX8_numberOf_67 : decode cX8_numberOf 67 = .ok (.iconst 0, 1) := by decide +kernel
theorem dX8_numberOf_68 : decode cX8_numberOf 68 = .ok (.aload_n 0, 1) := by decide +kernel
theorem dX8_numberOf_69 : decode cX8_numberOf 69 = .ok (.iload_n 2, 1) := by decide +kernel
theorem dX8_numberOf_70 : decode cX8_numberOf 70 = .ok (.iload 4, 2) := by decide +kernel
theorem dX8_numberOf_72 : decode cX8_numberOf 72 = .ok (.invokevirtual 65, 3) := by decide +kernel
theorem dX8_numberOf_75 : decode cX8_numberOf 75 = .ok (.aload_n 0, 1) := by decide +kernel
theorem dX8_numberOf_76 : decode cX8_numberOf 76 = .ok (.iload_n 2, 1) := by decide +kernel
theorem dX8_numberOf_77 : decode cX8_numberOf 77 = .ok (.iload 5, 2) := by decide +kernel
theorem dX8_numberOf_79 : decode cX8_numberOf 79 = .ok (.invokevirtual 65, 3) := by decide +kernel
theorem dX8_numberOf_82 : decode cX8_numberOf 82 = .ok (.if_icmp .ne 7, 3) := by decide +kernel
theorem dX8_numberOf_85 : decode cX8_numberOf 85 = .ok (.iconst 1, 1) := by decide +kernel
theorem dX8_numberOf_86 : decode cX8_numberOf 86 = .ok (.goto 4, 3) := by decide +kernel
theorem dX8_numberOf_89 : decode cX8_numberOf 89 = .ok (.iconst 0, 1) := by decide +kernel
theorem dX8_numberOf_90 : decode cX8_numberOf 90 = .ok (.if_icmp .ne 7, 3) := by decide +kernel
theorem dX8_numberOf_93 : decode cX8_numberOf 93 = .ok (.iconst 1, 1) := by decide +kernel
theorem dX8_numberOf_94 : decode cX8_numberOf 94 = .ok (.goto 4, 3) := by decide +kernel
theorem dX8_numberOf_97 : decode cX8_numberOf 97 = .ok (.iconst 0, 1) := by decide +kernel
theorem dX8_numberOf_98 : decode cX8_numberOf 98 = .ok (.istore_n 3, 1) := by decide +kernel
theorem dX8_numberOf_99 : decode cX8_numberOf 99 = .ok (.iinc 5 1, 3) := by decide +kernel
theorem dX8_numberOf_102 : decode cX8_numberOf 102 = .ok (.goto (-67), 3) := by decide +kernel
theorem dX8_numberOf_105 : decode cX8_numberOf 105 = .ok (.iinc 4 1, 3) := by decide +kernel
theorem dX8_numberOf_108 : decode cX8_numberOf 108 = .ok (.goto (-86), 3) := by decide +kernel
theorem dX8_numberOf_111 : decode cX8_numberOf 111 = .ok (.iload_n 3, 1) := by decide +kernel
theorem dX8_numberOf_112 : decode cX8_numberOf 112 = .ok (.ifCond .eq 5, 3) := by decide +kernel
theorem dX8_numberOf_115 : decode cX8_numberOf 115 = .ok (.iload_n 2, 1) := by decide +kernel
theorem dX8_numberOf_116 : decode cX8_numberOf 116 = .ok (.ireturn, 1) := by decide +kernel
theorem dX8_numberOf_117 : decode cX8_numberOf 117 = .ok (.iinc 2 1, 3) := by decide +kernel
theorem dX8_numberOf_120 : decode cX8_numberOf 120 = .ok (.goto (-111), 3) := by decide +kernel
theorem dX8_numberOf_123 : decode cX8_numberOf 123 = .ok (.bipush (-9), 2) := by decide +kernel
theorem dX8_numberOf_125 : decode cX8_numberOf 125 = .ok (.ireturn, 1) := by decide +kernel
theorem dX8_takes_0 : decode cX8_takes 0 = .ok (.iconst 0, 1) := by decide +kernel
theorem dX8_takes_1 : decode cX8_takes 1 = .ok (.istore_n 2, 1) := by decide +kernel
theorem dX8_takes_2 : decode cX8_takes 2 = .ok (.iload_n 2, 1) := by decide +kernel
theorem dX8_takes_3 : decode cX8_takes 3 = .ok (.aload_n 0, 1) := by decide +kernel
theorem dX8_takes_4 : decode cX8_takes 4 = .ok (.getfield 7, 3) := by decide +kernel
theorem dX8_takes_7 : decode cX8_takes 7 = .ok (.iconst 0, 1) := by decide +kernel
theorem dX8_takes_8 : decode cX8_takes 8 = .ok (.iaload, 1) := by decide +kernel
theorem dX8_takes_9 : decode cX8_takes 9 = .ok (.if_icmp .ge 21, 3) := by decide +kernel
theorem dX8_takes_12 : decode cX8_takes 12 = .ok (.aload_n 0, 1) := by decide +kernel
theorem dX8_takes_13 : decode cX8_takes 13 = .ok (.getfield 25, 3) := by decide +kernel
theorem dX8_takes_16 : decode cX8_takes 16 = .ok (.iload_n 2, 1) := by decide +kernel
theorem dX8_takes_17 : decode cX8_takes 17 = .ok (.aload_n 0, 1) := by decide +kernel
theorem dX8_takes_18 : decode cX8_takes 18 = .ok (.iload_n 1, 1) := by decide +kernel
theorem dX8_takes_19 : decode cX8_takes 19 = .ok (.iload_n 2, 1) := by decide +kernel
theorem dX8_takes_20 : decode cX8_takes 20 = .ok (.invokevirtual 65, 3) := by decide +kernel
theorem dX8_takes_23 : decode cX8_takes 23 = .ok (.iastore, 1) := by decide +kernel
theorem dX8_takes_24 : decode cX8_takes 24 = .ok (.iinc 2 1, 3) := by decide +kernel
theorem dX8_takes_27 : decode cX8_takes 27 = .ok (.goto (-25), 3) := by decide +kernel
theorem dX8_takes_30 : decode cX8_takes 30 = .ok (.return_, 1) := by decide +kernel
theorem dX8_sizeOf_0 : decode cX8_sizeOf 0 = .ok (.iconst 0, 1) := by decide +kernel
theorem dX8_sizeOf_1 : decode cX8_sizeOf 1 = .ok (.istore_n 3, 1) := by decide +kernel
theorem dX8_sizeOf_2 : decode cX8_sizeOf 2 = .ok (.iconst 0, 1) := by decide +kernel
theorem dX8_sizeOf_3 : decode cX8_sizeOf 3 = .ok (.istore 4, 2) := by decide +kernel
theorem dX8_sizeOf_5 : decode cX8_sizeOf 5 = .ok (.iload 4, 2) := by decide +kernel
theorem dX8_sizeOf_7 : decode cX8_sizeOf 7 = .ok (.aload_n 0, 1) := by decide +kernel
theorem dX8_sizeOf_8 : decode cX8_sizeOf 8 = .ok (.getfield 7, 3) := by decide +kernel
theorem dX8_sizeOf_11 : decode cX8_sizeOf 11 = .ok (.iconst 0, 1) := by decide +kernel
theorem dX8_sizeOf_12 : decode cX8_sizeOf 12 = .ok (.iaload, 1) := by decide +kernel
theorem dX8_sizeOf_13 : decode cX8_sizeOf 13 = .ok (.if_icmp .ge 28, 3) := by decide +kernel
theorem dX8_sizeOf_16 : decode cX8_sizeOf 16 = .ok (.iload_n 3, 1) := by decide +kernel
theorem dX8_sizeOf_17 : decode cX8_sizeOf 17 = .ok (.aload_n 0, 1) := by decide +kernel
theorem dX8_sizeOf_18 : decode cX8_sizeOf 18 = .ok (.iload_n 1, 1) := by decide +kernel
theorem dX8_sizeOf_19 : decode cX8_sizeOf 19 = .ok (.iload 4, 2) := by decide +kernel
theorem dX8_sizeOf_21 : decode cX8_sizeOf 21 = .ok (.invokevirtual 65, 3) := by decide +kernel
theorem dX8_sizeOf_24 : decode cX8_sizeOf 24 = .ok (.iload_n 2, 1) := by decide +kernel
theorem dX8_sizeOf_25 : decode cX8_sizeOf 25 = .ok (.if_icmp .ne 7, 3) := by decide +kernel
theorem dX8_sizeOf_28 : decode cX8_sizeOf 28 = .ok (.iconst 1, 1) := by decide +kernel
theorem dX8_sizeOf_29 : decode cX8_sizeOf 29 = .ok (.goto 4, 3) := by decide +kernel
theorem dX8_sizeOf_32 : decode cX8_sizeOf 32 = .ok (.iconst 0, 1) := by decide +kernel
theorem dX8_sizeOf_33 : decode cX8_sizeOf 33 = .ok (.iadd, 1) := by decide +kernel
theorem dX8_sizeOf_34 : decode cX8_sizeOf 34 = .ok (.istore_n 3, 1) := by decide +kernel
theorem dX8_sizeOf_35 : decode cX8_sizeOf 35 = .ok (.iinc 4 1, 3) := by decide +kernel
theorem dX8_sizeOf_38 : decode cX8_sizeOf 38 = .ok (.goto (-33), 3) := by decide +kernel
theorem dX8_sizeOf_41 : decode cX8_sizeOf 41 = .ok (.iload_n 3, 1) := by decide +kernel
theorem dX8_sizeOf_42 : decode cX8_sizeOf 42 = .ok (.ireturn, 1) := by decide +kernel
theorem dX8_areCrossing_0 : decode cX8_areCrossing 0 = .ok (.iconst 0, 1) := by decide +kernel
theorem dX8_areCrossing_1 : decode cX8_areCrossing 1 = .ok (.istore 4, 2) := by decide +kernel
theorem dX8_areCrossing_3 : decode cX8_areCrossing 3 = .ok (.bipush (-9), 2) := by decide +kernel
theorem dX8_areCrossing_5 : decode cX8_areCrossing 5 = .ok (.istore 5, 2) := by decide +kernel
theorem dX8_areCrossing_7 : decode cX8_areCrossing 7 = .ok (.iconst 0, 1) := by decide +kernel
theorem dX8_areCrossing_8 : decode cX8_areCrossing 8 = .ok (.istore 6, 2) := by decide +kernel
theorem dX8_areCrossing_10 : decode cX8_areCrossing 10 = .ok (.iload 6, 2) := by decide +kernel
theorem dX8_areCrossing_12 : decode cX8_areCrossing 12 = .ok (.aload_n 0, 1) := by decide +kernel
theorem dX8_areCrossing_13 : decode cX8_areCrossing 13 = .ok (.getfield 7, 3) := by decide +kernel
theorem dX8_areCrossing_16 : decode cX8_areCrossing 16 = .ok (.iconst 0, 1) := by decide +kernel
theorem dX8_areCrossing_17 : decode cX8_areCrossing 17 = .ok (.iaload, 1) := by decide +kernel
theorem dX8_areCrossing_18 : decode cX8_areCrossing 18 = .ok (.if_icmp .ge 44, 3) := by decide +kernel
theorem dX8_areCrossing_21 : decode cX8_areCrossing 21 = .ok (.aload_n 0, 1) := by decide +kernel
theorem dX8_areCrossing_22 : decode cX8_areCrossing 22 = .ok (.iload_n 1, 1) := by decide +kernel
theorem dX8_areCrossing_23 : decode cX8_areCrossing 23 = .ok (.iload 6, 2) := by decide +kernel
theorem dX8_areCrossing_25 : decode cX8_areCrossing 25 = .ok (.invokevirtual 65, 3) := by decide +kernel
theorem dX8_areCrossing_28 : decode cX8_areCrossing 28 = .ok (.istore 7, 2) := by decide +kernel
theorem dX8_areCrossing_30 : decode cX8_areCrossing 30 = .ok (.iload 7, 2) := by decide +kernel
theorem dX8_areCrossing_32 : decode cX8_areCrossing 32 = .ok (.iload_n 2, 1) := by decide +kernel
theorem dX8_areCrossing_33 : decode cX8_areCrossing 33 = .ok (.if_icmp .eq 9, 3) := by decide +kernel
theorem dX8_areCrossing_36 : decode cX8_areCrossing 36 = .ok (.iload 7, 2) := by decide +kernel
theorem dX8_areCrossing_38 : decode cX8_areCrossing 38 = .ok (.iload_n 3, 1) := by decide +kernel
theorem dX8_areCrossing_39 : decode cX8_areCrossing 39 = .ok (.if_icmp .ne 17, 3) := by decide +kernel
theorem dX8_areCrossing_42 : decode cX8_areCrossing 42 = .ok (.iload 7, 2) := by decide +kernel
theorem dX8_areCrossing_44 : decode cX8_areCrossing 44 = .ok (.iload 5, 2) := by decide +kernel
theorem dX8_areCrossing_46 : decode cX8_areCrossing 46 = .ok (.if_icmp .eq 10, 3) := by decide +kernel
theorem dX8_areCrossing_49 : decode cX8_areCrossing 49 = .ok (.iinc 4 1, 3) := by decide +kernel
theorem dX8_areCrossing_52 : decode cX8_areCrossing 52 = .ok (.iload 7, 2) := by decide +kernel
theorem dX8_areCrossing_54 : decode cX8_areCrossing 54 = .ok (.istore 5, 2) := by decide +kernel
theorem dX8_areCrossing_56 : decode cX8_areCrossing 56 = .ok (.iinc 6 1, 3) := by decide +kernel
theorem dX8_areCrossing_59 : decode cX8_areCrossing 59 = .ok (.goto (-49), 3) := by decide +kernel
theorem dX8_areCrossing_62 : decode cX8_areCrossing 62 = .ok (.iload 4, 2) := by decide +kernel
theorem dX8_areCrossing_64 : decode cX8_areCrossing 64 = .ok (.iconst 4, 1) := by decide +kernel
theorem dX8_areCrossing_65 : decode cX8_areCrossing 65 = .ok (.if_icmp .lt 7, 3) := by decide +kernel
theorem dX8_areCrossing_68 : decode cX8_areCrossing 68 = .ok (.iconst 1, 1) := by decide +kernel
theorem dX8_areCrossing_69 : decode cX8_areCrossing 69 = .ok (.goto 4, 3) := by decide +kernel
theorem dX8_areCrossing_72 : decode cX8_areCrossing 72 = .ok (.iconst 0, 1) := by decide +kernel
theorem dX8_areCrossing_73 : decode cX8_areCrossing 73 = .ok (.ireturn, 1) := by decide +kernel
theorem dX8_firstCrossing_0 : decode cX8_firstCrossing 0 = .ok (.iconst 0, 1) := by decide +kernel
theorem dX8_firstCrossing_1 : decode cX8_firstCrossing 1 = .ok (.istore_n 2, 1) := by decide +kernel
theorem dX8_firstCrossing_2 : decode cX8_firstCrossing 2 = .ok (.iload_n 2, 1) := by decide +kernel
theorem dX8_firstCrossing_3 : decode cX8_firstCrossing 3 = .ok (.aload_n 0, 1) := by decide +kernel
theorem dX8_firstCrossing_4 : decode cX8_firstCrossing 4 = .ok (.getfield 19, 3) := by decide +kernel
theorem dX8_firstCrossing_7 : decode cX8_firstCrossing 7 = .ok (.iload_n 1, 1) := by decide +kernel
theorem dX8_firstCrossing_8 : decode cX8_firstCrossing 8 = .ok (.iaload, 1) := by decide +kernel
theorem dX8_firstCrossing_9 : decode cX8_firstCrossing 9 = .ok (.if_icmp .ge 46, 3) := by decide +kernel
theorem dX8_firstCrossing_12 : decode cX8_firstCrossing 12 = .ok (.iload_n 2, 1) := by decide +kernel
theorem dX8_firstCrossing_13 : decode cX8_firstCrossing 13 = .ok (.iconst 1, 1) := by decide +kernel
theorem dX8_firstCrossing_14 : decode cX8_firstCrossing 14 = .ok (.iadd, 1) := by decide +kernel
theorem dX8_firstCrossing_15 : decode cX8_firstCrossing 15 = .ok (.istore_n 3, 1) := by decide +kernel
theorem dX8_firstCrossing_16 : decode cX8_firstCrossing 16 = .ok (.iload_n 3, 1) := by decide +kernel
theorem dX8_firstCrossing_17 : decode cX8_firstCrossing 17 = .ok (.aload_n 0, 1) := by decide +kernel
theorem dX8_firstCrossing_18 : decode cX8_firstCrossing 18 = .ok (.getfield 19, 3) := by decide +kernel
theorem dX8_firstCrossing_21 : decode cX8_firstCrossing 21 = .ok (.iload_n 1, 1) := by decide +kernel
theorem dX8_firstCrossing_22 : decode cX8_firstCrossing 22 = .ok (.iaload, 1) := by decide +kernel
theorem dX8_firstCrossing_23 : decode cX8_firstCrossing 23 = .ok (.if_icmp .ge 26, 3) := by decide +kernel
theorem dX8_firstCrossing_26 : decode cX8_firstCrossing 26 = .ok (.aload_n 0, 1) := by decide +kernel
theorem dX8_firstCrossing_27 : decode cX8_firstCrossing 27 = .ok (.iload_n 1, 1) := by decide +kernel
theorem dX8_firstCrossing_28 : decode cX8_firstCrossing 28 = .ok (.iload_n 2, 1) := by decide +kernel
theorem dX8_firstCrossing_29 : decode cX8_firstCrossing 29 = .ok (.iload_n 3, 1) := by decide +kernel
theorem dX8_firstCrossing_30 : decode cX8_firstCrossing 30 = .ok (.invokevirtual 69, 3) := by decide +kernel
theorem dX8_firstCrossing_33 : decode cX8_firstCrossing 33 = .ok (.ifCond .eq 10, 3) := by decide +kernel
theorem dX8_firstCrossing_36 : decode cX8_firstCrossing 36 = .ok (.bipush 10, 2) := by decide +kernel
theorem dX8_firstCrossing_38 : decode cX8_firstCrossing 38 = .ok (.iload_n 2, 1) := by decide +kernel
theorem dX8_firstCrossing_39 : decode cX8_firstCrossing 39 = .ok (.imul, 1) := by decide +kernel
theorem dX8_firstCrossing_40 : decode cX8_firstCrossing 40 = .ok (.iload_n 3, 1) := by decide +kernel
theorem dX8_firstCrossing_41 : decode cX8_firstCrossing 41 = .ok (.iadd, 1) := by decide +kernel
theorem dX8_firstCrossing_42 : decode cX8_firstCrossing 42 = .ok (.ireturn, 1) := by decide +kernel
theorem dX8_firstCrossing_43 : decode cX8_firstCrossing 43 = .ok (.iinc 3 1, 3) := by decide +kernel
theorem dX8_firstCrossing_46 : decode cX8_firstCrossing 46 = .ok (.goto (-30), 3) := by decide +kernel
theorem dX8_firstCrossing_49 : decode cX8_firstCrossing 49 = .ok (.iinc 2 1, 3) := by decide +kernel
theorem dX8_firstCrossing_52 : decode cX8_firstCrossing 52 = .ok (.goto (-50), 3) := by decide +kernel
theorem dX8_firstCrossing_55 : decode cX8_firstCrossing 55 = .ok (.bipush (-9), 2) := by decide +kernel
theorem dX8_firstCrossing_57 : decode cX8_firstCrossing 57 = .ok (.ireturn, 1) := by decide +kernel
theorem dX8_bitOf_0 : decode cX8_bitOf 0 = .ok (.iload_n 0, 1) := by decide +kernel
theorem dX8_bitOf_1 : decode cX8_bitOf 1 = .ok (.iload_n 1, 1) := by decide +kernel
theorem dX8_bitOf_2 : decode cX8_bitOf 2 = .ok (.if_icmp .ge 7, 3) := by decide +kernel
theorem dX8_bitOf_5 : decode cX8_bitOf 5 = .ok (.iload_n 0, 1) := by decide +kernel
theorem dX8_bitOf_6 : decode cX8_bitOf 6 = .ok (.goto 4, 3) := by decide +kernel
theorem dX8_bitOf_9 : decode cX8_bitOf 9 = .ok (.iload_n 1, 1) := by decide +kernel
theorem dX8_bitOf_10 : decode cX8_bitOf 10 = .ok (.istore_n 2, 1) := by decide +kernel
theorem dX8_bitOf_11 : decode cX8_bitOf 11 = .ok (.iload_n 0, 1) := by decide +kernel
theorem dX8_bitOf_12 : decode cX8_bitOf 12 = .ok (.iload_n 1, 1) := by decide +kernel
theorem dX8_bitOf_13 : decode cX8_bitOf 13 = .ok (.if_icmp .ge 7, 3) := by decide +kernel
theorem dX8_bitOf_16 : decode cX8_bitOf 16 = .ok (.iload_n 1, 1) := by decide +kernel
theorem dX8_bitOf_17 : decode cX8_bitOf 17 = .ok (.goto 4, 3) := by decide +kernel
theorem dX8_bitOf_20 : decode cX8_bitOf 20 = .ok (.iload_n 0, 1) := by decide +kernel
theorem dX8_bitOf_21 : decode cX8_bitOf 21 = .ok (.istore_n 3, 1) := by decide +kernel
theorem dX8_bitOf_22 : decode cX8_bitOf 22 = .ok (.iconst 1, 1) := by decide +kernel
theorem dX8_bitOf_23 : decode cX8_bitOf 23 = .ok (.iload_n 2, 1) := by decide +kernel
theorem dX8_bitOf_24 : decode cX8_bitOf 24 = .ok (.bipush 11, 2) := by decide +kernel
theorem dX8_bitOf_26 : decode cX8_bitOf 26 = .ok (.iload_n 2, 1) := by decide +kernel
theorem dX8_bitOf_27 : decode cX8_bitOf 27 = .ok (.isub, 1) := by decide +kernel
theorem dX8_bitOf_28 : decode cX8_bitOf 28 = .ok (.imul, 1) := by decide +kernel
theorem dX8_bitOf_29 : decode cX8_bitOf 29 = .ok (.iconst 2, 1) := by decide +kernel
theorem dX8_bitOf_30 : decode cX8_bitOf 30 = .ok (.idiv, 1) := by decide +kernel
theorem dX8_bitOf_31 : decode cX8_bitOf 31 = .ok (.iload_n 3, 1) := by decide +kernel
theorem dX8_bitOf_32 : decode cX8_bitOf 32 = .ok (.iadd, 1) := by decide +kernel
theorem dX8_bitOf_33 : decode cX8_bitOf 33 = .ok (.iload_n 2, 1) := by decide +kernel
theorem dX8_bitOf_34 : decode cX8_bitOf 34 = .ok (.isub, 1) := by decide +kernel
theorem dX8_bitOf_35 : decode cX8_bitOf 35 = .ok (.iconst 1, 1) := by decide +kernel
theorem dX8_bitOf_36 : decode cX8_bitOf 36 = .ok (.isub, 1) := by decide +kernel
theorem dX8_bitOf_37 : decode cX8_bitOf 37 = .ok (.ishl, 1) := by decide +kernel
theorem dX8_bitOf_38 : decode cX8_bitOf 38 = .ok (.ireturn, 1) := by decide +kernel
theorem dX8_firstPair_0 : decode cX8_firstPair 0 = .ok (.iconst 0, 1) := by decide +kernel
theorem dX8_firstPair_1 : decode cX8_firstPair 1 = .ok (.istore 4, 2) := by decide +kernel
theorem dX8_firstPair_3 : decode cX8_firstPair 3 = .ok (.iload 4, 2) := by decide +kernel
theorem dX8_firstPair_5 : decode cX8_firstPair 5 = .ok (.aload_n 0, 1) := by decide +kernel
theorem dX8_firstPair_6 : decode cX8_firstPair 6 = .ok (.getfield 7, 3) := by decide +kernel
theorem dX8_firstPair_9 : decode cX8_firstPair 9 = .ok (.iconst 0, 1) := by decide +kernel
theorem dX8_firstPair_10 : decode cX8_firstPair 10 = .ok (.iaload, 1) := by decide +kernel
theorem dX8_firstPair_11 : decode cX8_firstPair 11 = .ok (.if_icmp .ge 79, 3) := by decide +kernel
theorem dX8_firstPair_14 : decode cX8_firstPair 14 = .ok (.iload 4, 2) := by decide +kernel
theorem dX8_firstPair_16 : decode cX8_firstPair 16 = .ok (.iconst 1, 1) := by decide +kernel
theorem dX8_firstPair_17 : decode cX8_firstPair 17 = .ok (.iadd, 1) := by decide +kernel
theorem dX8_firstPair_18 : decode cX8_firstPair 18 = .ok (.istore 5, 2) := by decide +kernel
theorem dX8_firstPair_20 : decode cX8_firstPair 20 = .ok (.iload 5, 2) := by decide +kernel
theorem dX8_firstPair_22 : decode cX8_firstPair 22 = .ok (.aload_n 0, 1) := by decide +kernel
theorem dX8_firstPair_23 : decode cX8_firstPair 23 = .ok (.getfield 7, 3) := by decide +kernel
theorem dX8_firstPair_26 : decode cX8_firstPair 26 = .ok (.iconst 0, 1) := by decide +kernel
theorem dX8_firstPair_27 : decode cX8_firstPair 27 = .ok (.iaload, 1) := by decide +kernel
theorem dX8_firstPair_28 : decode cX8_firstPair 28 = .ok (.if_icmp .ge 56, 3) := by decide +kernel
theorem dX8_firstPair_31 : decode cX8_firstPair 31 = .ok (.iload_n 2, 1) := by decide +kernel
theorem dX8_firstPair_32 : decode cX8_firstPair 32 = .ok (.iload 4, 2) := by decide +kernel
theorem dX8_firstPair_34 : decode cX8_firstPair 34 = .ok (.iload 5, 2) := by decide +kernel
theorem dX8_firstPair_36 : decode cX8_firstPair 36 = .ok (.invokestatic 73, 3) := by decide +kernel
theorem dX8_firstPair_39 : decode cX8_firstPair 39 = .ok (.iand, 1) := by decide +kernel
theorem dX8_firstPair_40 : decode cX8_firstPair 40 = .ok (.ifCond .eq 38, 3) := by decide +kernel
theorem dX8_firstPair_43 : decode cX8_firstPair 43 = .ok (.aload_n 0, 1) := by decide +kernel
theorem dX8_firstPair_44 : decode cX8_firstPair 44 = .ok (.iload_n 1, 1) := by decide +kernel
theorem dX8_firstPair_45 : decode cX8_firstPair 45 = .ok (.iload 4, 2) := by decide +kernel
theorem dX8_firstPair_47 : decode cX8_firstPair 47 = .ok (.invokevirtual 65, 3) := by decide +kernel
theorem dX8_firstPair_50 : decode cX8_firstPair 50 = .ok (.aload_n 0, 1) := by decide +kernel
theorem dX8_firstPair_51 : decode cX8_firstPair 51 = .ok (.iload_n 1, 1) := by decide +kernel
theorem dX8_firstPair_52 : decode cX8_firstPair 52 = .ok (.iload 5, 2) := by decide +kernel
theorem dX8_firstPair_54 : decode cX8_firstPair 54 = .ok (.invokevirtual 65, 3) := by decide +kernel
theorem dX8_firstPair_57 : decode cX8_firstPair 57 = .ok (.if_icmp .ne 7, 3) := by decide +kernel
theorem dX8_firstPair_60 : decode cX8_firstPair 60 = .ok (.iconst 1, 1) := by decide +kernel
theorem dX8_firstPair_61 : decode cX8_firstPair 61 = .ok (.goto 4, 3) := by decide +kernel
theorem dX8_firstPair_64 : decode cX8_firstPair 64 = .ok (.iconst 0, 1) := by decide +kernel
theorem dX8_firstPair_65 : decode cX8_firstPair 65 = .ok (.iload_n 3, 1) := by decide +kernel
theorem dX8_firstPair_66 : decode cX8_firstPair 66 = .ok (.if_icmp .ne 12, 3) := by decide +kernel
theorem dX8_firstPair_69 : decode cX8_firstPair 69 = .ok (.bipush 10, 2) := by decide +kernel
theorem dX8_firstPair_71 : decode cX8_firstPair 71 = .ok (.iload 4, 2) := by decide +kernel
theorem dX8_firstPair_73 : decode cX8_firstPair 73 = .ok (.imul, 1) := by decide +kernel
theorem dX8_firstPair_74 : decode cX8_firstPair 74 = .ok (.iload 5, 2) := by decide +kernel
theorem dX8_firstPair_76 : decode cX8_firstPair 76 = .ok (.iadd, 1) := by decide +kernel
theorem dX8_firstPair_77 : decode cX8_firstPair 77 = .ok (.ireturn, 1) := by decide +kernel
theorem dX8_firstPair_78 : decode cX8_firstPair 78 = .ok (.iinc 5 1, 3) := by decide +kernel
theorem dX8_firstPair_81 : decode cX8_firstPair 81 = .ok (.goto (-61), 3) := by decide +kernel
theorem dX8_firstPair_84 : decode cX8_firstPair 84 = .ok (.iinc 4 1, 3) := by decide +kernel
theorem dX8_firstPair_87 : decode cX8_firstPair 87 = .ok (.goto (-84), 3) := by decide +kernel
theorem dX8_firstPair_90 : decode cX8_firstPair 90 = .ok (.bipush (-9), 2) := by decide +kernel
theorem dX8_firstPair_92 : decode cX8_firstPair 92 = .ok (.ireturn, 1) := by decide +kernel
theorem dX8_firstSize_0 : decode cX8_firstSize 0 = .ok (.iconst 0, 1) := by decide +kernel
theorem dX8_firstSize_1 : decode cX8_firstSize 1 = .ok (.istore_n 2, 1) := by decide +kernel
theorem dX8_firstSize_2 : decode cX8_firstSize 2 = .ok (.iload_n 2, 1) := by decide +kernel
theorem dX8_firstSize_3 : decode cX8_firstSize 3 = .ok (.aload_n 0, 1) := by decide +kernel
theorem dX8_firstSize_4 : decode cX8_firstSize 4 = .ok (.getfield 19, 3) := by decide +kernel
theorem dX8_firstSize_7 : decode cX8_firstSize 7 = .ok (.iload_n 1, 1) := by decide +kernel
theorem dX8_firstSize_8 : decode cX8_firstSize 8 = .ok (.iaload, 1) := by decide +kernel
theorem dX8_firstSize_9 : decode cX8_firstSize 9 = .ok (.if_icmp .ge 29, 3) := by decide +kernel
theorem dX8_firstSize_12 : decode cX8_firstSize 12 = .ok (.aload_n 0, 1) := by decide +kernel
theorem dX8_firstSize_13 : decode cX8_firstSize 13 = .ok (.getfield 7, 3) := by decide +kernel
theorem dX8_firstSize_16 : decode cX8_firstSize 16 = .ok (.iconst 1, 1) := by decide +kernel
theorem dX8_firstSize_17 : decode cX8_firstSize 17 = .ok (.iaload, 1) := by decide +kernel
theorem dX8_firstSize_18 : decode cX8_firstSize 18 = .ok (.aload_n 0, 1) := by decide +kernel
theorem dX8_firstSize_19 : decode cX8_firstSize 19 = .ok (.iload_n 1, 1) := by decide +kernel
theorem dX8_firstSize_20 : decode cX8_firstSize 20 = .ok (.iload_n 2, 1) := by decide +kernel
theorem dX8_firstSize_21 : decode cX8_firstSize 21 = .ok (.invokevirtual 76, 3) := by decide +kernel
theorem dX8_firstSize_24 : decode cX8_firstSize 24 = .ok (.ishr, 1) := by decide +kernel
theorem dX8_firstSize_25 : decode cX8_firstSize 25 = .ok (.iconst 1, 1) := by decide +kernel
theorem dX8_firstSize_26 : decode cX8_firstSize 26 = .ok (.iand, 1) := by decide +kernel
theorem dX8_firstSize_27 : decode cX8_firstSize 27 = .ok (.ifCond .ne 5, 3) := by decide +kernel
theorem dX8_firstSize_30 : decode cX8_firstSize 30 = .ok (.iload_n 2, 1) := by decide +kernel
theorem dX8_firstSize_31 : decode cX8_firstSize 31 = .ok (.ireturn, 1) := by decide +kernel
theorem dX8_firstSize_32 : decode cX8_firstSize 32 = .ok (.iinc 2 1, 3) := by decide +kernel
theorem dX8_firstSize_35 : decode cX8_firstSize 35 = .ok (.goto (-33), 3) := by decide +kernel
theorem dX8_firstSize_38 : decode cX8_firstSize 38 = .ok (.bipush (-9), 2) := by decide +kernel
theorem dX8_firstSize_40 : decode cX8_firstSize 40 = .ok (.ireturn, 1) := by decide +kernel
theorem dX8_reason_0 : decode cX8_reason 0 = .ok (.aload_n 0, 1) := by decide +kernel
theorem dX8_reason_1 : decode cX8_reason 1 = .ok (.iload_n 1, 1) := by decide +kernel
theorem dX8_reason_2 : decode cX8_reason 2 = .ok (.invokevirtual 79, 3) := by decide +kernel
theorem dX8_reason_5 : decode cX8_reason 5 = .ok (.bipush (-9), 2) := by decide +kernel
theorem dX8_reason_7 : decode cX8_reason 7 = .ok (.if_icmp .eq 5, 3) := by decide +kernel
theorem dX8_reason_10 : decode cX8_reason 10 = .ok (.iconst 1, 1) := by decide +kernel
theorem dX8_reason_11 : decode cX8_reason 11 = .ok (.ireturn, 1) := by decide +kernel
theorem dX8_reason_12 : decode cX8_reason 12 = .ok (.aload_n 0, 1) := by decide +kernel
theorem dX8_reason_13 : decode cX8_reason 13 = .ok (.getfield 7, 3) := by decide +kernel
theorem dX8_reason_16 : decode cX8_reason 16 = .ok (.iconst 2, 1) := by decide +kernel
theorem dX8_reason_17 : decode cX8_reason 17 = .ok (.iaload, 1) := by decide +kernel
theorem dX8_reason_18 : decode cX8_reason 18 = .ok (.aload_n 0, 1) := by decide +kernel
theorem dX8_reason_19 : decode cX8_reason 19 = .ok (.getfield 19, 3) := by decide +kernel
theorem dX8_reason_22 : decode cX8_reason 22 = .ok (.iload_n 1, 1) := by decide +kernel
theorem dX8_reason_23 : decode cX8_reason 23 = .ok (.iaload, 1) := by decide +kernel
theorem dX8_reason_24 : decode cX8_reason 24 = .ok (.ishr, 1) := by decide +kernel
theorem dX8_reason_25 : decode cX8_reason 25 = .ok (.iconst 1, 1) := by decide +kernel
theorem dX8_reason_26 : decode cX8_reason 26 = .ok (.iand, 1) := by decide +kernel
theorem dX8_reason_27 : decode cX8_reason 27 = .ok (.ifCond .ne 5, 3) := by decide +kernel
theorem dX8_reason_30 : decode cX8_reason 30 = .ok (.iconst 2, 1) := by decide +kernel
theorem dX8_reason_31 : decode cX8_reason 31 = .ok (.ireturn, 1) := by decide +kernel
theorem dX8_reason_32 : decode cX8_reason 32 = .ok (.aload_n 0, 1) := by decide +kernel
theorem dX8_reason_33 : decode cX8_reason 33 = .ok (.iload_n 1, 1) := by decide +kernel
theorem dX8_reason_34 : decode cX8_reason 34 = .ok (.aload_n 0, 1) := by decide +kernel
theorem dX8_reason_35 : decode cX8_reason 35 = .ok (.getfield 7, 3) := by decide +kernel
theorem dX8_reason_38 : decode cX8_reason 38 = .ok (.iconst 3, 1) := by decide +kernel
theorem dX8_reason_39 : decode cX8_reason 39 = .ok (.iaload, 1) := by decide +kernel
theorem dX8_reason_40 : decode cX8_reason 40 = .ok (.iconst 1, 1) := by decide +kernel
theorem dX8_reason_41 : decode cX8_reason 41 = .ok (.invokevirtual 82, 3) := by decide +kernel
theorem dX8_reason_44 : decode cX8_reason 44 = .ok (.bipush (-9), 2) := by decide +kernel
theorem dX8_reason_46 : decode cX8_reason 46 = .ok (.if_icmp .eq 5, 3) := by decide +kernel
theorem dX8_reason_49 : decode cX8_reason 49 = .ok (.iconst 3, 1) := by decide +kernel
theorem dX8_reason_50 : decode cX8_reason 50 = .ok (.ireturn, 1) := by decide +kernel
theorem dX8_reason_51 : decode cX8_reason 51 = .ok (.aload_n 0, 1) := by decide +kernel
theorem dX8_reason_52 : decode cX8_reason 52 = .ok (.iload_n 1, 1) := by decide +kernel
theorem dX8_reason_53 : decode cX8_reason 53 = .ok (.aload_n 0, 1) := by decide +kernel
theorem dX8_reason_54 : decode cX8_reason 54 = .ok (.getfield 7, 3) := by decide +kernel
theorem dX8_reason_57 : decode cX8_reason 57 = .ok (.iconst 4, 1) := by decide +kernel
theorem dX8_reason_58 : decode cX8_reason 58 = .ok (.iaload, 1) := by decide +kernel
theorem dX8_reason_59 : decode cX8_reason 59 = .ok (.iconst 0, 1) := by decide +kernel
theorem dX8_reason_60 : decode cX8_reason 60 = .ok (.invokevirtual 82, 3) := by decide +kernel
theorem dX8_reason_63 : decode cX8_reason 63 = .ok (.bipush (-9), 2) := by decide +kernel
theorem dX8_reason_65 : decode cX8_reason 65 = .ok (.if_icmp .eq 5, 3) := by decide +kernel
theorem dX8_reason_68 : decode cX8_reason 68 = .ok (.iconst 4, 1) := by decide +kernel
theorem dX8_reason_69 : decode cX8_reason 69 = .ok (.ireturn, 1) := by decide +kernel
theorem dX8_reason_70 : decode cX8_reason 70 = .ok (.aload_n 0, 1) := by decide +kernel
theorem dX8_reason_71 : decode cX8_reason 71 = .ok (.getfield 7, 3) := by decide +kernel
theorem dX8_reason_74 : decode cX8_reason 74 = .ok (.iconst 5, 1) := by decide +kernel
theorem dX8_reason_75 : decode cX8_reason 75 = .ok (.iaload, 1) := by decide +kernel
theorem dX8_reason_76 : decode cX8_reason 76 = .ok (.iconst 1, 1) := by decide +kernel
theorem dX8_reason_77 : decode cX8_reason 77 = .ok (.if_icmp .ne 17, 3) := by decide +kernel
theorem dX8_reason_80 : decode cX8_reason 80 = .ok (.aload_n 0, 1) := by decide +kernel
theorem dX8_reason_81 : decode cX8_reason 81 = .ok (.iload_n 1, 1) := by decide +kernel
theorem dX8_reason_82 : decode cX8_reason 82 = .ok (.invokevirtual 86, 3) := by decide +kernel
theorem dX8_reason_85 : decode cX8_reason 85 = .ok (.bipush (-9), 2) := by decide +kernel
theorem dX8_reason_87 : decode cX8_reason 87 = .ok (.if_icmp .eq 7, 3) := by decide +kernel
theorem dX8_reason_90 : decode cX8_reason 90 = .ok (.iconst 5, 1) := by decide +kernel
theorem dX8_reason_91 : decode cX8_reason 91 = .ok (.goto 4, 3) := by decide +kernel
theorem dX8_reason_94 : decode cX8_reason 94 = .ok (.iconst 0, 1) := by decide +kernel
theorem dX8_reason_95 : decode cX8_reason 95 = .ok (.ireturn, 1) := by decide +kernel
theorem dX8_placeOf_0 : decode cX8_placeOf 0 = .ok (.aload_n 0, 1) := by decide +kernel
theorem dX8_placeOf_1 : decode cX8_placeOf 1 = .ok (.iload_n 1, 1) := by decide +kernel
theorem dX8_placeOf_2 : decode cX8_placeOf 2 = .ok (.invokevirtual 62, 3) := by decide +kernel
theorem dX8_placeOf_5 : decode cX8_placeOf 5 = .ok (.tableswitch 80 1 5 #[35, 41, 48, 61, 74], 35) := by decide +kernel
theorem dX8_placeOf_40 : decode cX8_placeOf 40 = .ok (.aload_n 0, 1) := by decide +kernel
theorem dX8_placeOf_41 : decode cX8_placeOf 41 = .ok (.iload_n 1, 1) := by decide +kernel
theorem dX8_placeOf_42 : decode cX8_placeOf 42 = .ok (.invokevirtual 79, 3) := by decide +kernel
theorem dX8_placeOf_45 : decode cX8_placeOf 45 = .ok (.ireturn, 1) := by decide +kernel
theorem dX8_placeOf_46 : decode cX8_placeOf 46 = .ok (.aload_n 0, 1) := by decide +kernel
theorem dX8_placeOf_47 : decode cX8_placeOf 47 = .ok (.getfield 19, 3) := by decide +kernel
theorem dX8_placeOf_50 : decode cX8_placeOf 50 = .ok (.iload_n 1, 1) := by decide +kernel
theorem dX8_placeOf_51 : decode cX8_placeOf 51 = .ok (.iaload, 1) := by decide +kernel
theorem dX8_placeOf_52 : decode cX8_placeOf 52 = .ok (.ireturn, 1) := by decide +kernel
theorem dX8_placeOf_53 : decode cX8_placeOf 53 = .ok (.aload_n 0, 1) := by decide +kernel
theorem dX8_placeOf_54 : decode cX8_placeOf 54 = .ok (.iload_n 1, 1) := by decide +kernel
theorem dX8_placeOf_55 : decode cX8_placeOf 55 = .ok (.aload_n 0, 1) := by decide +kernel
theorem dX8_placeOf_56 : decode cX8_placeOf 56 = .ok (.getfield 7, 3) := by decide +kernel
theorem dX8_placeOf_59 : decode cX8_placeOf 59 = .ok (.iconst 3, 1) := by decide +kernel
theorem dX8_placeOf_60 : decode cX8_placeOf 60 = .ok (.iaload, 1) := by decide +kernel
theorem dX8_placeOf_61 : decode cX8_placeOf 61 = .ok (.iconst 1, 1) := by decide +kernel
theorem dX8_placeOf_62 : decode cX8_placeOf 62 = .ok (.invokevirtual 82, 3) := by decide +kernel
theorem dX8_placeOf_65 : decode cX8_placeOf 65 = .ok (.ireturn, 1) := by decide +kernel
theorem dX8_placeOf_66 : decode cX8_placeOf 66 = .ok (.aload_n 0, 1) := by decide +kernel
theorem dX8_placeOf_67 : decode cX8_placeOf 67 = .ok (.iload_n 1, 1) := by decide +kernel
theorem dX8_placeOf_68 : decode cX8_placeOf 68 = .ok (.aload_n 0, 1) := by decide +kernel
theorem dX8_placeOf_69 : decode cX8_placeOf 69 = .ok (.getfield 7, 3) := by decide +kernel
theorem dX8_placeOf_72 : decode cX8_placeOf 72 = .ok (.iconst 4, 1) := by decide +kernel
theorem dX8_placeOf_73 : decode cX8_placeOf 73 = .ok (.iaload, 1) := by decide +kernel
theorem dX8_placeOf_74 : decode cX8_placeOf 74 = .ok (.iconst 0, 1) := by decide +kernel
theorem dX8_placeOf_75 : decode cX8_placeOf 75 = .ok (.invokevirtual 82, 3) := by decide +kernel
theorem dX8_placeOf_78 : decode cX8_placeOf 78 = .ok (.ireturn, 1) := by decide +kernel
theorem dX8_placeOf_79 : decode cX8_placeOf 79 = .ok (.aload_n 0, 1) := by decide +kernel
theorem dX8_placeOf_80 : decode cX8_placeOf 80 = .ok (.iload_n 1, 1) := by decide +kernel
theorem dX8_placeOf_81 : decode cX8_placeOf 81 = .ok (.invokevirtual 86, 3) := by decide +kernel
theorem dX8_placeOf_84 : decode cX8_placeOf 84 = .ok (.ireturn, 1) := by decide +kernel
theorem dX8_placeOf_85 : decode cX8_placeOf 85 = .ok (.bipush (-9), 2) := by decide +kernel
theorem dX8_placeOf_87 : decode cX8_placeOf 87 = .ok (.ireturn, 1) := by decide +kernel
theorem dX8_isBelow_0 : decode cX8_isBelow 0 = .ok (.iconst 0, 1) := by decide +kernel
theorem dX8_isBelow_1 : decode cX8_isBelow 1 = .ok (.istore_n 3, 1) := by decide +kernel
theorem dX8_isBelow_2 : decode cX8_isBelow 2 = .ok (.iload_n 3, 1) := by decide +kernel
theorem dX8_isBelow_3 : decode cX8_isBelow 3 = .ok (.aload_n 0, 1) := by decide +kernel
theorem dX8_isBelow_4 : decode cX8_isBelow 4 = .ok (.getfield 7, 3) := by decide +kernel
theorem dX8_isBelow_7 : decode cX8_isBelow 7 = .ok (.iconst 0, 1) := by decide +kernel
theorem dX8_isBelow_8 : decode cX8_isBelow 8 = .ok (.iaload, 1) := by decide +kernel
theorem dX8_isBelow_9 : decode cX8_isBelow 9 = .ok (.if_icmp .ge 58, 3) := by decide +kernel
theorem dX8_isBelow_12 : decode cX8_isBelow 12 = .ok (.iconst 0, 1) := by decide +kernel
theorem dX8_isBelow_13 : decode cX8_isBelow 13 = .ok (.istore 4, 2) := by decide +kernel
theorem dX8_isBelow_15 : decode cX8_isBelow 15 = .ok (.iload 4, 2) := by decide +kernel
theorem dX8_isBelow_17 : decode cX8_isBelow 17 = .ok (.iload_n 3, 1) := by decide +kernel
theorem dX8_isBelow_18 : decode cX8_isBelow 18 = .ok (.if_icmp .ge 43, 3) := by decide +kernel
theorem dX8_isBelow_21 : decode cX8_isBelow 21 = .ok (.aload_n 0, 1) := by decide +kernel
theorem dX8_isBelow_22 : decode cX8_isBelow 22 = .ok (.iload_n 1, 1) := by decide +kernel
theorem dX8_isBelow_23 : decode cX8_isBelow 23 = .ok (.iload_n 3, 1) := by decide +kernel
theorem dX8_isBelow_24 : decode cX8_isBelow 24 = .ok (.invokevirtual 65, 3) := by decide +kernel
theorem dX8_isBelow_27 : decode cX8_isBelow 27 = .ok (.aload_n 0, 1) := by decide +kernel
theorem dX8_isBelow_28 : decode cX8_isBelow 28 = .ok (.iload_n 1, 1) := by decide +kernel
theorem dX8_isBelow_29 : decode cX8_isBelow 29 = .ok (.iload 4, 2) := by decide +kernel
theorem dX8_isBelow_31 : decode cX8_isBelow 31 = .ok (.invokevirtual 65, 3) := by decide +kernel
theorem dX8_isBelow_34 : decode cX8_isBelow 34 = .ok (.if_icmp .ne 21, 3) := by decide +kernel
theorem dX8_isBelow_37 : decode cX8_isBelow 37 = .ok (.aload_n 0, 1) := by decide +kernel
theorem dX8_isBelow_38 : decode cX8_isBelow 38 = .ok (.iload_n 2, 1) := by decide +kernel
theorem dX8_isBelow_39 : decode cX8_isBelow 39 = .ok (.iload_n 3, 1) := by decide +kernel
theorem dX8_isBelow_40 : decode cX8_isBelow 40 = .ok (.invokevirtual 65, 3) := by decide +kernel
theorem dX8_isBelow_43 : decode cX8_isBelow 43 = .ok (.aload_n 0, 1) := by decide +kernel
theorem dX8_isBelow_44 : decode cX8_isBelow 44 = .ok (.iload_n 2, 1) := by decide +kernel
theorem dX8_isBelow_45 : decode cX8_isBelow 45 = .ok (.iload 4, 2) := by decide +kernel
theorem dX8_isBelow_47 : decode cX8_isBelow 47 = .ok (.invokevirtual 65, 3) := by decide +kernel
theorem dX8_isBelow_50 : decode cX8_isBelow 50 = .ok (.if_icmp .eq 5, 3) := by decide +kernel
theorem dX8_isBelow_53 : decode cX8_isBelow 53 = .ok (.iconst 0, 1) := by decide +kernel
theorem dX8_isBelow_54 : decode cX8_isBelow 54 = .ok (.ireturn, 1) := by decide +kernel
theorem dX8_isBelow_55 : decode cX8_isBelow 55 = .ok (.iinc 4 1, 3) := by decide +kernel
theorem dX8_isBelow_58 : decode cX8_isBelow 58 = .ok (.goto (-43), 3) := by decide +kernel
theorem dX8_isBelow_61 : decode cX8_isBelow 61 = .ok (.iinc 3 1, 3) := by decide +kernel
theorem dX8_isBelow_64 : decode cX8_isBelow 64 = .ok (.goto (-62), 3) := by decide +kernel
theorem dX8_isBelow_67 : decode cX8_isBelow 67 = .ok (.iconst 1, 1) := by decide +kernel
theorem dX8_isBelow_68 : decode cX8_isBelow 68 = .ok (.ireturn, 1) := by decide +kernel
theorem dX8_isStrictly_0 : decode cX8_isStrictly 0 = .ok (.iload_n 1, 1) := by decide +kernel
theorem dX8_isStrictly_1 : decode cX8_isStrictly 1 = .ok (.iload_n 2, 1) := by decide +kernel
theorem dX8_isStrictly_2 : decode cX8_isStrictly 2 = .ok (.if_icmp .eq 16, 3) := by decide +kernel
theorem dX8_isStrictly_5 : decode cX8_isStrictly 5 = .ok (.aload_n 0, 1) := by decide +kernel
theorem dX8_isStrictly_6 : decode cX8_isStrictly 6 = .ok (.iload_n 1, 1) := by decide +kernel
theorem dX8_isStrictly_7 : decode cX8_isStrictly 7 = .ok (.iload_n 2, 1) := by decide +kernel
theorem dX8_isStrictly_8 : decode cX8_isStrictly 8 = .ok (.invokevirtual 89, 3) := by decide +kernel
theorem dX8_isStrictly_11 : decode cX8_isStrictly 11 = .ok (.ifCond .eq 7, 3) := by decide +kernel
theorem dX8_isStrictly_14 : decode cX8_isStrictly 14 = .ok (.iconst 1, 1) := by decide +kernel
theorem dX8_isStrictly_15 : decode cX8_isStrictly 15 = .ok (.goto 4, 3) := by decide +kernel
theorem dX8_isStrictly_18 : decode cX8_isStrictly 18 = .ok (.iconst 0, 1) := by decide +kernel
theorem dX8_isStrictly_19 : decode cX8_isStrictly 19 = .ok (.ireturn, 1) := by decide +kernel
theorem dX8_rank_0 : decode cX8_rank 0 = .ok (.aload_n 0, 1) := by decide +kernel
theorem dX8_rank_1 : decode cX8_rank 1 = .ok (.getfield 7, 3) := by decide +kernel
theorem dX8_rank_4 : decode cX8_rank 4 = .ok (.iconst 0, 1) := by decide +kernel
theorem dX8_rank_5 : decode cX8_rank 5 = .ok (.iaload, 1) := by decide +kernel
theorem dX8_rank_6 : decode cX8_rank 6 = .ok (.aload_n 0, 1) := by decide +kernel
theorem dX8_rank_7 : decode cX8_rank 7 = .ok (.getfield 19, 3) := by decide +kernel
theorem dX8_rank_10 : decode cX8_rank 10 = .ok (.iload_n 1, 1) := by decide +kernel
theorem dX8_rank_11 : decode cX8_rank 11 = .ok (.iaload, 1) := by decide +kernel
theorem dX8_rank_12 : decode cX8_rank 12 = .ok (.isub, 1) := by decide +kernel
theorem dX8_rank_13 : decode cX8_rank 13 = .ok (.ireturn, 1) := by decide +kernel
theorem dX8_sets_0 : decode cX8_sets 0 = .ok (.aload_n 0, 1) := by decide +kernel
theorem dX8_sets_1 : decode cX8_sets 1 = .ok (.invokevirtual 93, 3) := by decide +kernel
theorem dX8_sets_4 : decode cX8_sets 4 = .ok (.aload_n 0, 1) := by decide +kernel
theorem dX8_sets_5 : decode cX8_sets 5 = .ok (.getfield 7, 3) := by decide +kernel
theorem dX8_sets_8 : decode cX8_sets 8 = .ok (.iload_n 1, 1) := by decide +kernel
theorem dX8_sets_9 : decode cX8_sets 9 = .ok (.iaload, 1) := by decide +kernel
theorem dX8_sets_10 : decode cX8_sets 10 = .ok (.istore_n 3, 1) := by decide +kernel
theorem dX8_sets_11 : decode cX8_sets 11 = .ok (.aload_n 0, 1) := by decide +kernel
theorem dX8_sets_12 : decode cX8_sets 12 = .ok (.getfield 7, 3) := by decide +kernel
theorem dX8_sets_15 : decode cX8_sets 15 = .ok (.iload_n 1, 1) := by decide +kernel
theorem dX8_sets_16 : decode cX8_sets 16 = .ok (.iload_n 2, 1) := by decide +kernel
theorem dX8_sets_17 : decode cX8_sets 17 = .ok (.iastore, 1) := by decide +kernel
theorem dX8_sets_18 : decode cX8_sets 18 = .ok (.aload_n 0, 1) := by decide +kernel
theorem dX8_sets_19 : decode cX8_sets 19 = .ok (.invokevirtual 45, 3) := by decide +kernel
theorem dX8_sets_22 : decode cX8_sets 22 = .ok (.iload_n 3, 1) := by decide +kernel
theorem dX8_sets_23 : decode cX8_sets 23 = .ok (.ireturn, 1) := by decide +kernel
theorem dX8_setSize_0 : decode cX8_setSize 0 = .ok (.iload_n 1, 1) := by decide +kernel
theorem dX8_setSize_1 : decode cX8_setSize 1 = .ok (.iconst 1, 1) := by decide +kernel
theorem dX8_setSize_2 : decode cX8_setSize 2 = .ok (.bipush 6, 2) := by decide +kernel
theorem dX8_setSize_4 : decode cX8_setSize 4 = .ok (.invokestatic 96, 3) := by decide +kernel
theorem dX8_setSize_7 : decode cX8_setSize 7 = .ok (.ifCond .ne 5, 3) := by decide +kernel
theorem dX8_setSize_10 : decode cX8_setSize 10 = .ok (.iconst (-1), 1) := by decide +kernel
theorem dX8_setSize_11 : decode cX8_setSize 11 = .ok (.ireturn, 1) := by decide +kernel
theorem dX8_setSize_12 : decode cX8_setSize 12 = .ok (.aload_n 0, 1) := by decide +kernel
theorem dX8_setSize_13 : decode cX8_setSize 13 = .ok (.invokevirtual 93, 3) := by decide +kernel
theorem dX8_setSize_16 : decode cX8_setSize 16 = .ok (.aload_n 0, 1) := by decide +kernel
theorem dX8_setSize_17 : decode cX8_setSize 17 = .ok (.getfield 7, 3) := by decide +kernel
theorem dX8_setSize_20 : decode cX8_setSize 20 = .ok (.iconst 0, 1) := by decide +kernel
theorem dX8_setSize_21 : decode cX8_setSize 21 = .ok (.iaload, 1) := by decide +kernel
theorem dX8_setSize_22 : decode cX8_setSize 22 = .ok (.istore_n 2, 1) := by decide +kernel
theorem dX8_setSize_23 : decode cX8_setSize 23 = .ok (.aload_n 0, 1) := by decide +kernel
theorem dX8_setSize_24 : decode cX8_setSize 24 = .ok (.iload_n 1, 1) := by decide +kernel
theorem dX8_setSize_25 : decode cX8_setSize 25 = .ok (.invokevirtual 38, 3) := by decide +kernel
theorem dX8_setSize_28 : decode cX8_setSize 28 = .ok (.iload_n 2, 1) := by decide +kernel
theorem dX8_setSize_29 : decode cX8_setSize 29 = .ok (.ireturn, 1) := by decide +kernel
theorem dX8_setsBit_0 : decode cX8_setsBit 0 = .ok (.aload_n 0, 1) := by decide +kernel
theorem dX8_setsBit_1 : decode cX8_setsBit 1 = .ok (.iload_n 1, 1) := by decide +kernel
theorem dX8_setsBit_2 : decode cX8_setsBit 2 = .ok (.iload_n 3, 1) := by decide +kernel
theorem dX8_setsBit_3 : decode cX8_setsBit 3 = .ok (.ifCond .eq 14, 3) := by decide +kernel
theorem dX8_setsBit_6 : decode cX8_setsBit 6 = .ok (.aload_n 0, 1) := by decide +kernel
theorem dX8_setsBit_7 : decode cX8_setsBit 7 = .ok (.getfield 7, 3) := by decide +kernel
theorem dX8_setsBit_10 : decode cX8_setsBit 10 = .ok (.iload_n 1, 1) := by decide +kernel
theorem dX8_setsBit_11 : decode cX8_setsBit 11 = .ok (.iaload, 1) := by decide +kernel
theorem dX8_setsBit_12 : decode cX8_setsBit 12 = .ok (.iload_n 2, 1) := by decide +kernel
theorem dX8_setsBit_13 : decode cX8_setsBit 13 = .ok (.ior, 1) := by decide +kernel
theorem dX8_setsBit_14 : decode cX8_setsBit 14 = .ok (.goto 13, 3) := by decide +kernel
theorem dX8_setsBit_17 : decode cX8_setsBit 17 = .ok (.aload_n 0, 1) := by decide +kernel
theorem dX8_setsBit_18 : decode cX8_setsBit 18 = .ok (.getfield 7, 3) := by decide +kernel
theorem dX8_setsBit_21 : decode cX8_setsBit 21 = .ok (.iload_n 1, 1) := by decide +kernel
theorem dX8_setsBit_22 : decode cX8_setsBit 22 = .ok (.iaload, 1) := by decide +kernel
theorem dX8_setsBit_23 : decode cX8_setsBit 23 = .ok (.iload_n 2, 1) := by decide +kernel
theorem dX8_setsBit_24 : decode cX8_setsBit 24 = .ok (.iconst (-1), 1) := by decide +kernel
theorem dX8_setsBit_25 : decode cX8_setsBit 25 = .ok (.ixor, 1) := by decide +kernel
theorem dX8_setsBit_26 : decode cX8_setsBit 26 = .ok (.iand, 1) := by decide +kernel
theorem dX8_setsBit_27 : decode cX8_setsBit 27 = .ok (.invokevirtual 99, 3) := by decide +kernel
theorem dX8_setsBit_30 : decode cX8_setsBit 30 = .ok (.istore 4, 2) := by decide +kernel
theorem dX8_setsBit_32 : decode cX8_setsBit 32 = .ok (.iload 4, 2) := by decide +kernel
theorem dX8_setsBit_34 : decode cX8_setsBit 34 = .ok (.iload_n 2, 1) := by decide +kernel
theorem dX8_setsBit_35 : decode cX8_setsBit 35 = .ok (.iand, 1) := by decide +kernel
theorem dX8_setsBit_36 : decode cX8_setsBit 36 = .ok (.ifCond .eq 7, 3) := by decide +kernel
theorem dX8_setsBit_39 : decode cX8_setsBit 39 = .ok (.iconst 1, 1) := by decide +kernel
theorem dX8_setsBit_40 : decode cX8_setsBit 40 = .ok (.goto 4, 3) := by decide +kernel
theorem dX8_setsBit_43 : decode cX8_setsBit 43 = .ok (.iconst 0, 1) := by decide +kernel
theorem dX8_setsBit_44 : decode cX8_setsBit 44 = .ok (.ireturn, 1) := by decide +kernel
theorem dX8_allowSize_0 : decode cX8_allowSize 0 = .ok (.iload_n 1, 1) := by decide +kernel
theorem dX8_allowSize_1 : decode cX8_allowSize 1 = .ok (.iconst 1, 1) := by decide +kernel
theorem dX8_allowSize_2 : decode cX8_allowSize 2 = .ok (.bipush 6, 2) := by decide +kernel
theorem dX8_allowSize_4 : decode cX8_allowSize 4 = .ok (.invokestatic 96, 3) := by decide +kernel
theorem dX8_allowSize_7 : decode cX8_allowSize 7 = .ok (.ifCond .eq 15, 3) := by decide +kernel
theorem dX8_allowSize_10 : decode cX8_allowSize 10 = .ok (.aload_n 0, 1) := by decide +kernel
theorem dX8_allowSize_11 : decode cX8_allowSize 11 = .ok (.iconst 1, 1) := by decide +kernel
theorem dX8_allowSize_12 : decode cX8_allowSize 12 = .ok (.iconst 1, 1) := by decide +kernel
theorem dX8_allowSize_13 : decode cX8_allowSize 13 = .ok (.iload_n 1, 1) := by decide +kernel
theorem dX8_allowSize_14 : decode cX8_allowSize 14 = .ok (.ishl, 1) := by decide +kernel
theorem dX8_allowSize_15 : decode cX8_allowSize 15 = .ok (.iload_n 2, 1) := by decide +kernel
theorem dX8_allowSize_16 : decode cX8_allowSize 16 = .ok (.invokevirtual 102, 3) := by decide +kernel
theorem dX8_allowSize_19 : decode cX8_allowSize 19 = .ok (.goto 4, 3) := by decide +kernel
theorem dX8_allowSize_22 : decode cX8_allowSize 22 = .ok (.iconst (-1), 1) := by decide +kernel
theorem dX8_allowSize_23 : decode cX8_allowSize 23 = .ok (.ireturn, 1) := by decide +kernel
theorem dX8_allowNumber_0 : decode cX8_allowNumber 0 = .ok (.iload_n 1, 1) := by decide +kernel
theorem dX8_allowNumber_1 : decode cX8_allowNumber 1 = .ok (.iconst 1, 1) := by decide +kernel
theorem dX8_allowNumber_2 : decode cX8_allowNumber 2 = .ok (.bipush 6, 2) := by decide +kernel
theorem dX8_allowNumber_4 : decode cX8_allowNumber 4 = .ok (.invokestatic 96, 3) := by decide +kernel
theorem dX8_allowNumber_7 : decode cX8_allowNumber 7 = .ok (.ifCond .eq 15, 3) := by decide +kernel
theorem dX8_allowNumber_10 : decode cX8_allowNumber 10 = .ok (.aload_n 0, 1) := by decide +kernel
theorem dX8_allowNumber_11 : decode cX8_allowNumber 11 = .ok (.iconst 2, 1) := by decide +kernel
theorem dX8_allowNumber_12 : decode cX8_allowNumber 12 = .ok (.iconst 1, 1) := by decide +kernel
theorem dX8_allowNumber_13 : decode cX8_allowNumber 13 = .ok (.iload_n 1, 1) := by decide +kernel
theorem dX8_allowNumber_14 : decode cX8_allowNumber 14 = .ok (.ishl, 1) := by decide +kernel
theorem dX8_allowNumber_15 : decode cX8_allowNumber 15 = .ok (.iload_n 2, 1) := by decide +kernel
theorem dX8_allowNumber_16 : decode cX8_allowNumber 16 = .ok (.invokevirtual 102, 3) := by decide +kernel
theorem dX8_allowNumber_19 : decode cX8_allowNumber 19 = .ok (.goto 4, 3) := by decide +kernel
theorem dX8_allowNumber_22 : decode cX8_allowNumber 22 = .ok (.iconst (-1), 1) := by decide +kernel
theorem dX8_allowNumber_23 : decode cX8_allowNumber 23 = .ok (.ireturn, 1) := by decide +kernel
theorem dX8_isElement_0 : decode cX8_isElement 0 = .ok (.iload_n 1, 1) := by decide +kernel
theorem dX8_isElement_1 : decode cX8_isElement 1 = .ok (.iconst 0, 1) := by decide +kernel
theorem dX8_isElement_2 : decode cX8_isElement 2 = .ok (.aload_n 0, 1) := by decide +kernel
theorem dX8_isElement_3 : decode cX8_isElement 3 = .ok (.getfield 7, 3) := by decide +kernel
theorem dX8_isElement_6 : decode cX8_isElement 6 = .ok (.iconst 0, 1) := by decide +kernel
theorem dX8_isElement_7 : decode cX8_isElement 7 = .ok (.iaload, 1) := by decide +kernel
theorem dX8_isElement_8 : decode cX8_isElement 8 = .ok (.iconst 1, 1) := by decide +kernel
theorem dX8_isElement_9 : decode cX8_isElement 9 = .ok (.isub, 1) := by decide +kernel
theorem dX8_isElement_10 : decode cX8_isElement 10 = .ok (.invokestatic 96, 3) := by decide +kernel
theorem dX8_isElement_13 : decode cX8_isElement 13 = .ok (.ireturn, 1) := by decide +kernel
theorem dX8_isPair_0 : decode cX8_isPair 0 = .ok (.aload_n 0, 1) := by decide +kernel
theorem dX8_isPair_1 : decode cX8_isPair 1 = .ok (.iload_n 1, 1) := by decide +kernel
theorem dX8_isPair_2 : decode cX8_isPair 2 = .ok (.invokevirtual 105, 3) := by decide +kernel
theorem dX8_isPair_5 : decode cX8_isPair 5 = .ok (.ifCond .eq 20, 3) := by decide +kernel
theorem dX8_isPair_8 : decode cX8_isPair 8 = .ok (.aload_n 0, 1) := by decide +kernel
theorem dX8_isPair_9 : decode cX8_isPair 9 = .ok (.iload_n 2, 1) := by decide +kernel
theorem dX8_isPair_10 : decode cX8_isPair 10 = .ok (.invokevirtual 105, 3) := by decide +kernel
theorem dX8_isPair_13 : decode cX8_isPair 13 = .ok (.ifCond .eq 12, 3) := by decide +kernel
theorem dX8_isPair_16 : decode cX8_isPair 16 = .ok (.iload_n 1, 1) := by decide +kernel
theorem dX8_isPair_17 : decode cX8_isPair 17 = .ok (.iload_n 2, 1) := by decide +kernel
theorem dX8_isPair_18 : decode cX8_isPair 18 = .ok (.if_icmp .eq 7, 3) := by decide +kernel
theorem dX8_isPair_21 : decode cX8_isPair 21 = .ok (.iconst 1, 1) := by decide +kernel
theorem dX8_isPair_22 : decode cX8_isPair 22 = .ok (.goto 4, 3) := by decide +kernel
theorem dX8_isPair_25 : decode cX8_isPair 25 = .ok (.iconst 0, 1) := by decide +kernel
theorem dX8_isPair_26 : decode cX8_isPair 26 = .ok (.ireturn, 1) := by decide +kernel
theorem dX8_apart_0 : decode cX8_apart 0 = .ok (.aload_n 0, 1) := by decide +kernel
theorem dX8_apart_1 : decode cX8_apart 1 = .ok (.iload_n 1, 1) := by decide +kernel
theorem dX8_apart_2 : decode cX8_apart 2 = .ok (.iload_n 2, 1) := by decide +kernel
theorem dX8_apart_3 : decode cX8_apart 3 = .ok (.invokevirtual 109, 3) := by decide +kernel
theorem dX8_apart_6 : decode cX8_apart 6 = .ok (.ifCond .eq 17, 3) := by decide +kernel
theorem dX8_apart_9 : decode cX8_apart 9 = .ok (.aload_n 0, 1) := by decide +kernel
theorem dX8_apart_10 : decode cX8_apart 10 = .ok (.iconst 3, 1) := by decide +kernel
theorem dX8_apart_11 : decode cX8_apart 11 = .ok (.iload_n 1, 1) := by decide +kernel
theorem dX8_apart_12 : decode cX8_apart 12 = .ok (.iload_n 2, 1) := by decide +kernel
theorem dX8_apart_13 : decode cX8_apart 13 = .ok (.invokestatic 73, 3) := by decide +kernel
theorem dX8_apart_16 : decode cX8_apart 16 = .ok (.iload_n 3, 1) := by decide +kernel
theorem dX8_apart_17 : decode cX8_apart 17 = .ok (.invokevirtual 102, 3) := by decide +kernel
theorem dX8_apart_20 : decode cX8_apart 20 = .ok (.goto 4, 3) := by decide +kernel
theorem dX8_apart_23 : decode cX8_apart 23 = .ok (.iconst (-1), 1) := by decide +kernel
theorem dX8_apart_24 : decode cX8_apart 24 = .ok (.ireturn, 1) := by decide +kernel
theorem dX8_together_0 : decode cX8_together 0 = .ok (.aload_n 0, 1) := by decide +kernel
theorem dX8_together_1 : decode cX8_together 1 = .ok (.iload_n 1, 1) := by decide +kernel
theorem dX8_together_2 : decode cX8_together 2 = .ok (.iload_n 2, 1) := by decide +kernel
theorem dX8_together_3 : decode cX8_together 3 = .ok (.invokevirtual 109, 3) := by decide +kernel
theorem dX8_together_6 : decode cX8_together 6 = .ok (.ifCond .eq 17, 3) := by decide +kernel
theorem dX8_together_9 : decode cX8_together 9 = .ok (.aload_n 0, 1) := by decide +kernel
theorem dX8_together_10 : decode cX8_together 10 = .ok (.iconst 4, 1) := by decide +kernel
theorem dX8_together_11 : decode cX8_together 11 = .ok (.iload_n 1, 1) := by decide +kernel
theorem dX8_together_12 : decode cX8_together 12 = .ok (.iload_n 2, 1) := by decide +kernel
theorem dX8_together_13 : decode cX8_together 13 = .ok (.invokestatic 73, 3) := by decide +kernel
theorem dX8_together_16 : decode cX8_together 16 = .ok (.iload_n 3, 1) := by decide +kernel
theorem dX8_together_17 : decode cX8_together 17 = .ok (.invokevirtual 102, 3) := by decide +kernel
theorem dX8_together_20 : decode cX8_together 20 = .ok (.goto 4, 3) := by decide +kernel
theorem dX8_together_23 : decode cX8_together 23 = .ok (.iconst (-1), 1) := by decide +kernel
theorem dX8_together_24 : decode cX8_together 24 = .ok (.ireturn, 1) := by decide +kernel
theorem dX8_noncrossing_0 : decode cX8_noncrossing 0 = .ok (.aload_n 0, 1) := by decide +kernel
theorem dX8_noncrossing_1 : decode cX8_noncrossing 1 = .ok (.iconst 5, 1) := by decide +kernel
theorem dX8_noncrossing_2 : decode cX8_noncrossing 2 = .ok (.iload_n 1, 1) := by decide +kernel
theorem dX8_noncrossing_3 : decode cX8_noncrossing 3 = .ok (.ifCond .eq 7, 3) := by decide +kernel
theorem dX8_noncrossing_6 : decode cX8_noncrossing 6 = .ok (.iconst 1, 1) := by decide +kernel
theorem dX8_noncrossing_7 : decode cX8_noncrossing 7 = .ok (.goto 4, 3) := by decide +kernel
theorem dX8_noncrossing_10 : decode cX8_noncrossing 10 = .ok (.iconst 0, 1) := by decide +kernel
theorem dX8_noncrossing_11 : decode cX8_noncrossing 11 = .ok (.invokevirtual 99, 3) := by decide +kernel
theorem dX8_noncrossing_14 : decode cX8_noncrossing 14 = .ok (.ireturn, 1) := by decide +kernel
theorem dX8_type_0 : decode cX8_type 0 = .ok (.iload_n 1, 1) := by decide +kernel
theorem dX8_type_1 : decode cX8_type 1 = .ok (.iconst 0, 1) := by decide +kernel
theorem dX8_type_2 : decode cX8_type 2 = .ok (.bipush 127, 2) := by decide +kernel
theorem dX8_type_4 : decode cX8_type 4 = .ok (.invokestatic 96, 3) := by decide +kernel
theorem dX8_type_7 : decode cX8_type 7 = .ok (.ifCond .ne 5, 3) := by decide +kernel
theorem dX8_type_10 : decode cX8_type 10 = .ok (.iconst (-1), 1) := by decide +kernel
theorem dX8_type_11 : decode cX8_type 11 = .ok (.ireturn, 1) := by decide +kernel
theorem dX8_type_12 : decode cX8_type 12 = .ok (.aload_n 0, 1) := by decide +kernel
theorem dX8_type_13 : decode cX8_type 13 = .ok (.getfield 112, 3) := by decide +kernel
theorem dX8_type_16 : decode cX8_type 16 = .ok (.bipush 20, 2) := by decide +kernel
theorem dX8_type_18 : decode cX8_type 18 = .ok (.if_icmp .ne 6, 3) := by decide +kernel
theorem dX8_type_21 : decode cX8_type 21 = .ok (.bipush (-4), 2) := by decide +kernel
theorem dX8_type_23 : decode cX8_type 23 = .ok (.ireturn, 1) := by decide +kernel
theorem dX8_type_24 : decode cX8_type 24 = .ok (.aload_n 0, 1) := by decide +kernel
theorem dX8_type_25 : decode cX8_type 25 = .ok (.getfield 13, 3) := by decide +kernel
theorem dX8_type_28 : decode cX8_type 28 = .ok (.aload_n 0, 1) := by decide +kernel
theorem dX8_type_29 : decode cX8_type 29 = .ok (.getfield 112, 3) := by decide +kernel
theorem dX8_type_32 : decode cX8_type 32 = .ok (.iload_n 1, 1) := by decide +kernel
theorem dX8_type_33 : decode cX8_type 33 = .ok (.iastore, 1) := by decide +kernel
theorem dX8_type_34 : decode cX8_type 34 = .ok (.aload_n 0, 1) := by decide +kernel
theorem dX8_type_35 : decode cX8_type 35 = .ok (.dup, 1) := by decide +kernel
theorem dX8_type_36 : decode cX8_type 36 = .ok (.getfield 112, 3) := by decide +kernel
theorem dX8_type_39 : decode cX8_type 39 = .ok (.iconst 1, 1) := by decide +kernel
theorem dX8_type_40 : decode cX8_type 40 = .ok (.iadd, 1) := by decide +kernel
theorem dX8_type_41 : decode cX8_type 41 = .ok (.putfield 112, 3) := by decide +kernel
theorem dX8_type_44 : decode cX8_type 44 = .ok (.aload_n 0, 1) := by decide +kernel
theorem dX8_type_45 : decode cX8_type 45 = .ok (.getfield 112, 3) := by decide +kernel
theorem dX8_type_48 : decode cX8_type 48 = .ok (.ireturn, 1) := by decide +kernel
theorem dX8_clear_0 : decode cX8_clear 0 = .ok (.aload_n 0, 1) := by decide +kernel
theorem dX8_clear_1 : decode cX8_clear 1 = .ok (.getfield 112, 3) := by decide +kernel
theorem dX8_clear_4 : decode cX8_clear 4 = .ok (.istore_n 1, 1) := by decide +kernel
theorem dX8_clear_5 : decode cX8_clear 5 = .ok (.aload_n 0, 1) := by decide +kernel
theorem dX8_clear_6 : decode cX8_clear 6 = .ok (.iconst 0, 1) := by decide +kernel
theorem dX8_clear_7 : decode cX8_clear 7 = .ok (.putfield 112, 3) := by decide +kernel
theorem dX8_clear_10 : decode cX8_clear 10 = .ok (.iload_n 1, 1) := by decide +kernel
theorem dX8_clear_11 : decode cX8_clear 11 = .ok (.ireturn, 1) := by decide +kernel
theorem dX8_isRegister_0 : decode cX8_isRegister 0 = .ok (.iload_n 0, 1) := by decide +kernel
theorem dX8_isRegister_1 : decode cX8_isRegister 1 = .ok (.iconst 0, 1) := by decide +kernel
theorem dX8_isRegister_2 : decode cX8_isRegister 2 = .ok (.bipush 7, 2) := by decide +kernel
theorem dX8_isRegister_4 : decode cX8_isRegister 4 = .ok (.invokestatic 96, 3) := by decide +kernel
theorem dX8_isRegister_7 : decode cX8_isRegister 7 = .ok (.ireturn, 1) := by decide +kernel
theorem dX8_held_0 : decode cX8_held 0 = .ok (.aload_n 0, 1) := by decide +kernel
theorem dX8_held_1 : decode cX8_held 1 = .ok (.getfield 7, 3) := by decide +kernel
theorem dX8_held_4 : decode cX8_held 4 = .ok (.bipush 6, 2) := by decide +kernel
theorem dX8_held_6 : decode cX8_held 6 = .ok (.iload_n 1, 1) := by decide +kernel
theorem dX8_held_7 : decode cX8_held 7 = .ok (.iadd, 1) := by decide +kernel
theorem dX8_held_8 : decode cX8_held 8 = .ok (.iaload, 1) := by decide +kernel
theorem dX8_held_9 : decode cX8_held 9 = .ok (.ireturn, 1) := by decide +kernel
theorem dX8_puts_0 : decode cX8_puts 0 = .ok (.aload_n 0, 1) := by decide +kernel
theorem dX8_puts_1 : decode cX8_puts 1 = .ok (.invokevirtual 93, 3) := by decide +kernel
theorem dX8_puts_4 : decode cX8_puts 4 = .ok (.aload_n 0, 1) := by decide +kernel
theorem dX8_puts_5 : decode cX8_puts 5 = .ok (.getfield 7, 3) := by decide +kernel
theorem dX8_puts_8 : decode cX8_puts 8 = .ok (.bipush 6, 2) := by decide +kernel
theorem dX8_puts_10 : decode cX8_puts 10 = .ok (.iload_n 1, 1) := by decide +kernel
theorem dX8_puts_11 : decode cX8_puts 11 = .ok (.iadd, 1) := by decide +kernel
theorem dX8_puts_12 : decode cX8_puts 12 = .ok (.iload_n 2, 1) := by decide +kernel
theorem dX8_puts_13 : decode cX8_puts 13 = .ok (.iastore, 1) := by decide +kernel
theorem dX8_puts_14 : decode cX8_puts 14 = .ok (.aload_n 0, 1) := by decide +kernel
theorem dX8_puts_15 : decode cX8_puts 15 = .ok (.getfield 19, 3) := by decide +kernel
theorem dX8_puts_18 : decode cX8_puts 18 = .ok (.iload_n 2, 1) := by decide +kernel
theorem dX8_puts_19 : decode cX8_puts 19 = .ok (.iaload, 1) := by decide +kernel
theorem dX8_puts_20 : decode cX8_puts 20 = .ok (.ireturn, 1) := by decide +kernel
theorem dX8_reads_0 : decode cX8_reads 0 = .ok (.iconst 1, 1) := by decide +kernel
theorem dX8_reads_1 : decode cX8_reads 1 = .ok (.aload_n 0, 1) := by decide +kernel
theorem dX8_reads_2 : decode cX8_reads 2 = .ok (.getfield 7, 3) := by decide +kernel
theorem dX8_reads_5 : decode cX8_reads 5 = .ok (.iconst 0, 1) := by decide +kernel
theorem dX8_reads_6 : decode cX8_reads 6 = .ok (.iaload, 1) := by decide +kernel
theorem dX8_reads_7 : decode cX8_reads 7 = .ok (.ishl, 1) := by decide +kernel
theorem dX8_reads_8 : decode cX8_reads 8 = .ok (.iconst 1, 1) := by decide +kernel
theorem dX8_reads_9 : decode cX8_reads 9 = .ok (.isub, 1) := by decide +kernel
theorem dX8_reads_10 : decode cX8_reads 10 = .ok (.istore_n 1, 1) := by decide +kernel
theorem dX8_reads_11 : decode cX8_reads 11 = .ok (.iconst 0, 1) := by decide +kernel
theorem dX8_reads_12 : decode cX8_reads 12 = .ok (.istore_n 2, 1) := by decide +kernel
theorem dX8_reads_13 : decode cX8_reads 13 = .ok (.iconst 0, 1) := by decide +kernel
theorem dX8_reads_14 : decode cX8_reads 14 = .ok (.istore_n 3, 1) := by decide +kernel
theorem dX8_reads_15 : decode cX8_reads 15 = .ok (.iconst 0, 1) := by decide +kernel
theorem dX8_reads_16 : decode cX8_reads 16 = .ok (.istore 4, 2) := by decide +kernel
theorem dX8_reads_18 : decode cX8_reads 18 = .ok (.iload 4, 2) := by decide +kernel
theorem dX8_reads_20 : decode cX8_reads 20 = .ok (.aload_n 0, 1) := by decide +kernel
theorem dX8_reads_21 : decode cX8_reads 21 = .ok (.getfield 112, 3) := by decide +kernel
theorem dX8_reads_24 : decode cX8_reads 24 = .ok (.if_icmp .ge 97, 3) := by decide +kernel
theorem dX8_reads_27 : decode cX8_reads 27 = .ok (.aload_n 0, 1) := by decide +kernel
theorem dX8_reads_28 : decode cX8_reads 28 = .ok (.getfield 13, 3) := by decide +kernel
theorem dX8_reads_31 : decode cX8_reads 31 = .ok (.iload 4, 2) := by decide +kernel
theorem dX8_reads_33 : decode cX8_reads 33 = .ok (.iaload, 1) := by decide +kernel
theorem dX8_reads_34 : decode cX8_reads 34 = .ok (.bipush 48, 2) := by decide +kernel
theorem dX8_reads_36 : decode cX8_reads 36 = .ok (.isub, 1) := by decide +kernel
theorem dX8_reads_37 : decode cX8_reads 37 = .ok (.istore 5, 2) := by decide +kernel
theorem dX8_reads_39 : decode cX8_reads 39 = .ok (.iload 5, 2) := by decide +kernel
theorem dX8_reads_41 : decode cX8_reads 41 = .ok (.iconst 0, 1) := by decide +kernel
theorem dX8_reads_42 : decode cX8_reads 42 = .ok (.aload_n 0, 1) := by decide +kernel
theorem dX8_reads_43 : decode cX8_reads 43 = .ok (.getfield 7, 3) := by decide +kernel
theorem dX8_reads_46 : decode cX8_reads 46 = .ok (.iconst 0, 1) := by decide +kernel
theorem dX8_reads_47 : decode cX8_reads 47 = .ok (.iaload, 1) := by decide +kernel
theorem dX8_reads_48 : decode cX8_reads 48 = .ok (.iconst 1, 1) := by decide +kernel
theorem dX8_reads_49 : decode cX8_reads 49 = .ok (.isub, 1) := by decide +kernel
theorem dX8_reads_50 : decode cX8_reads 50 = .ok (.invokestatic 96, 3) := by decide +kernel
theorem dX8_reads_53 : decode cX8_reads 53 = .ok (.ifCond .eq 35, 3) := by decide +kernel
theorem dX8_reads_56 : decode cX8_reads 56 = .ok (.iload_n 1, 1) := by decide +kernel
theorem dX8_reads_57 : decode cX8_reads 57 = .ok (.iload 5, 2) := by decide +kernel
theorem dX8_reads_59 : decode cX8_reads 59 = .ok (.ishr, 1) := by decide +kernel
theorem dX8_reads_60 : decode cX8_reads 60 = .ok (.iconst 1, 1) := by decide +kernel
theorem dX8_reads_61 : decode cX8_reads 61 = .ok (.iand, 1) := by decide +kernel
theorem dX8_reads_62 : decode cX8_reads 62 = .ok (.iconst 1, 1) := by decide +kernel
theorem dX8_reads_63 : decode cX8_reads 63 = .ok (.if_icmp .ne 25, 3) := by decide +kernel
theorem dX8_reads_66 : decode cX8_reads 66 = .ok (.iload_n 1, 1) := by decide +kernel
theorem dX8_reads_67 : decode cX8_reads 67 = .ok (.iconst 1, 1) := by decide +kernel
theorem dX8_reads_68 : decode cX8_reads 68 = .ok (.iload 5, 2) := by decide +kernel
theorem dX8_reads_70 : decode cX8_reads 70 = .ok (.ishl, 1) := by decide +kernel
theorem dX8_reads_71 : decode cX8_reads 71 = .ok (.iconst (-1), 1) := by decide +kernel
theorem dX8_reads_72 : decode cX8_reads 72 = .ok (.ixor, 1) := by decide +kernel
theorem dX8_reads_73 : decode cX8_reads 73 = .ok (.iand, 1) := by decide +kernel
theorem dX8_reads_74 : decode cX8_reads 74 = .ok (.istore_n 1, 1) := by decide +kernel
theorem dX8_reads_75 : decode cX8_reads 75 = .ok (.aload_n 0, 1) := by decide +kernel
theorem dX8_reads_76 : decode cX8_reads 76 = .ok (.getfield 25, 3) := by decide +kernel
theorem dX8_reads_79 : decode cX8_reads 79 = .ok (.iload 5, 2) := by decide +kernel
theorem dX8_reads_81 : decode cX8_reads 81 = .ok (.iload_n 2, 1) := by decide +kernel
theorem dX8_reads_82 : decode cX8_reads 82 = .ok (.iastore, 1) := by decide +kernel
theorem dX8_reads_83 : decode cX8_reads 83 = .ok (.iconst 1, 1) := by decide +kernel
theorem dX8_reads_84 : decode cX8_reads 84 = .ok (.istore_n 3, 1) := by decide +kernel
theorem dX8_reads_85 : decode cX8_reads 85 = .ok (.goto 30, 3) := by decide +kernel
theorem dX8_reads_88 : decode cX8_reads 88 = .ok (.aload_n 0, 1) := by decide +kernel
theorem dX8_reads_89 : decode cX8_reads 89 = .ok (.getfield 13, 3) := by decide +kernel
theorem dX8_reads_92 : decode cX8_reads 92 = .ok (.iload 4, 2) := by decide +kernel
theorem dX8_reads_94 : decode cX8_reads 94 = .ok (.iaload, 1) := by decide +kernel
theorem dX8_reads_95 : decode cX8_reads 95 = .ok (.bipush 47, 2) := by decide +kernel
theorem dX8_reads_97 : decode cX8_reads 97 = .ok (.if_icmp .ne 15, 3) := by decide +kernel
theorem dX8_reads_100 : decode cX8_reads 100 = .ok (.iload_n 3, 1) := by decide +kernel
theorem dX8_reads_101 : decode cX8_reads 101 = .ok (.ifCond .eq 11, 3) := by decide +kernel
theorem dX8_reads_104 : decode cX8_reads 104 = .ok (.iinc 2 1, 3) := by decide +kernel
theorem dX8_reads_107 : decode cX8_reads 107 = .ok (.iconst 0, 1) := by decide +kernel
theorem dX8_reads_108 : decode cX8_reads 108 = .ok (.istore_n 3, 1) := by decide +kernel
theorem dX8_reads_109 : decode cX8_reads 109 = .ok (.goto 6, 3) := by decide +kernel
theorem dX8_reads_112 : decode cX8_reads 112 = .ok (.iload 4, 2) := by decide +kernel
theorem dX8_reads_114 : decode cX8_reads 114 = .ok (.ireturn, 1) := by decide +kernel
theorem dX8_reads_115 : decode cX8_reads 115 = .ok (.iinc 4 1, 3) := by decide +kernel
theorem dX8_reads_118 : decode cX8_reads 118 = .ok (.goto (-100), 3) := by decide +kernel
theorem dX8_reads_121 : decode cX8_reads 121 = .ok (.iload_n 1, 1) := by decide +kernel
theorem dX8_reads_122 : decode cX8_reads 122 = .ok (.ifCond .ne 12, 3) := by decide +kernel
theorem dX8_reads_125 : decode cX8_reads 125 = .ok (.iload_n 3, 1) := by decide +kernel
theorem dX8_reads_126 : decode cX8_reads 126 = .ok (.ifCond .eq 8, 3) := by decide +kernel
theorem dX8_reads_129 : decode cX8_reads 129 = .ok (.bipush (-9), 2) := by decide +kernel
theorem dX8_reads_131 : decode cX8_reads 131 = .ok (.goto 7, 3) := by decide +kernel
theorem dX8_reads_134 : decode cX8_reads 134 = .ok (.aload_n 0, 1) := by decide +kernel
theorem dX8_reads_135 : decode cX8_reads 135 = .ok (.getfield 112, 3) := by decide +kernel
theorem dX8_reads_138 : decode cX8_reads 138 = .ok (.ireturn, 1) := by decide +kernel
theorem dX8_read_0 : decode cX8_read 0 = .ok (.iload_n 1, 1) := by decide +kernel
theorem dX8_read_1 : decode cX8_read 1 = .ok (.invokestatic 115, 3) := by decide +kernel
theorem dX8_read_4 : decode cX8_read 4 = .ok (.ifCond .ne 5, 3) := by decide +kernel
theorem dX8_read_7 : decode cX8_read 7 = .ok (.iconst (-1), 1) := by decide +kernel
theorem dX8_read_8 : decode cX8_read 8 = .ok (.ireturn, 1) := by decide +kernel
theorem dX8_read_9 : decode cX8_read 9 = .ok (.aload_n 0, 1) := by decide +kernel
theorem dX8_read_10 : decode cX8_read 10 = .ok (.invokevirtual 118, 3) := by decide +kernel
theorem dX8_read_13 : decode cX8_read 13 = .ok (.istore_n 2, 1) := by decide +kernel
theorem dX8_read_14 : decode cX8_read 14 = .ok (.iload_n 2, 1) := by decide +kernel
theorem dX8_read_15 : decode cX8_read 15 = .ok (.bipush (-9), 2) := by decide +kernel
theorem dX8_read_17 : decode cX8_read 17 = .ok (.if_icmp .eq 10, 3) := by decide +kernel
theorem dX8_read_20 : decode cX8_read 20 = .ok (.bipush (-10), 2) := by decide +kernel
theorem dX8_read_22 : decode cX8_read 22 = .ok (.iload_n 2, 1) := by decide +kernel
theorem dX8_read_23 : decode cX8_read 23 = .ok (.isub, 1) := by decide +kernel
theorem dX8_read_24 : decode cX8_read 24 = .ok (.goto 12, 3) := by decide +kernel
theorem dX8_read_27 : decode cX8_read 27 = .ok (.aload_n 0, 1) := by decide +kernel
theorem dX8_read_28 : decode cX8_read 28 = .ok (.iload_n 1, 1) := by decide +kernel
theorem dX8_read_29 : decode cX8_read 29 = .ok (.aload_n 0, 1) := by decide +kernel
theorem dX8_read_30 : decode cX8_read 30 = .ok (.invokevirtual 122, 3) := by decide +kernel
theorem dX8_read_33 : decode cX8_read 33 = .ok (.invokevirtual 125, 3) := by decide +kernel
theorem dX8_read_36 : decode cX8_read 36 = .ok (.ireturn, 1) := by decide +kernel
theorem dX8_finest_0 : decode cX8_finest 0 = .ok (.iload_n 1, 1) := by decide +kernel
theorem dX8_finest_1 : decode cX8_finest 1 = .ok (.invokestatic 115, 3) := by decide +kernel
theorem dX8_finest_4 : decode cX8_finest 4 = .ok (.ifCond .eq 17, 3) := by decide +kernel
theorem dX8_finest_7 : decode cX8_finest 7 = .ok (.aload_n 0, 1) := by decide +kernel
theorem dX8_finest_8 : decode cX8_finest 8 = .ok (.iload_n 1, 1) := by decide +kernel
theorem dX8_finest_9 : decode cX8_finest 9 = .ok (.aload_n 0, 1) := by decide +kernel
theorem dX8_finest_10 : decode cX8_finest 10 = .ok (.getfield 52, 3) := by decide +kernel
theorem dX8_finest_13 : decode cX8_finest 13 = .ok (.iconst 1, 1) := by decide +kernel
theorem dX8_finest_14 : decode cX8_finest 14 = .ok (.isub, 1) := by decide +kernel
theorem dX8_finest_15 : decode cX8_finest 15 = .ok (.invokevirtual 125, 3) := by decide +kernel
theorem dX8_finest_18 : decode cX8_finest 18 = .ok (.goto 4, 3) := by decide +kernel
theorem dX8_finest_21 : decode cX8_finest 21 = .ok (.iconst (-1), 1) := by decide +kernel
theorem dX8_finest_22 : decode cX8_finest 22 = .ok (.ireturn, 1) := by decide +kernel
theorem dX8_coarsest_0 : decode cX8_coarsest 0 = .ok (.iload_n 1, 1) := by decide +kernel
theorem dX8_coarsest_1 : decode cX8_coarsest 1 = .ok (.invokestatic 115, 3) := by decide +kernel
theorem dX8_coarsest_4 : decode cX8_coarsest 4 = .ok (.ifCond .eq 12, 3) := by decide +kernel
theorem dX8_coarsest_7 : decode cX8_coarsest 7 = .ok (.aload_n 0, 1) := by decide +kernel
theorem dX8_coarsest_8 : decode cX8_coarsest 8 = .ok (.iload_n 1, 1) := by decide +kernel
theorem dX8_coarsest_9 : decode cX8_coarsest 9 = .ok (.iconst 0, 1) := by decide +kernel
theorem dX8_coarsest_10 : decode cX8_coarsest 10 = .ok (.invokevirtual 125, 3) := by decide +kernel
theorem dX8_coarsest_13 : decode cX8_coarsest 13 = .ok (.goto 4, 3) := by decide +kernel
theorem dX8_coarsest_16 : decode cX8_coarsest 16 = .ok (.iconst (-1), 1) := by decide +kernel
theorem dX8_coarsest_17 : decode cX8_coarsest 17 = .ok (.ireturn, 1) := by decide +kernel
theorem dX8_wrong_0 : decode cX8_wrong 0 = .ok (.iload_n 1, 1) := by decide +kernel
theorem dX8_wrong_1 : decode cX8_wrong 1 = .ok (.invokestatic 115, 3) := by decide +kernel
theorem dX8_wrong_4 : decode cX8_wrong 4 = .ok (.ifCond .ne 7, 3) := by decide +kernel
theorem dX8_wrong_7 : decode cX8_wrong 7 = .ok (.iconst (-1), 1) := by decide +kernel
theorem dX8_wrong_8 : decode cX8_wrong 8 = .ok (.goto 19, 3) := by decide +kernel
theorem dX8_wrong_11 : decode cX8_wrong 11 = .ok (.aload_n 0, 1) := by decide +kernel
theorem dX8_wrong_12 : decode cX8_wrong 12 = .ok (.iload_n 1, 1) := by decide +kernel
theorem dX8_wrong_13 : decode cX8_wrong 13 = .ok (.invokevirtual 128, 3) := by decide +kernel
theorem dX8_wrong_16 : decode cX8_wrong 16 = .ok (.bipush (-9), 2) := by decide +kernel
theorem dX8_wrong_18 : decode cX8_wrong 18 = .ok (.if_icmp .ne 8, 3) := by decide +kernel
theorem dX8_wrong_21 : decode cX8_wrong 21 = .ok (.bipush (-2), 2) := by decide +kernel
theorem dX8_wrong_23 : decode cX8_wrong 23 = .ok (.goto 4, 3) := by decide +kernel
theorem dX8_wrong_26 : decode cX8_wrong 26 = .ok (.iconst 0, 1) := by decide +kernel
theorem dX8_wrong_27 : decode cX8_wrong 27 = .ok (.ireturn, 1) := by decide +kernel
theorem dX8_wrongOf_0 : decode cX8_wrongOf 0 = .ok (.iload_n 1, 1) := by decide +kernel
theorem dX8_wrongOf_1 : decode cX8_wrongOf 1 = .ok (.invokestatic 115, 3) := by decide +kernel
theorem dX8_wrongOf_4 : decode cX8_wrongOf 4 = .ok (.ifCond .eq 10, 3) := by decide +kernel
theorem dX8_wrongOf_7 : decode cX8_wrongOf 7 = .ok (.iload_n 2, 1) := by decide +kernel
theorem dX8_wrongOf_8 : decode cX8_wrongOf 8 = .ok (.invokestatic 115, 3) := by decide +kernel
theorem dX8_wrongOf_11 : decode cX8_wrongOf 11 = .ok (.ifCond .ne 7, 3) := by decide +kernel
theorem dX8_wrongOf_14 : decode cX8_wrongOf 14 = .ok (.iconst (-1), 1) := by decide +kernel
theorem dX8_wrongOf_15 : decode cX8_wrongOf 15 = .ok (.goto 29, 3) := by decide +kernel
theorem dX8_wrongOf_18 : decode cX8_wrongOf 18 = .ok (.aload_n 0, 1) := by decide +kernel
theorem dX8_wrongOf_19 : decode cX8_wrongOf 19 = .ok (.iload_n 1, 1) := by decide +kernel
theorem dX8_wrongOf_20 : decode cX8_wrongOf 20 = .ok (.invokevirtual 128, 3) := by decide +kernel
theorem dX8_wrongOf_23 : decode cX8_wrongOf 23 = .ok (.bipush (-9), 2) := by decide +kernel
theorem dX8_wrongOf_25 : decode cX8_wrongOf 25 = .ok (.if_icmp .eq 13, 3) := by decide +kernel
theorem dX8_wrongOf_28 : decode cX8_wrongOf 28 = .ok (.aload_n 0, 1) := by decide +kernel
theorem dX8_wrongOf_29 : decode cX8_wrongOf 29 = .ok (.iload_n 2, 1) := by decide +kernel
theorem dX8_wrongOf_30 : decode cX8_wrongOf 30 = .ok (.invokevirtual 128, 3) := by decide +kernel
theorem dX8_wrongOf_33 : decode cX8_wrongOf 33 = .ok (.bipush (-9), 2) := by decide +kernel
theorem dX8_wrongOf_35 : decode cX8_wrongOf 35 = .ok (.if_icmp .ne 8, 3) := by decide +kernel
theorem dX8_wrongOf_38 : decode cX8_wrongOf 38 = .ok (.bipush (-2), 2) := by decide +kernel
theorem dX8_wrongOf_40 : decode cX8_wrongOf 40 = .ok (.goto 4, 3) := by decide +kernel
theorem dX8_wrongOf_43 : decode cX8_wrongOf 43 = .ok (.iconst 0, 1) := by decide +kernel
theorem dX8_wrongOf_44 : decode cX8_wrongOf 44 = .ok (.ireturn, 1) := by decide +kernel
theorem dX8_copy_0 : decode cX8_copy 0 = .ok (.iload_n 2, 1) := by decide +kernel
theorem dX8_copy_1 : decode cX8_copy 1 = .ok (.invokestatic 115, 3) := by decide +kernel
theorem dX8_copy_4 : decode cX8_copy 4 = .ok (.ifCond .ne 5, 3) := by decide +kernel
theorem dX8_copy_7 : decode cX8_copy 7 = .ok (.iconst (-1), 1) := by decide +kernel
theorem dX8_copy_8 : decode cX8_copy 8 = .ok (.ireturn, 1) := by decide +kernel
theorem dX8_copy_9 : decode cX8_copy 9 = .ok (.aload_n 0, 1) := by decide +kernel
theorem dX8_copy_10 : decode cX8_copy 10 = .ok (.iload_n 1, 1) := by decide +kernel
theorem dX8_copy_11 : decode cX8_copy 11 = .ok (.invokevirtual 131, 3) := by decide +kernel
theorem dX8_copy_14 : decode cX8_copy 14 = .ok (.istore_n 3, 1) := by decide +kernel
theorem dX8_copy_15 : decode cX8_copy 15 = .ok (.iload_n 3, 1) := by decide +kernel
theorem dX8_copy_16 : decode cX8_copy 16 = .ok (.ifCond .eq 7, 3) := by decide +kernel
theorem dX8_copy_19 : decode cX8_copy 19 = .ok (.iload_n 3, 1) := by decide +kernel
theorem dX8_copy_20 : decode cX8_copy 20 = .ok (.goto 13, 3) := by decide +kernel
theorem dX8_copy_23 : decode cX8_copy 23 = .ok (.aload_n 0, 1) := by decide +kernel
theorem dX8_copy_24 : decode cX8_copy 24 = .ok (.iload_n 2, 1) := by decide +kernel
theorem dX8_copy_25 : decode cX8_copy 25 = .ok (.aload_n 0, 1) := by decide +kernel
theorem dX8_copy_26 : decode cX8_copy 26 = .ok (.iload_n 1, 1) := by decide +kernel
theorem dX8_copy_27 : decode cX8_copy 27 = .ok (.invokevirtual 128, 3) := by decide +kernel
theorem dX8_copy_30 : decode cX8_copy 30 = .ok (.invokevirtual 125, 3) := by decide +kernel
theorem dX8_copy_33 : decode cX8_copy 33 = .ok (.ireturn, 1) := by decide +kernel
theorem dX8_meet_0 : decode cX8_meet 0 = .ok (.iload_n 3, 1) := by decide +kernel
theorem dX8_meet_1 : decode cX8_meet 1 = .ok (.invokestatic 115, 3) := by decide +kernel
theorem dX8_meet_4 : decode cX8_meet 4 = .ok (.ifCond .ne 5, 3) := by decide +kernel
theorem dX8_meet_7 : decode cX8_meet 7 = .ok (.iconst (-1), 1) := by decide +kernel
theorem dX8_meet_8 : decode cX8_meet 8 = .ok (.ireturn, 1) := by decide +kernel
theorem dX8_meet_9 : decode cX8_meet 9 = .ok (.aload_n 0, 1) := by decide +kernel
theorem dX8_meet_10 : decode cX8_meet 10 = .ok (.iload_n 1, 1) := by decide +kernel
theorem dX8_meet_11 : decode cX8_meet 11 = .ok (.iload_n 2, 1) := by decide +kernel
theorem dX8_meet_12 : decode cX8_meet 12 = .ok (.invokevirtual 134, 3) := by decide +kernel
theorem dX8_meet_15 : decode cX8_meet 15 = .ok (.istore 4, 2) := by decide +kernel
theorem dX8_meet_17 : decode cX8_meet 17 = .ok (.iload 4, 2) := by decide +kernel
theorem dX8_meet_19 : decode cX8_meet 19 = .ok (.ifCond .eq 6, 3) := by decide +kernel
theorem dX8_meet_22 : decode cX8_meet 22 = .ok (.iload 4, 2) := by decide +kernel
theorem dX8_meet_24 : decode cX8_meet 24 = .ok (.ireturn, 1) := by decide +kernel
theorem dX8_meet_25 : decode cX8_meet 25 = .ok (.iconst 0, 1) := by decide +kernel
theorem dX8_meet_26 : decode cX8_meet 26 = .ok (.istore 5, 2) := by decide +kernel
theorem dX8_meet_28 : decode cX8_meet 28 = .ok (.iload 5, 2) := by decide +kernel
theorem dX8_meet_30 : decode cX8_meet 30 = .ok (.aload_n 0, 1) := by decide +kernel
theorem dX8_meet_31 : decode cX8_meet 31 = .ok (.getfield 7, 3) := by decide +kernel
theorem dX8_meet_34 : decode cX8_meet 34 = .ok (.iconst 0, 1) := by decide +kernel
theorem dX8_meet_35 : decode cX8_meet 35 = .ok (.iaload, 1) := by decide +kernel
theorem dX8_meet_36 : decode cX8_meet 36 = .ok (.if_icmp .ge 42, 3) := by decide +kernel
theorem dX8_meet_39 : decode cX8_meet 39 = .ok (.aload_n 0, 1) := by decide +kernel
theorem dX8_meet_40 : decode cX8_meet 40 = .ok (.getfield 25, 3) := by decide +kernel
theorem dX8_meet_43 : decode cX8_meet 43 = .ok (.iload 5, 2) := by decide +kernel
theorem dX8_meet_45 : decode cX8_meet 45 = .ok (.bipush 6, 2) := by decide +kernel
theorem dX8_meet_47 : decode cX8_meet 47 = .ok (.aload_n 0, 1) := by decide +kernel
theorem dX8_meet_48 : decode cX8_meet 48 = .ok (.aload_n 0, 1) := by decide +kernel
theorem dX8_meet_49 : decode cX8_meet 49 = .ok (.iload_n 1, 1) := by decide +kernel
theorem dX8_meet_50 : decode cX8_meet 50 = .ok (.invokevirtual 128, 3) := by decide +kernel
theorem dX8_meet_53 : decode cX8_meet 53 = .ok (.iload 5, 2) := by decide +kernel
theorem dX8_meet_55 : decode cX8_meet 55 = .ok (.invokevirtual 65, 3) := by decide +kernel
theorem dX8_meet_58 : decode cX8_meet 58 = .ok (.imul, 1) := by decide +kernel
theorem dX8_meet_59 : decode cX8_meet 59 = .ok (.aload_n 0, 1) := by decide +kernel
theorem dX8_meet_60 : decode cX8_meet 60 = .ok (.aload_n 0, 1) := by decide +kernel
theorem dX8_meet_61 : decode cX8_meet 61 = .ok (.iload_n 2, 1) := by decide +kernel
theorem dX8_meet_62 : decode cX8_meet 62 = .ok (.invokevirtual 128, 3) := by decide +kernel
theorem dX8_meet_65 : decode cX8_meet 65 = .ok (.iload 5, 2) := by decide +kernel
theorem dX8_meet_67 : decode cX8_meet 67 = .ok (.invokevirtual 65, 3) := by decide +kernel
theorem dX8_meet_70 : decode cX8_meet 70 = .ok (.iadd, 1) := by decide +kernel
theorem dX8_meet_71 : decode cX8_meet 71 = .ok (.iastore, 1) := by decide +kernel
theorem dX8_meet_72 : decode cX8_meet 72 = .ok (.iinc 5 1, 3) := by decide +kernel
theorem dX8_meet_75 : decode cX8_meet 75 = .ok (.goto (-47), 3) := by decide +kernel
theorem dX8_meet_78 : decode cX8_meet 78 = .ok (.aload_n 0, 1) := by decide +kernel
theorem dX8_meet_79 : decode cX8_meet 79 = .ok (.iload_n 3, 1) := by decide +kernel
theorem dX8_meet_80 : decode cX8_meet 80 = .ok (.aload_n 0, 1) := by decide +kernel
theorem dX8_meet_81 : decode cX8_meet 81 = .ok (.invokevirtual 122, 3) := by decide +kernel
theorem dX8_meet_84 : decode cX8_meet 84 = .ok (.invokevirtual 125, 3) := by decide +kernel
theorem dX8_meet_87 : decode cX8_meet 87 = .ok (.ireturn, 1) := by decide +kernel
theorem dX8_merges_0 : decode cX8_merges 0 = .ok (.iconst 0, 1) := by decide +kernel
theorem dX8_merges_1 : decode cX8_merges 1 = .ok (.istore_n 3, 1) := by decide +kernel
theorem dX8_merges_2 : decode cX8_merges 2 = .ok (.iload_n 3, 1) := by decide +kernel
theorem dX8_merges_3 : decode cX8_merges 3 = .ok (.aload_n 0, 1) := by decide +kernel
theorem dX8_merges_4 : decode cX8_merges 4 = .ok (.getfield 7, 3) := by decide +kernel
theorem dX8_merges_7 : decode cX8_merges 7 = .ok (.iconst 0, 1) := by decide +kernel
theorem dX8_merges_8 : decode cX8_merges 8 = .ok (.iaload, 1) := by decide +kernel
theorem dX8_merges_9 : decode cX8_merges 9 = .ok (.if_icmp .ge 35, 3) := by decide +kernel
theorem dX8_merges_12 : decode cX8_merges 12 = .ok (.aload_n 0, 1) := by decide +kernel
theorem dX8_merges_13 : decode cX8_merges 13 = .ok (.getfield 25, 3) := by decide +kernel
theorem dX8_merges_16 : decode cX8_merges 16 = .ok (.iload_n 3, 1) := by decide +kernel
theorem dX8_merges_17 : decode cX8_merges 17 = .ok (.aload_n 0, 1) := by decide +kernel
theorem dX8_merges_18 : decode cX8_merges 18 = .ok (.getfield 25, 3) := by decide +kernel
theorem dX8_merges_21 : decode cX8_merges 21 = .ok (.iload_n 3, 1) := by decide +kernel
theorem dX8_merges_22 : decode cX8_merges 22 = .ok (.iaload, 1) := by decide +kernel
theorem dX8_merges_23 : decode cX8_merges 23 = .ok (.iload_n 2, 1) := by decide +kernel
theorem dX8_merges_24 : decode cX8_merges 24 = .ok (.if_icmp .ne 7, 3) := by decide +kernel
theorem dX8_merges_27 : decode cX8_merges 27 = .ok (.iload_n 1, 1) := by decide +kernel
theorem dX8_merges_28 : decode cX8_merges 28 = .ok (.goto 9, 3) := by decide +kernel
theorem dX8_merges_31 : decode cX8_merges 31 = .ok (.aload_n 0, 1) := by decide +kernel
theorem dX8_merges_32 : decode cX8_merges 32 = .ok (.getfield 25, 3) := by decide +kernel
theorem dX8_merges_35 : decode cX8_merges 35 = .ok (.iload_n 3, 1) := by decide +kernel
theorem dX8_merges_36 : decode cX8_merges 36 = .ok (.iaload, 1) := by decide +kernel
theorem dX8_merges_37 : decode cX8_merges 37 = .ok (.iastore, 1) := by decide +kernel
theorem dX8_merges_38 : decode cX8_merges 38 = .ok (.iinc 3 1, 3) := by decide +kernel
theorem dX8_merges_41 : decode cX8_merges 41 = .ok (.goto (-39), 3) := by decide +kernel
theorem dX8_merges_44 : decode cX8_merges 44 = .ok (.return_, 1) := by decide +kernel
theorem dX8_join_0 : decode cX8_join 0 = .ok (.iload_n 3, 1) := by decide +kernel
theorem dX8_join_1 : decode cX8_join 1 = .ok (.invokestatic 115, 3) := by decide +kernel
theorem dX8_join_4 : decode cX8_join 4 = .ok (.ifCond .ne 5, 3) := by decide +kernel
theorem dX8_join_7 : decode cX8_join 7 = .ok (.iconst (-1), 1) := by decide +kernel
theorem dX8_join_8 : decode cX8_join 8 = .ok (.ireturn, 1) := by decide +kernel
theorem dX8_join_9 : decode cX8_join 9 = .ok (.aload_n 0, 1) := by decide +kernel
theorem dX8_join_10 : decode cX8_join 10 = .ok (.iload_n 1, 1) := by decide +kernel
theorem dX8_join_11 : decode cX8_join 11 = .ok (.iload_n 2, 1) := by decide +kernel
theorem dX8_join_12 : decode cX8_join 12 = .ok (.invokevirtual 134, 3) := by decide +kernel
theorem dX8_join_15 : decode cX8_join 15 = .ok (.istore 4, 2) := by decide +kernel
theorem dX8_join_17 : decode cX8_join 17 = .ok (.iload 4, 2) := by decide +kernel
theorem dX8_join_19 : decode cX8_join 19 = .ok (.ifCond .eq 6, 3) := by decide +kernel
theorem dX8_join_22 : decode cX8_join 22 = .ok (.iload 4, 2) := by decide +kernel
theorem dX8_join_24 : decode cX8_join 24 = .ok (.ireturn, 1) := by decide +kernel
theorem dX8_join_25 : decode cX8_join 25 = .ok (.aload_n 0, 1) := by decide +kernel
theorem dX8_join_26 : decode cX8_join 26 = .ok (.aload_n 0, 1) := by decide +kernel
theorem dX8_join_27 : decode cX8_join 27 = .ok (.iload_n 1, 1) := by decide +kernel
theorem dX8_join_28 : decode cX8_join 28 = .ok (.invokevirtual 128, 3) := by decide +kernel
theorem dX8_join_31 : decode cX8_join 31 = .ok (.invokevirtual 137, 3) := by decide +kernel
theorem dX8_join_34 : decode cX8_join 34 = .ok (.iconst 0, 1) := by decide +kernel
theorem dX8_join_35 : decode cX8_join 35 = .ok (.istore 5, 2) := by decide +kernel
theorem dX8_join_37 : decode cX8_join 37 = .ok (.iload 5, 2) := by decide +kernel
theorem dX8_join_39 : decode cX8_join 39 = .ok (.aload_n 0, 1) := by decide +kernel
theorem dX8_join_40 : decode cX8_join 40 = .ok (.getfield 7, 3) := by decide +kernel
theorem dX8_join_43 : decode cX8_join 43 = .ok (.iconst 0, 1) := by decide +kernel
theorem dX8_join_44 : decode cX8_join 44 = .ok (.iaload, 1) := by decide +kernel
theorem dX8_join_45 : decode cX8_join 45 = .ok (.if_icmp .ge 68, 3) := by decide +kernel
theorem dX8_join_48 : decode cX8_join 48 = .ok (.iconst 0, 1) := by decide +kernel
theorem dX8_join_49 : decode cX8_join 49 = .ok (.istore 6, 2) := by decide +kernel
theorem dX8_join_51 : decode cX8_join 51 = .ok (.iload 6, 2) := by decide +kernel
theorem dX8_join_53 : decode cX8_join 53 = .ok (.iload 5, 2) := by decide +kernel
theorem dX8_join_55 : decode cX8_join 55 = .ok (.if_icmp .ge 52, 3) := by decide +kernel
theorem dX8_join_58 : decode cX8_join 58 = .ok (.aload_n 0, 1) := by decide +kernel
theorem dX8_join_59 : decode cX8_join 59 = .ok (.aload_n 0, 1) := by decide +kernel
theorem dX8_join_60 : decode cX8_join 60 = .ok (.iload_n 2, 1) := by decide +kernel
theorem dX8_join_61 : decode cX8_join 61 = .ok (.invokevirtual 128, 3) := by decide +kernel
theorem dX8_join_64 : decode cX8_join 64 = .ok (.iload 5, 2) := by decide +kernel
theorem dX8_join_66 : decode cX8_join 66 = .ok (.invokevirtual 65, 3) := by decide +kernel
theorem dX8_join_69 : decode cX8_join 69 = .ok (.aload_n 0, 1) := by decide +kernel
theorem dX8_join_70 : decode cX8_join 70 = .ok (.aload_n 0, 1) := by decide +kernel
theorem dX8_join_71 : decode cX8_join 71 = .ok (.iload_n 2, 1) := by decide +kernel
theorem dX8_join_72 : decode cX8_join 72 = .ok (.invokevirtual 128, 3) := by decide +kernel
theorem dX8_join_75 : decode cX8_join 75 = .ok (.iload 6, 2) := by decide +kernel
theorem dX8_join_77 : decode cX8_join 77 = .ok (.invokevirtual 65, 3) := by decide +kernel
theorem dX8_join_80 : decode cX8_join 80 = .ok (.if_icmp .ne 21, 3) := by decide +kernel
theorem dX8_join_83 : decode cX8_join 83 = .ok (.aload_n 0, 1) := by decide +kernel
theorem dX8_join_84 : decode cX8_join 84 = .ok (.aload_n 0, 1) := by decide +kernel
theorem dX8_join_85 : decode cX8_join 85 = .ok (.getfield 25, 3) := by decide +kernel
theorem dX8_join_88 : decode cX8_join 88 = .ok (.iload 5, 2) := by decide +kernel
theorem dX8_join_90 : decode cX8_join 90 = .ok (.iaload, 1) := by decide +kernel
theorem dX8_join_91 : decode cX8_join 91 = .ok (.aload_n 0, 1) := by decide +kernel
theorem dX8_join_92 : decode cX8_join 92 = .ok (.getfield 25, 3) := by decide +kernel
theorem dX8_join_95 : decode cX8_join 95 = .ok (.iload 6, 2) := by decide +kernel
theorem dX8_join_97 : decode cX8_join 97 = .ok (.iaload, 1) := by decide +kernel
theorem dX8_join_98 : decode cX8_join 98 = .ok (.invokevirtual 140, 3) := by decide +kernel
theorem dX8_join_101 : decode cX8_join 101 = .ok (.iinc 6 1, 3) := by decide +kernel
theorem dX8_join_104 : decode cX8_join 104 = .ok (.goto (-53), 3) := by decide +kernel
theorem dX8_join_107 : decode cX8_join 107 = .ok (.iinc 5 1, 3) := by decide +kernel
theorem dX8_join_110 : decode cX8_join 110 = .ok (.goto (-73), 3) := by decide +kernel
theorem dX8_join_113 : decode cX8_join 113 = .ok (.aload_n 0, 1) := by decide +kernel
theorem dX8_join_114 : decode cX8_join 114 = .ok (.iload_n 3, 1) := by decide +kernel
theorem dX8_join_115 : decode cX8_join 115 = .ok (.aload_n 0, 1) := by decide +kernel
theorem dX8_join_116 : decode cX8_join 116 = .ok (.invokevirtual 122, 3) := by decide +kernel
theorem dX8_join_119 : decode cX8_join 119 = .ok (.invokevirtual 125, 3) := by decide +kernel
theorem dX8_join_122 : decode cX8_join 122 = .ok (.ireturn, 1) := by decide +kernel
theorem dX8_unite_0 : decode cX8_unite 0 = .ok (.iload_n 1, 1) := by decide +kernel
theorem dX8_unite_1 : decode cX8_unite 1 = .ok (.invokestatic 115, 3) := by decide +kernel
theorem dX8_unite_4 : decode cX8_unite 4 = .ok (.ifCond .eq 19, 3) := by decide +kernel
theorem dX8_unite_7 : decode cX8_unite 7 = .ok (.aload_n 0, 1) := by decide +kernel
theorem dX8_unite_8 : decode cX8_unite 8 = .ok (.iload_n 2, 1) := by decide +kernel
theorem dX8_unite_9 : decode cX8_unite 9 = .ok (.invokevirtual 105, 3) := by decide +kernel
theorem dX8_unite_12 : decode cX8_unite 12 = .ok (.ifCond .eq 11, 3) := by decide +kernel
theorem dX8_unite_15 : decode cX8_unite 15 = .ok (.aload_n 0, 1) := by decide +kernel
theorem dX8_unite_16 : decode cX8_unite 16 = .ok (.iload_n 3, 1) := by decide +kernel
theorem dX8_unite_17 : decode cX8_unite 17 = .ok (.invokevirtual 105, 3) := by decide +kernel
theorem dX8_unite_20 : decode cX8_unite 20 = .ok (.ifCond .ne 5, 3) := by decide +kernel
theorem dX8_unite_23 : decode cX8_unite 23 = .ok (.iconst (-1), 1) := by decide +kernel
theorem dX8_unite_24 : decode cX8_unite 24 = .ok (.ireturn, 1) := by decide +kernel
theorem dX8_unite_25 : decode cX8_unite 25 = .ok (.aload_n 0, 1) := by decide +kernel
theorem dX8_unite_26 : decode cX8_unite 26 = .ok (.iload_n 1, 1) := by decide +kernel
theorem dX8_unite_27 : decode cX8_unite 27 = .ok (.invokevirtual 128, 3) := by decide +kernel
theorem dX8_unite_30 : decode cX8_unite 30 = .ok (.bipush (-9), 2) := by decide +kernel
theorem dX8_unite_32 : decode cX8_unite 32 = .ok (.if_icmp .ne 6, 3) := by decide +kernel
theorem dX8_unite_35 : decode cX8_unite 35 = .ok (.bipush (-2), 2) := by decide +kernel
theorem dX8_unite_37 : decode cX8_unite 37 = .ok (.ireturn, 1) := by decide +kernel
theorem dX8_unite_38 : decode cX8_unite 38 = .ok (.aload_n 0, 1) := by decide +kernel
theorem dX8_unite_39 : decode cX8_unite 39 = .ok (.aload_n 0, 1) := by decide +kernel
theorem dX8_unite_40 : decode cX8_unite 40 = .ok (.iload_n 1, 1) := by decide +kernel
theorem dX8_unite_41 : decode cX8_unite 41 = .ok (.invokevirtual 128, 3) := by decide +kernel
theorem dX8_unite_44 : decode cX8_unite 44 = .ok (.invokevirtual 137, 3) := by decide +kernel
theorem dX8_unite_47 : decode cX8_unite 47 = .ok (.aload_n 0, 1) := by decide +kernel
theorem dX8_unite_48 : decode cX8_unite 48 = .ok (.aload_n 0, 1) := by decide +kernel
theorem dX8_unite_49 : decode cX8_unite 49 = .ok (.getfield 25, 3) := by decide +kernel
theorem dX8_unite_52 : decode cX8_unite 52 = .ok (.iload_n 2, 1) := by decide +kernel
theorem dX8_unite_53 : decode cX8_unite 53 = .ok (.iaload, 1) := by decide +kernel
theorem dX8_unite_54 : decode cX8_unite 54 = .ok (.aload_n 0, 1) := by decide +kernel
theorem dX8_unite_55 : decode cX8_unite 55 = .ok (.getfield 25, 3) := by decide +kernel
theorem dX8_unite_58 : decode cX8_unite 58 = .ok (.iload_n 3, 1) := by decide +kernel
theorem dX8_unite_59 : decode cX8_unite 59 = .ok (.iaload, 1) := by decide +kernel
theorem dX8_unite_60 : decode cX8_unite 60 = .ok (.invokevirtual 140, 3) := by decide +kernel
theorem dX8_unite_63 : decode cX8_unite 63 = .ok (.aload_n 0, 1) := by decide +kernel
theorem dX8_unite_64 : decode cX8_unite 64 = .ok (.iload_n 1, 1) := by decide +kernel
theorem dX8_unite_65 : decode cX8_unite 65 = .ok (.aload_n 0, 1) := by decide +kernel
theorem dX8_unite_66 : decode cX8_unite 66 = .ok (.invokevirtual 122, 3) := by decide +kernel
theorem dX8_unite_69 : decode cX8_unite 69 = .ok (.invokevirtual 125, 3) := by decide +kernel
theorem dX8_unite_72 : decode cX8_unite 72 = .ok (.ireturn, 1) := by decide +kernel
theorem dX8_isolate_0 : decode cX8_isolate 0 = .ok (.iload_n 1, 1) := by decide +kernel
theorem dX8_isolate_1 : decode cX8_isolate 1 = .ok (.invokestatic 115, 3) := by decide +kernel
theorem dX8_isolate_4 : decode cX8_isolate 4 = .ok (.ifCond .eq 11, 3) := by decide +kernel
theorem dX8_isolate_7 : decode cX8_isolate 7 = .ok (.aload_n 0, 1) := by decide +kernel
theorem dX8_isolate_8 : decode cX8_isolate 8 = .ok (.iload_n 2, 1) := by decide +kernel
theorem dX8_isolate_9 : decode cX8_isolate 9 = .ok (.invokevirtual 105, 3) := by decide +kernel
theorem dX8_isolate_12 : decode cX8_isolate 12 = .ok (.ifCond .ne 5, 3) := by decide +kernel
theorem dX8_isolate_15 : decode cX8_isolate 15 = .ok (.iconst (-1), 1) := by decide +kernel
theorem dX8_isolate_16 : decode cX8_isolate 16 = .ok (.ireturn, 1) := by decide +kernel
theorem dX8_isolate_17 : decode cX8_isolate 17 = .ok (.aload_n 0, 1) := by decide +kernel
theorem dX8_isolate_18 : decode cX8_isolate 18 = .ok (.iload_n 1, 1) := by decide +kernel
theorem dX8_isolate_19 : decode cX8_isolate 19 = .ok (.invokevirtual 128, 3) := by decide +kernel
theorem dX8_isolate_22 : decode cX8_isolate 22 = .ok (.bipush (-9), 2) := by decide +kernel
theorem dX8_isolate_24 : decode cX8_isolate 24 = .ok (.if_icmp .ne 6, 3) := by decide +kernel
theorem dX8_isolate_27 : decode cX8_isolate 27 = .ok (.bipush (-2), 2) := by decide +kernel
theorem dX8_isolate_29 : decode cX8_isolate 29 = .ok (.ireturn, 1) := by decide +kernel
theorem dX8_isolate_30 : decode cX8_isolate 30 = .ok (.aload_n 0, 1) := by decide +kernel
theorem dX8_isolate_31 : decode cX8_isolate 31 = .ok (.aload_n 0, 1) := by decide +kernel
theorem dX8_isolate_32 : decode cX8_isolate 32 = .ok (.iload_n 1, 1) := by decide +kernel
theorem dX8_isolate_33 : decode cX8_isolate 33 = .ok (.invokevirtual 128, 3) := by decide +kernel
theorem dX8_isolate_36 : decode cX8_isolate 36 = .ok (.invokevirtual 137, 3) := by decide +kernel
theorem dX8_isolate_39 : decode cX8_isolate 39 = .ok (.aload_n 0, 1) := by decide +kernel
theorem dX8_isolate_40 : decode cX8_isolate 40 = .ok (.getfield 25, 3) := by decide +kernel
theorem dX8_isolate_43 : decode cX8_isolate 43 = .ok (.iload_n 2, 1) := by decide +kernel
theorem dX8_isolate_44 : decode cX8_isolate 44 = .ok (.bipush 6, 2) := by decide +kernel
theorem dX8_isolate_46 : decode cX8_isolate 46 = .ok (.iastore, 1) := by decide +kernel
theorem dX8_isolate_47 : decode cX8_isolate 47 = .ok (.aload_n 0, 1) := by decide +kernel
theorem dX8_isolate_48 : decode cX8_isolate 48 = .ok (.iload_n 1, 1) := by decide +kernel
theorem dX8_isolate_49 : decode cX8_isolate 49 = .ok (.aload_n 0, 1) := by decide +kernel
theorem dX8_isolate_50 : decode cX8_isolate 50 = .ok (.invokevirtual 122, 3) := by decide +kernel
theorem dX8_isolate_53 : decode cX8_isolate 53 = .ok (.invokevirtual 125, 3) := by decide +kernel
theorem dX8_isolate_56 : decode cX8_isolate 56 = .ok (.ireturn, 1) := by decide +kernel
theorem dX8_changes_0 : decode cX8_changes 0 = .ok (.aload_n 0, 1) := by decide +kernel
theorem dX8_changes_1 : decode cX8_changes 1 = .ok (.iload_n 1, 1) := by decide +kernel
theorem dX8_changes_2 : decode cX8_changes 2 = .ok (.invokevirtual 128, 3) := by decide +kernel
theorem dX8_changes_5 : decode cX8_changes 5 = .ok (.istore_n 3, 1) := by decide +kernel
theorem dX8_changes_6 : decode cX8_changes 6 = .ok (.aload_n 0, 1) := by decide +kernel
theorem dX8_changes_7 : decode cX8_changes 7 = .ok (.iload_n 1, 1) := by decide +kernel
theorem dX8_changes_8 : decode cX8_changes 8 = .ok (.iload_n 2, 1) := by decide +kernel
theorem dX8_changes_9 : decode cX8_changes 9 = .ok (.invokevirtual 125, 3) := by decide +kernel
theorem dX8_changes_12 : decode cX8_changes 12 = .ok (.pop, 1) := by decide +kernel
theorem dX8_changes_13 : decode cX8_changes 13 = .ok (.iload_n 2, 1) := by decide +kernel
theorem dX8_changes_14 : decode cX8_changes 14 = .ok (.iload_n 3, 1) := by decide +kernel
theorem dX8_changes_15 : decode cX8_changes 15 = .ok (.if_icmp .eq 7, 3) := by decide +kernel
theorem dX8_changes_18 : decode cX8_changes 18 = .ok (.iconst 1, 1) := by decide +kernel
theorem dX8_changes_19 : decode cX8_changes 19 = .ok (.goto 4, 3) := by decide +kernel
theorem dX8_changes_22 : decode cX8_changes 22 = .ok (.iconst 0, 1) := by decide +kernel
theorem dX8_changes_23 : decode cX8_changes 23 = .ok (.ireturn, 1) := by decide +kernel
theorem dX8_swap_0 : decode cX8_swap 0 = .ok (.iload_n 1, 1) := by decide +kernel
theorem dX8_swap_1 : decode cX8_swap 1 = .ok (.invokestatic 115, 3) := by decide +kernel
theorem dX8_swap_4 : decode cX8_swap 4 = .ok (.ifCond .eq 19, 3) := by decide +kernel
theorem dX8_swap_7 : decode cX8_swap 7 = .ok (.aload_n 0, 1) := by decide +kernel
theorem dX8_swap_8 : decode cX8_swap 8 = .ok (.iload_n 2, 1) := by decide +kernel
theorem dX8_swap_9 : decode cX8_swap 9 = .ok (.invokevirtual 105, 3) := by decide +kernel
theorem dX8_swap_12 : decode cX8_swap 12 = .ok (.ifCond .eq 11, 3) := by decide +kernel
theorem dX8_swap_15 : decode cX8_swap 15 = .ok (.aload_n 0, 1) := by decide +kernel
theorem dX8_swap_16 : decode cX8_swap 16 = .ok (.iload_n 3, 1) := by decide +kernel
theorem dX8_swap_17 : decode cX8_swap 17 = .ok (.invokevirtual 105, 3) := by decide +kernel
theorem dX8_swap_20 : decode cX8_swap 20 = .ok (.ifCond .ne 5, 3) := by decide +kernel
theorem dX8_swap_23 : decode cX8_swap 23 = .ok (.iconst (-1), 1) := by decide +kernel
theorem dX8_swap_24 : decode cX8_swap 24 = .ok (.ireturn, 1) := by decide +kernel
theorem dX8_swap_25 : decode cX8_swap 25 = .ok (.aload_n 0, 1) := by decide +kernel
theorem dX8_swap_26 : decode cX8_swap 26 = .ok (.iload_n 1, 1) := by decide +kernel
theorem dX8_swap_27 : decode cX8_swap 27 = .ok (.invokevirtual 128, 3) := by decide +kernel
theorem dX8_swap_30 : decode cX8_swap 30 = .ok (.bipush (-9), 2) := by decide +kernel
theorem dX8_swap_32 : decode cX8_swap 32 = .ok (.if_icmp .ne 6, 3) := by decide +kernel
theorem dX8_swap_35 : decode cX8_swap 35 = .ok (.bipush (-2), 2) := by decide +kernel
theorem dX8_swap_37 : decode cX8_swap 37 = .ok (.ireturn, 1) := by decide +kernel
theorem dX8_swap_38 : decode cX8_swap 38 = .ok (.aload_n 0, 1) := by decide +kernel
theorem dX8_swap_39 : decode cX8_swap 39 = .ok (.aload_n 0, 1) := by decide +kernel
theorem dX8_swap_40 : decode cX8_swap 40 = .ok (.iload_n 1, 1) := by decide +kernel
theorem dX8_swap_41 : decode cX8_swap 41 = .ok (.invokevirtual 128, 3) := by decide +kernel
theorem dX8_swap_44 : decode cX8_swap 44 = .ok (.invokevirtual 137, 3) := by decide +kernel
theorem dX8_swap_47 : decode cX8_swap 47 = .ok (.aload_n 0, 1) := by decide +kernel
theorem dX8_swap_48 : decode cX8_swap 48 = .ok (.getfield 25, 3) := by decide +kernel
theorem dX8_swap_51 : decode cX8_swap 51 = .ok (.iload_n 2, 1) := by decide +kernel
theorem dX8_swap_52 : decode cX8_swap 52 = .ok (.iaload, 1) := by decide +kernel
theorem dX8_swap_53 : decode cX8_swap 53 = .ok (.istore 4, 2) := by decide +kernel
theorem dX8_swap_55 : decode cX8_swap 55 = .ok (.aload_n 0, 1) := by decide +kernel
theorem dX8_swap_56 : decode cX8_swap 56 = .ok (.getfield 25, 3) := by decide +kernel
theorem dX8_swap_59 : decode cX8_swap 59 = .ok (.iload_n 2, 1) := by decide +kernel
theorem dX8_swap_60 : decode cX8_swap 60 = .ok (.aload_n 0, 1) := by decide +kernel
theorem dX8_swap_61 : decode cX8_swap 61 = .ok (.getfield 25, 3) := by decide +kernel
theorem dX8_swap_64 : decode cX8_swap 64 = .ok (.iload_n 3, 1) := by decide +kernel
theorem dX8_swap_65 : decode cX8_swap 65 = .ok (.iaload, 1) := by decide +kernel
theorem dX8_swap_66 : decode cX8_swap 66 = .ok (.iastore, 1) := by decide +kernel
theorem dX8_swap_67 : decode cX8_swap 67 = .ok (.aload_n 0, 1) := by decide +kernel
theorem dX8_swap_68 : decode cX8_swap 68 = .ok (.getfield 25, 3) := by decide +kernel
theorem dX8_swap_71 : decode cX8_swap 71 = .ok (.iload_n 3, 1) := by decide +kernel
theorem dX8_swap_72 : decode cX8_swap 72 = .ok (.iload 4, 2) := by decide +kernel
theorem dX8_swap_74 : decode cX8_swap 74 = .ok (.iastore, 1) := by decide +kernel
theorem dX8_swap_75 : decode cX8_swap 75 = .ok (.aload_n 0, 1) := by decide +kernel
theorem dX8_swap_76 : decode cX8_swap 76 = .ok (.iload_n 1, 1) := by decide +kernel
theorem dX8_swap_77 : decode cX8_swap 77 = .ok (.aload_n 0, 1) := by decide +kernel
theorem dX8_swap_78 : decode cX8_swap 78 = .ok (.invokevirtual 122, 3) := by decide +kernel
theorem dX8_swap_81 : decode cX8_swap 81 = .ok (.invokevirtual 144, 3) := by decide +kernel
theorem dX8_swap_84 : decode cX8_swap 84 = .ok (.ireturn, 1) := by decide +kernel
theorem dX8_rotate_0 : decode cX8_rotate 0 = .ok (.aload_n 0, 1) := by decide +kernel
theorem dX8_rotate_1 : decode cX8_rotate 1 = .ok (.iload_n 1, 1) := by decide +kernel
theorem dX8_rotate_2 : decode cX8_rotate 2 = .ok (.invokevirtual 131, 3) := by decide +kernel
theorem dX8_rotate_5 : decode cX8_rotate 5 = .ok (.istore_n 2, 1) := by decide +kernel
theorem dX8_rotate_6 : decode cX8_rotate 6 = .ok (.iload_n 2, 1) := by decide +kernel
theorem dX8_rotate_7 : decode cX8_rotate 7 = .ok (.ifCond .eq 5, 3) := by decide +kernel
theorem dX8_rotate_10 : decode cX8_rotate 10 = .ok (.iload_n 2, 1) := by decide +kernel
theorem dX8_rotate_11 : decode cX8_rotate 11 = .ok (.ireturn, 1) := by decide +kernel
theorem dX8_rotate_12 : decode cX8_rotate 12 = .ok (.aload_n 0, 1) := by decide +kernel
theorem dX8_rotate_13 : decode cX8_rotate 13 = .ok (.getfield 7, 3) := by decide +kernel
theorem dX8_rotate_16 : decode cX8_rotate 16 = .ok (.iconst 0, 1) := by decide +kernel
theorem dX8_rotate_17 : decode cX8_rotate 17 = .ok (.iaload, 1) := by decide +kernel
theorem dX8_rotate_18 : decode cX8_rotate 18 = .ok (.istore_n 3, 1) := by decide +kernel
theorem dX8_rotate_19 : decode cX8_rotate 19 = .ok (.iconst 0, 1) := by decide +kernel
theorem dX8_rotate_20 : decode cX8_rotate 20 = .ok (.istore 4, 2) := by decide +kernel
theorem dX8_rotate_22 : decode cX8_rotate 22 = .ok (.iload 4, 2) := by decide +kernel
theorem dX8_rotate_24 : decode cX8_rotate 24 = .ok (.iload_n 3, 1) := by decide +kernel
theorem dX8_rotate_25 : decode cX8_rotate 25 = .ok (.if_icmp .ge 33, 3) := by decide +kernel
theorem dX8_rotate_28 : decode cX8_rotate 28 = .ok (.aload_n 0, 1) := by decide +kernel
theorem dX8_rotate_29 : decode cX8_rotate 29 = .ok (.getfield 25, 3) := by decide +kernel
theorem dX8_rotate_32 : decode cX8_rotate 32 = .ok (.iload 4, 2) := by decide +kernel
theorem dX8_rotate_34 : decode cX8_rotate 34 = .ok (.aload_n 0, 1) := by decide +kernel
theorem dX8_rotate_35 : decode cX8_rotate 35 = .ok (.aload_n 0, 1) := by decide +kernel
theorem dX8_rotate_36 : decode cX8_rotate 36 = .ok (.iload_n 1, 1) := by decide +kernel
theorem dX8_rotate_37 : decode cX8_rotate 37 = .ok (.invokevirtual 128, 3) := by decide +kernel
theorem dX8_rotate_40 : decode cX8_rotate 40 = .ok (.iload 4, 2) := by decide +kernel
theorem dX8_rotate_42 : decode cX8_rotate 42 = .ok (.iload_n 3, 1) := by decide +kernel
theorem dX8_rotate_43 : decode cX8_rotate 43 = .ok (.iadd, 1) := by decide +kernel
theorem dX8_rotate_44 : decode cX8_rotate 44 = .ok (.iconst 1, 1) := by decide +kernel
theorem dX8_rotate_45 : decode cX8_rotate 45 = .ok (.isub, 1) := by decide +kernel
theorem dX8_rotate_46 : decode cX8_rotate 46 = .ok (.iload_n 3, 1) := by decide +kernel
theorem dX8_rotate_47 : decode cX8_rotate 47 = .ok (.irem, 1) := by decide +kernel
theorem dX8_rotate_48 : decode cX8_rotate 48 = .ok (.invokevirtual 65, 3) := by decide +kernel
theorem dX8_rotate_51 : decode cX8_rotate 51 = .ok (.iastore, 1) := by decide +kernel
theorem dX8_rotate_52 : decode cX8_rotate 52 = .ok (.iinc 4 1, 3) := by decide +kernel
theorem dX8_rotate_55 : decode cX8_rotate 55 = .ok (.goto (-33), 3) := by decide +kernel
theorem dX8_rotate_58 : decode cX8_rotate 58 = .ok (.aload_n 0, 1) := by decide +kernel
theorem dX8_rotate_59 : decode cX8_rotate 59 = .ok (.iload_n 1, 1) := by decide +kernel
theorem dX8_rotate_60 : decode cX8_rotate 60 = .ok (.aload_n 0, 1) := by decide +kernel
theorem dX8_rotate_61 : decode cX8_rotate 61 = .ok (.invokevirtual 122, 3) := by decide +kernel
theorem dX8_rotate_64 : decode cX8_rotate 64 = .ok (.invokevirtual 144, 3) := by decide +kernel
theorem dX8_rotate_67 : decode cX8_rotate 67 = .ok (.ireturn, 1) := by decide +kernel
theorem dX8_isParted_0 : decode cX8_isParted 0 = .ok (.iload_n 2, 1) := by decide +kernel
theorem dX8_isParted_1 : decode cX8_isParted 1 = .ok (.iconst 1, 1) := by decide +kernel
theorem dX8_isParted_2 : decode cX8_isParted 2 = .ok (.iadd, 1) := by decide +kernel
theorem dX8_isParted_3 : decode cX8_isParted 3 = .ok (.istore 4, 2) := by decide +kernel
theorem dX8_isParted_5 : decode cX8_isParted 5 = .ok (.iload 4, 2) := by decide +kernel
theorem dX8_isParted_7 : decode cX8_isParted 7 = .ok (.iload_n 3, 1) := by decide +kernel
theorem dX8_isParted_8 : decode cX8_isParted 8 = .ok (.if_icmp .gt 60, 3) := by decide +kernel
theorem dX8_isParted_11 : decode cX8_isParted 11 = .ok (.iconst 0, 1) := by decide +kernel
theorem dX8_isParted_12 : decode cX8_isParted 12 = .ok (.istore 5, 2) := by decide +kernel
theorem dX8_isParted_14 : decode cX8_isParted 14 = .ok (.iload 5, 2) := by decide +kernel
theorem dX8_isParted_16 : decode cX8_isParted 16 = .ok (.aload_n 0, 1) := by decide +kernel
theorem dX8_isParted_17 : decode cX8_isParted 17 = .ok (.getfield 7, 3) := by decide +kernel
theorem dX8_isParted_20 : decode cX8_isParted 20 = .ok (.iconst 0, 1) := by decide +kernel
theorem dX8_isParted_21 : decode cX8_isParted 21 = .ok (.iaload, 1) := by decide +kernel
theorem dX8_isParted_22 : decode cX8_isParted 22 = .ok (.if_icmp .ge 40, 3) := by decide +kernel
theorem dX8_isParted_25 : decode cX8_isParted 25 = .ok (.aload_n 0, 1) := by decide +kernel
theorem dX8_isParted_26 : decode cX8_isParted 26 = .ok (.iload_n 1, 1) := by decide +kernel
theorem dX8_isParted_27 : decode cX8_isParted 27 = .ok (.iload 4, 2) := by decide +kernel
theorem dX8_isParted_29 : decode cX8_isParted 29 = .ok (.invokevirtual 65, 3) := by decide +kernel
theorem dX8_isParted_32 : decode cX8_isParted 32 = .ok (.aload_n 0, 1) := by decide +kernel
theorem dX8_isParted_33 : decode cX8_isParted 33 = .ok (.iload_n 1, 1) := by decide +kernel
theorem dX8_isParted_34 : decode cX8_isParted 34 = .ok (.iload 5, 2) := by decide +kernel
theorem dX8_isParted_36 : decode cX8_isParted 36 = .ok (.invokevirtual 65, 3) := by decide +kernel
theorem dX8_isParted_39 : decode cX8_isParted 39 = .ok (.if_icmp .ne 17, 3) := by decide +kernel
theorem dX8_isParted_42 : decode cX8_isParted 42 = .ok (.iload 5, 2) := by decide +kernel
theorem dX8_isParted_44 : decode cX8_isParted 44 = .ok (.iload_n 2, 1) := by decide +kernel
theorem dX8_isParted_45 : decode cX8_isParted 45 = .ok (.iconst 1, 1) := by decide +kernel
theorem dX8_isParted_46 : decode cX8_isParted 46 = .ok (.iadd, 1) := by decide +kernel
theorem dX8_isParted_47 : decode cX8_isParted 47 = .ok (.iload_n 3, 1) := by decide +kernel
theorem dX8_isParted_48 : decode cX8_isParted 48 = .ok (.invokestatic 96, 3) := by decide +kernel
theorem dX8_isParted_51 : decode cX8_isParted 51 = .ok (.ifCond .ne 5, 3) := by decide +kernel
theorem dX8_isParted_54 : decode cX8_isParted 54 = .ok (.iconst 0, 1) := by decide +kernel
theorem dX8_isParted_55 : decode cX8_isParted 55 = .ok (.ireturn, 1) := by decide +kernel
theorem dX8_isParted_56 : decode cX8_isParted 56 = .ok (.iinc 5 1, 3) := by decide +kernel
theorem dX8_isParted_59 : decode cX8_isParted 59 = .ok (.goto (-45), 3) := by decide +kernel
theorem dX8_isParted_62 : decode cX8_isParted 62 = .ok (.iinc 4 1, 3) := by decide +kernel
theorem dX8_isParted_65 : decode cX8_isParted 65 = .ok (.goto (-60), 3) := by decide +kernel
theorem dX8_isParted_68 : decode cX8_isParted 68 = .ok (.iconst 1, 1) := by decide +kernel
theorem dX8_isParted_69 : decode cX8_isParted 69 = .ok (.ireturn, 1) := by decide +kernel
theorem dX8_complement_0 : decode cX8_complement 0 = .ok (.iload_n 2, 1) := by decide +kernel
theorem dX8_complement_1 : decode cX8_complement 1 = .ok (.invokestatic 115, 3) := by decide +kernel
theorem dX8_complement_4 : decode cX8_complement 4 = .ok (.ifCond .ne 5, 3) := by decide +kernel
theorem dX8_complement_7 : decode cX8_complement 7 = .ok (.iconst (-1), 1) := by decide +kernel
theorem dX8_complement_8 : decode cX8_complement 8 = .ok (.ireturn, 1) := by decide +kernel
theorem dX8_complement_9 : decode cX8_complement 9 = .ok (.aload_n 0, 1) := by decide +kernel
theorem dX8_complement_10 : decode cX8_complement 10 = .ok (.iload_n 1, 1) := by decide +kernel
theorem dX8_complement_11 : decode cX8_complement 11 = .ok (.invokevirtual 131, 3) := by decide +kernel
theorem dX8_complement_14 : decode cX8_complement 14 = .ok (.istore_n 3, 1) := by decide +kernel
theorem dX8_complement_15 : decode cX8_complement 15 = .ok (.iload_n 3, 1) := by decide +kernel
theorem dX8_complement_16 : decode cX8_complement 16 = .ok (.ifCond .eq 5, 3) := by decide +kernel
theorem dX8_complement_19 : decode cX8_complement 19 = .ok (.iload_n 3, 1) := by decide +kernel
theorem dX8_complement_20 : decode cX8_complement 20 = .ok (.ireturn, 1) := by decide +kernel
theorem dX8_complement_21 : decode cX8_complement 21 = .ok (.aload_n 0, 1) := by decide +kernel
theorem dX8_complement_22 : decode cX8_complement 22 = .ok (.iload_n 1, 1) := by decide +kernel
theorem dX8_complement_23 : decode cX8_complement 23 = .ok (.invokevirtual 128, 3) := by decide +kernel
theorem dX8_complement_26 : decode cX8_complement 26 = .ok (.istore 4, 2) := by decide +kernel
theorem dX8_complement_28 : decode cX8_complement 28 = .ok (.aload_n 0, 1) := by decide +kernel
theorem dX8_complement_29 : decode cX8_complement 29 = .ok (.iload 4, 2) := by decide +kernel
theorem dX8_complement_31 : decode cX8_complement 31 = .ok (.invokevirtual 86, 3) := by decide +kernel
theorem dX8_complement_34 : decode cX8_complement 34 = .ok (.bipush (-9), 2) := by decide +kernel
theorem dX8_complement_36 : decode cX8_complement 36 = .ok (.if_icmp .eq 6, 3) := by decide +kernel
theorem dX8_complement_39 : decode cX8_complement 39 = .ok (.bipush (-3), 2) := by decide +kernel
theorem dX8_complement_41 : decode cX8_complement 41 = .ok (.ireturn, 1) := by decide +kernel
theorem dX8_complement_42 : decode cX8_complement 42 = .ok (.iconst 0, 1) := by decide +kernel
theorem dX8_complement_43 : decode cX8_complement 43 = .ok (.istore 5, 2) := by decide +kernel
theorem dX8_complement_45 : decode cX8_complement 45 = .ok (.iload 5, 2) := by decide +kernel
theorem dX8_complement_47 : decode cX8_complement 47 = .ok (.aload_n 0, 1) := by decide +kernel
theorem dX8_complement_48 : decode cX8_complement 48 = .ok (.getfield 7, 3) := by decide +kernel
theorem dX8_complement_51 : decode cX8_complement 51 = .ok (.iconst 0, 1) := by decide +kernel
theorem dX8_complement_52 : decode cX8_complement 52 = .ok (.iaload, 1) := by decide +kernel
theorem dX8_complement_53 : decode cX8_complement 53 = .ok (.if_icmp .ge 47, 3) := by decide +kernel
theorem dX8_complement_56 : decode cX8_complement 56 = .ok (.iconst 0, 1) := by decide +kernel
theorem dX8_complement_57 : decode cX8_complement 57 = .ok (.istore 6, 2) := by decide +kernel
theorem dX8_complement_59 : decode cX8_complement 59 = .ok (.iload 6, 2) := by decide +kernel
theorem dX8_complement_61 : decode cX8_complement 61 = .ok (.iload 5, 2) := by decide +kernel
theorem dX8_complement_63 : decode cX8_complement 63 = .ok (.if_icmp .ge 22, 3) := by decide +kernel
theorem dX8_complement_66 : decode cX8_complement 66 = .ok (.aload_n 0, 1) := by decide +kernel
theorem dX8_complement_67 : decode cX8_complement 67 = .ok (.iload 4, 2) := by decide +kernel
theorem dX8_complement_69 : decode cX8_complement 69 = .ok (.iload 6, 2) := by decide +kernel
theorem dX8_complement_71 : decode cX8_complement 71 = .ok (.iload 5, 2) := by decide +kernel
theorem dX8_complement_73 : decode cX8_complement 73 = .ok (.invokevirtual 147, 3) := by decide +kernel
theorem dX8_complement_76 : decode cX8_complement 76 = .ok (.ifCond .ne 9, 3) := by decide +kernel
theorem dX8_complement_79 : decode cX8_complement 79 = .ok (.iinc 6 1, 3) := by decide +kernel
theorem dX8_complement_82 : decode cX8_complement 82 = .ok (.goto (-23), 3) := by decide +kernel
theorem dX8_complement_85 : decode cX8_complement 85 = .ok (.aload_n 0, 1) := by decide +kernel
theorem dX8_complement_86 : decode cX8_complement 86 = .ok (.getfield 25, 3) := by decide +kernel
theorem dX8_complement_89 : decode cX8_complement 89 = .ok (.iload 5, 2) := by decide +kernel
theorem dX8_complement_91 : decode cX8_complement 91 = .ok (.iload 6, 2) := by decide +kernel
theorem dX8_complement_93 : decode cX8_complement 93 = .ok (.iastore, 1) := by decide +kernel
theorem dX8_complement_94 : decode cX8_complement 94 = .ok (.iinc 5 1, 3) := by decide +kernel
theorem dX8_complement_97 : decode cX8_complement 97 = .ok (.goto (-52), 3) := by decide +kernel
theorem dX8_complement_100 : decode cX8_complement 100 = .ok (.aload_n 0, 1) := by decide +kernel
theorem dX8_complement_101 : decode cX8_complement 101 = .ok (.iload_n 2, 1) := by decide +kernel
theorem dX8_complement_102 : decode cX8_complement 102 = .ok (.aload_n 0, 1) := by decide +kernel
theorem dX8_complement_103 : decode cX8_complement 103 = .ok (.invokevirtual 122, 3) := by decide +kernel
theorem dX8_complement_106 : decode cX8_complement 106 = .ok (.invokevirtual 125, 3) := by decide +kernel
theorem dX8_complement_109 : decode cX8_complement 109 = .ok (.ireturn, 1) := by decide +kernel
theorem dX8_admittedAt_0 : decode cX8_admittedAt 0 = .ok (.iconst 0, 1) := by decide +kernel
theorem dX8_admittedAt_1 : decode cX8_admittedAt 1 = .ok (.istore_n 2, 1) := by decide +kernel
theorem dX8_admittedAt_2 : decode cX8_admittedAt 2 = .ok (.iload_n 2, 1) := by decide +kernel
theorem dX8_admittedAt_3 : decode cX8_admittedAt 3 = .ok (.aload_n 0, 1) := by decide +kernel
theorem dX8_admittedAt_4 : decode cX8_admittedAt 4 = .ok (.getfield 52, 3) := by decide +kernel
theorem dX8_admittedAt_7 : decode cX8_admittedAt 7 = .ok (.if_icmp .ge 29, 3) := by decide +kernel
theorem dX8_admittedAt_10 : decode cX8_admittedAt 10 = .ok (.aload_n 0, 1) := by decide +kernel
theorem dX8_admittedAt_11 : decode cX8_admittedAt 11 = .ok (.iload_n 2, 1) := by decide +kernel
theorem dX8_admittedAt_12 : decode cX8_admittedAt 12 = .ok (.invokevirtual 150, 3) := by decide +kernel
theorem dX8_admittedAt_15 : decode cX8_admittedAt 15 = .ok (.ifCond .eq 15, 3) := by decide +kernel
theorem dX8_admittedAt_18 : decode cX8_admittedAt 18 = .ok (.aload_n 0, 1) := by decide +kernel
theorem dX8_admittedAt_19 : decode cX8_admittedAt 19 = .ok (.getfield 22, 3) := by decide +kernel
theorem dX8_admittedAt_22 : decode cX8_admittedAt 22 = .ok (.iload_n 2, 1) := by decide +kernel
theorem dX8_admittedAt_23 : decode cX8_admittedAt 23 = .ok (.iaload, 1) := by decide +kernel
theorem dX8_admittedAt_24 : decode cX8_admittedAt 24 = .ok (.iload_n 1, 1) := by decide +kernel
theorem dX8_admittedAt_25 : decode cX8_admittedAt 25 = .ok (.if_icmp .ne 5, 3) := by decide +kernel
theorem dX8_admittedAt_28 : decode cX8_admittedAt 28 = .ok (.iload_n 2, 1) := by decide +kernel
theorem dX8_admittedAt_29 : decode cX8_admittedAt 29 = .ok (.ireturn, 1) := by decide +kernel
theorem dX8_admittedAt_30 : decode cX8_admittedAt 30 = .ok (.iinc 2 1, 3) := by decide +kernel
theorem dX8_admittedAt_33 : decode cX8_admittedAt 33 = .ok (.goto (-31), 3) := by decide +kernel
theorem dX8_admittedAt_36 : decode cX8_admittedAt 36 = .ok (.bipush (-9), 2) := by decide +kernel
theorem dX8_admittedAt_38 : decode cX8_admittedAt 38 = .ok (.ireturn, 1) := by decide +kernel
theorem dX8_unrank_0 : decode cX8_unrank 0 = .ok (.iload_n 1, 1) := by decide +kernel
theorem dX8_unrank_1 : decode cX8_unrank 1 = .ok (.invokestatic 115, 3) := by decide +kernel
theorem dX8_unrank_4 : decode cX8_unrank 4 = .ok (.ifCond .eq 17, 3) := by decide +kernel
theorem dX8_unrank_7 : decode cX8_unrank 7 = .ok (.iload_n 2, 1) := by decide +kernel
theorem dX8_unrank_8 : decode cX8_unrank 8 = .ok (.iconst 0, 1) := by decide +kernel
theorem dX8_unrank_9 : decode cX8_unrank 9 = .ok (.aload_n 0, 1) := by decide +kernel
theorem dX8_unrank_10 : decode cX8_unrank 10 = .ok (.getfield 59, 3) := by decide +kernel
theorem dX8_unrank_13 : decode cX8_unrank 13 = .ok (.iconst 1, 1) := by decide +kernel
theorem dX8_unrank_14 : decode cX8_unrank 14 = .ok (.isub, 1) := by decide +kernel
theorem dX8_unrank_15 : decode cX8_unrank 15 = .ok (.invokestatic 96, 3) := by decide +kernel
theorem dX8_unrank_18 : decode cX8_unrank 18 = .ok (.ifCond .ne 5, 3) := by decide +kernel
theorem dX8_unrank_21 : decode cX8_unrank 21 = .ok (.iconst (-1), 1) := by decide +kernel
theorem dX8_unrank_22 : decode cX8_unrank 22 = .ok (.ireturn, 1) := by decide +kernel
theorem dX8_unrank_23 : decode cX8_unrank 23 = .ok (.aload_n 0, 1) := by decide +kernel
theorem dX8_unrank_24 : decode cX8_unrank 24 = .ok (.iload_n 1, 1) := by decide +kernel
theorem dX8_unrank_25 : decode cX8_unrank 25 = .ok (.aload_n 0, 1) := by decide +kernel
theorem dX8_unrank_26 : decode cX8_unrank 26 = .ok (.iload_n 2, 1) := by decide +kernel
theorem dX8_unrank_27 : decode cX8_unrank 27 = .ok (.invokevirtual 153, 3) := by decide +kernel
theorem dX8_unrank_30 : decode cX8_unrank 30 = .ok (.invokevirtual 125, 3) := by decide +kernel
theorem dX8_unrank_33 : decode cX8_unrank 33 = .ok (.ireturn, 1) := by decide +kernel
theorem dX8_nearest_0 : decode cX8_nearest 0 = .ok (.iload_n 1, 1) := by decide +kernel
theorem dX8_nearest_1 : decode cX8_nearest 1 = .ok (.iload_n 2, 1) := by decide +kernel
theorem dX8_nearest_2 : decode cX8_nearest 2 = .ok (.iadd, 1) := by decide +kernel
theorem dX8_nearest_3 : decode cX8_nearest 3 = .ok (.istore_n 3, 1) := by decide +kernel
theorem dX8_nearest_4 : decode cX8_nearest 4 = .ok (.iload_n 3, 1) := by decide +kernel
theorem dX8_nearest_5 : decode cX8_nearest 5 = .ok (.iconst 0, 1) := by decide +kernel
theorem dX8_nearest_6 : decode cX8_nearest 6 = .ok (.aload_n 0, 1) := by decide +kernel
theorem dX8_nearest_7 : decode cX8_nearest 7 = .ok (.getfield 52, 3) := by decide +kernel
theorem dX8_nearest_10 : decode cX8_nearest 10 = .ok (.iconst 1, 1) := by decide +kernel
theorem dX8_nearest_11 : decode cX8_nearest 11 = .ok (.isub, 1) := by decide +kernel
theorem dX8_nearest_12 : decode cX8_nearest 12 = .ok (.invokestatic 96, 3) := by decide +kernel
theorem dX8_nearest_15 : decode cX8_nearest 15 = .ok (.ifCond .eq 18, 3) := by decide +kernel
theorem dX8_nearest_18 : decode cX8_nearest 18 = .ok (.aload_n 0, 1) := by decide +kernel
theorem dX8_nearest_19 : decode cX8_nearest 19 = .ok (.iload_n 3, 1) := by decide +kernel
theorem dX8_nearest_20 : decode cX8_nearest 20 = .ok (.invokevirtual 150, 3) := by decide +kernel
theorem dX8_nearest_23 : decode cX8_nearest 23 = .ok (.ifCond .ne 10, 3) := by decide +kernel
theorem dX8_nearest_26 : decode cX8_nearest 26 = .ok (.iload_n 3, 1) := by decide +kernel
theorem dX8_nearest_27 : decode cX8_nearest 27 = .ok (.iload_n 2, 1) := by decide +kernel
theorem dX8_nearest_28 : decode cX8_nearest 28 = .ok (.iadd, 1) := by decide +kernel
theorem dX8_nearest_29 : decode cX8_nearest 29 = .ok (.istore_n 3, 1) := by decide +kernel
theorem dX8_nearest_30 : decode cX8_nearest 30 = .ok (.goto (-26), 3) := by decide +kernel
theorem dX8_nearest_33 : decode cX8_nearest 33 = .ok (.iload_n 3, 1) := by decide +kernel
theorem dX8_nearest_34 : decode cX8_nearest 34 = .ok (.iconst 0, 1) := by decide +kernel
theorem dX8_nearest_35 : decode cX8_nearest 35 = .ok (.aload_n 0, 1) := by decide +kernel
theorem dX8_nearest_36 : decode cX8_nearest 36 = .ok (.getfield 52, 3) := by decide +kernel
theorem dX8_nearest_39 : decode cX8_nearest 39 = .ok (.iconst 1, 1) := by decide +kernel
theorem dX8_nearest_40 : decode cX8_nearest 40 = .ok (.isub, 1) := by decide +kernel
theorem dX8_nearest_41 : decode cX8_nearest 41 = .ok (.invokestatic 96, 3) := by decide +kernel
theorem dX8_nearest_44 : decode cX8_nearest 44 = .ok (.ifCond .eq 7, 3) := by decide +kernel
theorem dX8_nearest_47 : decode cX8_nearest 47 = .ok (.iload_n 3, 1) := by decide +kernel
theorem dX8_nearest_48 : decode cX8_nearest 48 = .ok (.goto 5, 3) := by decide +kernel
theorem dX8_nearest_51 : decode cX8_nearest 51 = .ok (.bipush (-9), 2) := by decide +kernel
theorem dX8_nearest_53 : decode cX8_nearest 53 = .ok (.ireturn, 1) := by decide +kernel
theorem dX8_steps_0 : decode cX8_steps 0 = .ok (.aload_n 0, 1) := by decide +kernel
theorem dX8_steps_1 : decode cX8_steps 1 = .ok (.iload_n 1, 1) := by decide +kernel
theorem dX8_steps_2 : decode cX8_steps 2 = .ok (.invokevirtual 131, 3) := by decide +kernel
theorem dX8_steps_5 : decode cX8_steps 5 = .ok (.istore_n 3, 1) := by decide +kernel
theorem dX8_steps_6 : decode cX8_steps 6 = .ok (.iload_n 3, 1) := by decide +kernel
theorem dX8_steps_7 : decode cX8_steps 7 = .ok (.ifCond .eq 5, 3) := by decide +kernel
theorem dX8_steps_10 : decode cX8_steps 10 = .ok (.iload_n 3, 1) := by decide +kernel
theorem dX8_steps_11 : decode cX8_steps 11 = .ok (.ireturn, 1) := by decide +kernel
theorem dX8_steps_12 : decode cX8_steps 12 = .ok (.aload_n 0, 1) := by decide +kernel
theorem dX8_steps_13 : decode cX8_steps 13 = .ok (.aload_n 0, 1) := by decide +kernel
theorem dX8_steps_14 : decode cX8_steps 14 = .ok (.iload_n 1, 1) := by decide +kernel
theorem dX8_steps_15 : decode cX8_steps 15 = .ok (.invokevirtual 128, 3) := by decide +kernel
theorem dX8_steps_18 : decode cX8_steps 18 = .ok (.iload_n 2, 1) := by decide +kernel
theorem dX8_steps_19 : decode cX8_steps 19 = .ok (.invokevirtual 156, 3) := by decide +kernel
theorem dX8_steps_22 : decode cX8_steps 22 = .ok (.istore 4, 2) := by decide +kernel
theorem dX8_steps_24 : decode cX8_steps 24 = .ok (.aload_n 0, 1) := by decide +kernel
theorem dX8_steps_25 : decode cX8_steps 25 = .ok (.iload_n 1, 1) := by decide +kernel
theorem dX8_steps_26 : decode cX8_steps 26 = .ok (.iload 4, 2) := by decide +kernel
theorem dX8_steps_28 : decode cX8_steps 28 = .ok (.bipush (-9), 2) := by decide +kernel
theorem dX8_steps_30 : decode cX8_steps 30 = .ok (.if_icmp .ne 11, 3) := by decide +kernel
theorem dX8_steps_33 : decode cX8_steps 33 = .ok (.aload_n 0, 1) := by decide +kernel
theorem dX8_steps_34 : decode cX8_steps 34 = .ok (.iload_n 1, 1) := by decide +kernel
theorem dX8_steps_35 : decode cX8_steps 35 = .ok (.invokevirtual 128, 3) := by decide +kernel
theorem dX8_steps_38 : decode cX8_steps 38 = .ok (.goto 5, 3) := by decide +kernel
theorem dX8_steps_41 : decode cX8_steps 41 = .ok (.iload 4, 2) := by decide +kernel
theorem dX8_steps_43 : decode cX8_steps 43 = .ok (.invokevirtual 125, 3) := by decide +kernel
theorem dX8_steps_46 : decode cX8_steps 46 = .ok (.pop, 1) := by decide +kernel
theorem dX8_steps_47 : decode cX8_steps 47 = .ok (.iload 4, 2) := by decide +kernel
theorem dX8_steps_49 : decode cX8_steps 49 = .ok (.bipush (-9), 2) := by decide +kernel
theorem dX8_steps_51 : decode cX8_steps 51 = .ok (.if_icmp .ne 8, 3) := by decide +kernel
theorem dX8_steps_54 : decode cX8_steps 54 = .ok (.bipush (-9), 2) := by decide +kernel
theorem dX8_steps_56 : decode cX8_steps 56 = .ok (.goto 10, 3) := by decide +kernel
theorem dX8_steps_59 : decode cX8_steps 59 = .ok (.aload_n 0, 1) := by decide +kernel
theorem dX8_steps_60 : decode cX8_steps 60 = .ok (.getfield 22, 3) := by decide +kernel
theorem dX8_steps_63 : decode cX8_steps 63 = .ok (.iload 4, 2) := by decide +kernel
theorem dX8_steps_65 : decode cX8_steps 65 = .ok (.iaload, 1) := by decide +kernel
theorem dX8_steps_66 : decode cX8_steps 66 = .ok (.ireturn, 1) := by decide +kernel
theorem dX8_next_0 : decode cX8_next 0 = .ok (.aload_n 0, 1) := by decide +kernel
theorem dX8_next_1 : decode cX8_next 1 = .ok (.iload_n 1, 1) := by decide +kernel
theorem dX8_next_2 : decode cX8_next 2 = .ok (.iconst 1, 1) := by decide +kernel
theorem dX8_next_3 : decode cX8_next 3 = .ok (.invokevirtual 159, 3) := by decide +kernel
theorem dX8_next_6 : decode cX8_next 6 = .ok (.ireturn, 1) := by decide +kernel
theorem dX8_previous_0 : decode cX8_previous 0 = .ok (.aload_n 0, 1) := by decide +kernel
theorem dX8_previous_1 : decode cX8_previous 1 = .ok (.iload_n 1, 1) := by decide +kernel
theorem dX8_previous_2 : decode cX8_previous 2 = .ok (.iconst (-1), 1) := by decide +kernel
theorem dX8_previous_3 : decode cX8_previous 3 = .ok (.invokevirtual 159, 3) := by decide +kernel
theorem dX8_previous_6 : decode cX8_previous 6 = .ok (.ireturn, 1) := by decide +kernel
theorem dX8_draw_0 : decode cX8_draw 0 = .ok (.iload_n 1, 1) := by decide +kernel
theorem dX8_draw_1 : decode cX8_draw 1 = .ok (.invokestatic 115, 3) := by decide +kernel
theorem dX8_draw_4 : decode cX8_draw 4 = .ok (.ifCond .ne 5, 3) := by decide +kernel
theorem dX8_draw_7 : decode cX8_draw 7 = .ok (.iconst (-1), 1) := by decide +kernel
theorem dX8_draw_8 : decode cX8_draw 8 = .ok (.ireturn, 1) := by decide +kernel
theorem dX8_draw_9 : decode cX8_draw 9 = .ok (.aload_n 0, 1) := by decide +kernel
theorem dX8_draw_10 : decode cX8_draw 10 = .ok (.getfield 59, 3) := by decide +kernel
theorem dX8_draw_13 : decode cX8_draw 13 = .ok (.ifCond .ne 6, 3) := by decide +kernel
theorem dX8_draw_16 : decode cX8_draw 16 = .ok (.bipush (-3), 2) := by decide +kernel
theorem dX8_draw_18 : decode cX8_draw 18 = .ok (.ireturn, 1) := by decide +kernel
theorem dX8_draw_19 : decode cX8_draw 19 = .ok (.iload_n 2, 1) := by decide +kernel
theorem dX8_draw_20 : decode cX8_draw 20 = .ok (.ldc 162, 2) := by decide +kernel
theorem dX8_draw_22 : decode cX8_draw 22 = .ok (.imul, 1) := by decide +kernel
theorem dX8_draw_23 : decode cX8_draw 23 = .ok (.sipush 12345, 3) := by decide +kernel
theorem dX8_draw_26 : decode cX8_draw 26 = .ok (.iadd, 1) := by decide +kernel
theorem dX8_draw_27 : decode cX8_draw 27 = .ok (.istore_n 3, 1) := by decide +kernel
theorem dX8_draw_28 : decode cX8_draw 28 = .ok (.iload_n 3, 1) := by decide +kernel
theorem dX8_draw_29 : decode cX8_draw 29 = .ok (.bipush 16, 2) := by decide +kernel
theorem dX8_draw_31 : decode cX8_draw 31 = .ok (.iushr, 1) := by decide +kernel
theorem dX8_draw_32 : decode cX8_draw 32 = .ok (.sipush 32767, 3) := by decide +kernel
theorem dX8_draw_35 : decode cX8_draw 35 = .ok (.iand, 1) := by decide +kernel
theorem dX8_draw_36 : decode cX8_draw 36 = .ok (.aload_n 0, 1) := by decide +kernel
theorem dX8_draw_37 : decode cX8_draw 37 = .ok (.getfield 59, 3) := by decide +kernel
theorem dX8_draw_40 : decode cX8_draw 40 = .ok (.irem, 1) := by decide +kernel
theorem dX8_draw_41 : decode cX8_draw 41 = .ok (.istore 4, 2) := by decide +kernel
theorem dX8_draw_43 : decode cX8_draw 43 = .ok (.aload_n 0, 1) := by decide +kernel
theorem dX8_draw_44 : decode cX8_draw 44 = .ok (.iload_n 1, 1) := by decide +kernel
theorem dX8_draw_45 : decode cX8_draw 45 = .ok (.aload_n 0, 1) := by decide +kernel
theorem dX8_draw_46 : decode cX8_draw 46 = .ok (.iload 4, 2) := by decide +kernel
theorem dX8_draw_48 : decode cX8_draw 48 = .ok (.invokevirtual 153, 3) := by decide +kernel
theorem dX8_draw_51 : decode cX8_draw 51 = .ok (.invokevirtual 125, 3) := by decide +kernel
theorem dX8_draw_54 : decode cX8_draw 54 = .ok (.pop, 1) := by decide +kernel
theorem dX8_draw_55 : decode cX8_draw 55 = .ok (.iload 4, 2) := by decide +kernel
theorem dX8_draw_57 : decode cX8_draw 57 = .ok (.ireturn, 1) := by decide +kernel
theorem dX8_blocks_0 : decode cX8_blocks 0 = .ok (.aload_n 0, 1) := by decide +kernel
theorem dX8_blocks_1 : decode cX8_blocks 1 = .ok (.iload_n 1, 1) := by decide +kernel
theorem dX8_blocks_2 : decode cX8_blocks 2 = .ok (.invokevirtual 131, 3) := by decide +kernel
theorem dX8_blocks_5 : decode cX8_blocks 5 = .ok (.istore_n 2, 1) := by decide +kernel
theorem dX8_blocks_6 : decode cX8_blocks 6 = .ok (.iload_n 2, 1) := by decide +kernel
theorem dX8_blocks_7 : decode cX8_blocks 7 = .ok (.ifCond .eq 7, 3) := by decide +kernel
theorem dX8_blocks_10 : decode cX8_blocks 10 = .ok (.iload_n 2, 1) := by decide +kernel
theorem dX8_blocks_11 : decode cX8_blocks 11 = .ok (.goto 13, 3) := by decide +kernel
theorem dX8_blocks_14 : decode cX8_blocks 14 = .ok (.aload_n 0, 1) := by decide +kernel
theorem dX8_blocks_15 : decode cX8_blocks 15 = .ok (.getfield 19, 3) := by decide +kernel
theorem dX8_blocks_18 : decode cX8_blocks 18 = .ok (.aload_n 0, 1) := by decide +kernel
theorem dX8_blocks_19 : decode cX8_blocks 19 = .ok (.iload_n 1, 1) := by decide +kernel
theorem dX8_blocks_20 : decode cX8_blocks 20 = .ok (.invokevirtual 128, 3) := by decide +kernel
theorem dX8_blocks_23 : decode cX8_blocks 23 = .ok (.iaload, 1) := by decide +kernel
theorem dX8_blocks_24 : decode cX8_blocks 24 = .ok (.ireturn, 1) := by decide +kernel
theorem dX8_blockOf_0 : decode cX8_blockOf 0 = .ok (.iload_n 1, 1) := by decide +kernel
theorem dX8_blockOf_1 : decode cX8_blockOf 1 = .ok (.invokestatic 115, 3) := by decide +kernel
theorem dX8_blockOf_4 : decode cX8_blockOf 4 = .ok (.ifCond .eq 11, 3) := by decide +kernel
theorem dX8_blockOf_7 : decode cX8_blockOf 7 = .ok (.aload_n 0, 1) := by decide +kernel
theorem dX8_blockOf_8 : decode cX8_blockOf 8 = .ok (.iload_n 2, 1) := by decide +kernel
theorem dX8_blockOf_9 : decode cX8_blockOf 9 = .ok (.invokevirtual 105, 3) := by decide +kernel
theorem dX8_blockOf_12 : decode cX8_blockOf 12 = .ok (.ifCond .ne 5, 3) := by decide +kernel
theorem dX8_blockOf_15 : decode cX8_blockOf 15 = .ok (.iconst (-1), 1) := by decide +kernel
theorem dX8_blockOf_16 : decode cX8_blockOf 16 = .ok (.ireturn, 1) := by decide +kernel
theorem dX8_blockOf_17 : decode cX8_blockOf 17 = .ok (.aload_n 0, 1) := by decide +kernel
theorem dX8_blockOf_18 : decode cX8_blockOf 18 = .ok (.iload_n 1, 1) := by decide +kernel
theorem dX8_blockOf_19 : decode cX8_blockOf 19 = .ok (.invokevirtual 128, 3) := by decide +kernel
theorem dX8_blockOf_22 : decode cX8_blockOf 22 = .ok (.bipush (-9), 2) := by decide +kernel
theorem dX8_blockOf_24 : decode cX8_blockOf 24 = .ok (.if_icmp .ne 8, 3) := by decide +kernel
theorem dX8_blockOf_27 : decode cX8_blockOf 27 = .ok (.bipush (-2), 2) := by decide +kernel
theorem dX8_blockOf_29 : decode cX8_blockOf 29 = .ok (.goto 13, 3) := by decide +kernel
theorem dX8_blockOf_32 : decode cX8_blockOf 32 = .ok (.aload_n 0, 1) := by decide +kernel
theorem dX8_blockOf_33 : decode cX8_blockOf 33 = .ok (.aload_n 0, 1) := by decide +kernel
theorem dX8_blockOf_34 : decode cX8_blockOf 34 = .ok (.iload_n 1, 1) := by decide +kernel
theorem dX8_blockOf_35 : decode cX8_blockOf 35 = .ok (.invokevirtual 128, 3) := by decide +kernel
theorem dX8_blockOf_38 : decode cX8_blockOf 38 = .ok (.iload_n 2, 1) := by decide +kernel
theorem dX8_blockOf_39 : decode cX8_blockOf 39 = .ok (.invokevirtual 65, 3) := by decide +kernel
theorem dX8_blockOf_42 : decode cX8_blockOf 42 = .ok (.ireturn, 1) := by decide +kernel
theorem dX8_block_0 : decode cX8_block 0 = .ok (.aload_n 0, 1) := by decide +kernel
theorem dX8_block_1 : decode cX8_block 1 = .ok (.iload_n 1, 1) := by decide +kernel
theorem dX8_block_2 : decode cX8_block 2 = .ok (.invokevirtual 131, 3) := by decide +kernel
theorem dX8_block_5 : decode cX8_block 5 = .ok (.istore_n 3, 1) := by decide +kernel
theorem dX8_block_6 : decode cX8_block 6 = .ok (.iload_n 3, 1) := by decide +kernel
theorem dX8_block_7 : decode cX8_block 7 = .ok (.ifCond .eq 5, 3) := by decide +kernel
theorem dX8_block_10 : decode cX8_block 10 = .ok (.iload_n 3, 1) := by decide +kernel
theorem dX8_block_11 : decode cX8_block 11 = .ok (.ireturn, 1) := by decide +kernel
theorem dX8_block_12 : decode cX8_block 12 = .ok (.iconst 0, 1) := by decide +kernel
theorem dX8_block_13 : decode cX8_block 13 = .ok (.istore 4, 2) := by decide +kernel
theorem dX8_block_15 : decode cX8_block 15 = .ok (.iconst 0, 1) := by decide +kernel
theorem dX8_block_16 : decode cX8_block 16 = .ok (.istore 5, 2) := by decide +kernel
theorem dX8_block_18 : decode cX8_block 18 = .ok (.iload 5, 2) := by decide +kernel
theorem dX8_block_20 : decode cX8_block 20 = .ok (.aload_n 0, 1) := by decide +kernel
theorem dX8_block_21 : decode cX8_block 21 = .ok (.getfield 7, 3) := by decide +kernel
theorem dX8_block_24 : decode cX8_block 24 = .ok (.iconst 0, 1) := by decide +kernel
theorem dX8_block_25 : decode cX8_block 25 = .ok (.iaload, 1) := by decide +kernel
theorem dX8_block_26 : decode cX8_block 26 = .ok (.if_icmp .ge 37, 3) := by decide +kernel
theorem dX8_block_29 : decode cX8_block 29 = .ok (.iload 4, 2) := by decide +kernel
theorem dX8_block_31 : decode cX8_block 31 = .ok (.aload_n 0, 1) := by decide +kernel
theorem dX8_block_32 : decode cX8_block 32 = .ok (.aload_n 0, 1) := by decide +kernel
theorem dX8_block_33 : decode cX8_block 33 = .ok (.iload_n 1, 1) := by decide +kernel
theorem dX8_block_34 : decode cX8_block 34 = .ok (.invokevirtual 128, 3) := by decide +kernel
theorem dX8_block_37 : decode cX8_block 37 = .ok (.iload 5, 2) := by decide +kernel
theorem dX8_block_39 : decode cX8_block 39 = .ok (.invokevirtual 65, 3) := by decide +kernel
theorem dX8_block_42 : decode cX8_block 42 = .ok (.iload_n 2, 1) := by decide +kernel
theorem dX8_block_43 : decode cX8_block 43 = .ok (.if_icmp .ne 10, 3) := by decide +kernel
theorem dX8_block_46 : decode cX8_block 46 = .ok (.iconst 1, 1) := by decide +kernel
theorem dX8_block_47 : decode cX8_block 47 = .ok (.iload 5, 2) := by decide +kernel
theorem dX8_block_49 : decode cX8_block 49 = .ok (.ishl, 1) := by decide +kernel
theorem dX8_block_50 : decode cX8_block 50 = .ok (.goto 4, 3) := by decide +kernel
theorem dX8_block_53 : decode cX8_block 53 = .ok (.iconst 0, 1) := by decide +kernel
theorem dX8_block_54 : decode cX8_block 54 = .ok (.ior, 1) := by decide +kernel
theorem dX8_block_55 : decode cX8_block 55 = .ok (.istore 4, 2) := by decide +kernel
theorem dX8_block_57 : decode cX8_block 57 = .ok (.iinc 5 1, 3) := by decide +kernel
theorem dX8_block_60 : decode cX8_block 60 = .ok (.goto (-42), 3) := by decide +kernel
theorem dX8_block_63 : decode cX8_block 63 = .ok (.iload 4, 2) := by decide +kernel
theorem dX8_block_65 : decode cX8_block 65 = .ok (.ifCond .ne 8, 3) := by decide +kernel
theorem dX8_block_68 : decode cX8_block 68 = .ok (.bipush (-9), 2) := by decide +kernel
theorem dX8_block_70 : decode cX8_block 70 = .ok (.goto 5, 3) := by decide +kernel
theorem dX8_block_73 : decode cX8_block 73 = .ok (.iload 4, 2) := by decide +kernel
theorem dX8_block_75 : decode cX8_block 75 = .ok (.ireturn, 1) := by decide +kernel
theorem dX8_typeOf_0 : decode cX8_typeOf 0 = .ok (.aload_n 0, 1) := by decide +kernel
theorem dX8_typeOf_1 : decode cX8_typeOf 1 = .ok (.iload_n 1, 1) := by decide +kernel
theorem dX8_typeOf_2 : decode cX8_typeOf 2 = .ok (.invokevirtual 131, 3) := by decide +kernel
theorem dX8_typeOf_5 : decode cX8_typeOf 5 = .ok (.istore_n 2, 1) := by decide +kernel
theorem dX8_typeOf_6 : decode cX8_typeOf 6 = .ok (.iload_n 2, 1) := by decide +kernel
theorem dX8_typeOf_7 : decode cX8_typeOf 7 = .ok (.ifCond .eq 5, 3) := by decide +kernel
theorem dX8_typeOf_10 : decode cX8_typeOf 10 = .ok (.iload_n 2, 1) := by decide +kernel
theorem dX8_typeOf_11 : decode cX8_typeOf 11 = .ok (.ireturn, 1) := by decide +kernel
theorem dX8_typeOf_12 : decode cX8_typeOf 12 = .ok (.iconst 0, 1) := by decide +kernel
theorem dX8_typeOf_13 : decode cX8_typeOf 13 = .ok (.istore_n 3, 1) := by decide +kernel
theorem dX8_typeOf_14 : decode cX8_typeOf 14 = .ok (.iconst 0, 1) := by decide +kernel
theorem dX8_typeOf_15 : decode cX8_typeOf 15 = .ok (.istore 4, 2) := by decide +kernel
theorem dX8_typeOf_17 : decode cX8_typeOf 17 = .ok (.iload 4, 2) := by decide +kernel
theorem dX8_typeOf_19 : decode cX8_typeOf 19 = .ok (.aload_n 0, 1) := by decide +kernel
theorem dX8_typeOf_20 : decode cX8_typeOf 20 = .ok (.getfield 19, 3) := by decide +kernel
theorem dX8_typeOf_23 : decode cX8_typeOf 23 = .ok (.aload_n 0, 1) := by decide +kernel
theorem dX8_typeOf_24 : decode cX8_typeOf 24 = .ok (.iload_n 1, 1) := by decide +kernel
theorem dX8_typeOf_25 : decode cX8_typeOf 25 = .ok (.invokevirtual 128, 3) := by decide +kernel
theorem dX8_typeOf_28 : decode cX8_typeOf 28 = .ok (.iaload, 1) := by decide +kernel
theorem dX8_typeOf_29 : decode cX8_typeOf 29 = .ok (.if_icmp .ge 29, 3) := by decide +kernel
theorem dX8_typeOf_32 : decode cX8_typeOf 32 = .ok (.iload_n 3, 1) := by decide +kernel
theorem dX8_typeOf_33 : decode cX8_typeOf 33 = .ok (.iconst 1, 1) := by decide +kernel
theorem dX8_typeOf_34 : decode cX8_typeOf 34 = .ok (.iconst 3, 1) := by decide +kernel
theorem dX8_typeOf_35 : decode cX8_typeOf 35 = .ok (.aload_n 0, 1) := by decide +kernel
theorem dX8_typeOf_36 : decode cX8_typeOf 36 = .ok (.aload_n 0, 1) := by decide +kernel
theorem dX8_typeOf_37 : decode cX8_typeOf 37 = .ok (.iload_n 1, 1) := by decide +kernel
theorem dX8_typeOf_38 : decode cX8_typeOf 38 = .ok (.invokevirtual 128, 3) := by decide +kernel
theorem dX8_typeOf_41 : decode cX8_typeOf 41 = .ok (.iload 4, 2) := by decide +kernel
theorem dX8_typeOf_43 : decode cX8_typeOf 43 = .ok (.invokevirtual 76, 3) := by decide +kernel
theorem dX8_typeOf_46 : decode cX8_typeOf 46 = .ok (.iconst 1, 1) := by decide +kernel
theorem dX8_typeOf_47 : decode cX8_typeOf 47 = .ok (.isub, 1) := by decide +kernel
theorem dX8_typeOf_48 : decode cX8_typeOf 48 = .ok (.imul, 1) := by decide +kernel
theorem dX8_typeOf_49 : decode cX8_typeOf 49 = .ok (.ishl, 1) := by decide +kernel
theorem dX8_typeOf_50 : decode cX8_typeOf 50 = .ok (.iadd, 1) := by decide +kernel
theorem dX8_typeOf_51 : decode cX8_typeOf 51 = .ok (.istore_n 3, 1) := by decide +kernel
theorem dX8_typeOf_52 : decode cX8_typeOf 52 = .ok (.iinc 4 1, 3) := by decide +kernel
theorem dX8_typeOf_55 : decode cX8_typeOf 55 = .ok (.goto (-38), 3) := by decide +kernel
theorem dX8_typeOf_58 : decode cX8_typeOf 58 = .ok (.iload_n 3, 1) := by decide +kernel
theorem dX8_typeOf_59 : decode cX8_typeOf 59 = .ok (.ireturn, 1) := by decide +kernel
theorem dX8_crossings_0 : decode cX8_crossings 0 = .ok (.aload_n 0, 1) := by decide +kernel
theorem dX8_crossings_1 : decode cX8_crossings 1 = .ok (.iload_n 1, 1) := by decide +kernel
theorem dX8_crossings_2 : decode cX8_crossings 2 = .ok (.invokevirtual 131, 3) := by decide +kernel
theorem dX8_crossings_5 : decode cX8_crossings 5 = .ok (.istore_n 2, 1) := by decide +kernel
theorem dX8_crossings_6 : decode cX8_crossings 6 = .ok (.iload_n 2, 1) := by decide +kernel
theorem dX8_crossings_7 : decode cX8_crossings 7 = .ok (.ifCond .eq 5, 3) := by decide +kernel
theorem dX8_crossings_10 : decode cX8_crossings 10 = .ok (.iload_n 2, 1) := by decide +kernel
theorem dX8_crossings_11 : decode cX8_crossings 11 = .ok (.ireturn, 1) := by decide +kernel
theorem dX8_crossings_12 : decode cX8_crossings 12 = .ok (.iconst 0, 1) := by decide +kernel
theorem dX8_crossings_13 : decode cX8_crossings 13 = .ok (.istore_n 3, 1) := by decide +kernel
theorem dX8_crossings_14 : decode cX8_crossings 14 = .ok (.iconst 0, 1) := by decide +kernel
theorem dX8_crossings_15 : decode cX8_crossings 15 = .ok (.istore 4, 2) := by decide +kernel
theorem dX8_crossings_17 : decode cX8_crossings 17 = .ok (.iload 4, 2) := by decide +kernel
theorem dX8_crossings_19 : decode cX8_crossings 19 = .ok (.aload_n 0, 1) := by decide +kernel
theorem dX8_crossings_20 : decode cX8_crossings 20 = .ok (.getfield 19, 3) := by decide +kernel
theorem dX8_crossings_23 : decode cX8_crossings 23 = .ok (.aload_n 0, 1) := by decide +kernel
theorem dX8_crossings_24 : decode cX8_crossings 24 = .ok (.iload_n 1, 1) := by decide +kernel
theorem dX8_crossings_25 : decode cX8_crossings 25 = .ok (.invokevirtual 128, 3) := by decide +kernel
theorem dX8_crossings_28 : decode cX8_crossings 28 = .ok (.iaload, 1) := by decide +kernel
theorem dX8_crossings_29 : decode cX8_crossings 29 = .ok (.if_icmp .ge 60, 3) := by decide +kernel
theorem dX8_crossings_32 : decode cX8_crossings 32 = .ok (.iload 4, 2) := by decide +kernel
theorem dX8_crossings_34 : decode cX8_crossings 34 = .ok (.iconst 1, 1) := by decide +kernel
theorem dX8_crossings_35 : decode cX8_crossings 35 = .ok (.iadd, 1) := by decide +kernel
theorem dX8_crossings_36 : decode cX8_crossings 36 = .ok (.istore 5, 2) := by decide +kernel
theorem dX8_crossings_38 : decode cX8_crossings 38 = .ok (.iload 5, 2) := by decide +kernel
theorem dX8_crossings_40 : decode cX8_crossings 40 = .ok (.aload_n 0, 1) := by decide +kernel
theorem dX8_crossings_41 : decode cX8_crossings 41 = .ok (.getfield 19, 3) := by decide +kernel
theorem dX8_crossings_44 : decode cX8_crossings 44 = .ok (.aload_n 0, 1) := by decide +kernel
theorem dX8_crossings_45 : decode cX8_crossings 45 = .ok (.iload_n 1, 1) := by decide +kernel
theorem dX8_crossings_46 : decode cX8_crossings 46 = .ok (.invokevirtual 128, 3) := by decide +kernel
theorem dX8_crossings_49 : decode cX8_crossings 49 = .ok (.iaload, 1) := by decide +kernel
theorem dX8_crossings_50 : decode cX8_crossings 50 = .ok (.if_icmp .ge 33, 3) := by decide +kernel
theorem dX8_crossings_53 : decode cX8_crossings 53 = .ok (.iload_n 3, 1) := by decide +kernel
theorem dX8_crossings_54 : decode cX8_crossings 54 = .ok (.aload_n 0, 1) := by decide +kernel
theorem dX8_crossings_55 : decode cX8_crossings 55 = .ok (.aload_n 0, 1) := by decide +kernel
theorem dX8_crossings_56 : decode cX8_crossings 56 = .ok (.iload_n 1, 1) := by decide +kernel
theorem dX8_crossings_57 : decode cX8_crossings 57 = .ok (.invokevirtual 128, 3) := by decide +kernel
theorem dX8_crossings_60 : decode cX8_crossings 60 = .ok (.iload 4, 2) := by decide +kernel
theorem dX8_crossings_62 : decode cX8_crossings 62 = .ok (.iload 5, 2) := by decide +kernel
theorem dX8_crossings_64 : decode cX8_crossings 64 = .ok (.invokevirtual 69, 3) := by decide +kernel
theorem dX8_crossings_67 : decode cX8_crossings 67 = .ok (.ifCond .eq 7, 3) := by decide +kernel
theorem dX8_crossings_70 : decode cX8_crossings 70 = .ok (.iconst 1, 1) := by decide +kernel
theorem dX8_crossings_71 : decode cX8_crossings 71 = .ok (.goto 4, 3) := by decide +kernel
theorem dX8_crossings_74 : decode cX8_crossings 74 = .ok (.iconst 0, 1) := by decide +kernel
theorem dX8_crossings_75 : decode cX8_crossings 75 = .ok (.iadd, 1) := by decide +kernel
theorem dX8_crossings_76 : decode cX8_crossings 76 = .ok (.istore_n 3, 1) := by decide +kernel
theorem dX8_crossings_77 : decode cX8_crossings 77 = .ok (.iinc 5 1, 3) := by decide +kernel
theorem dX8_crossings_80 : decode cX8_crossings 80 = .ok (.goto (-42), 3) := by decide +kernel
theorem dX8_crossings_83 : decode cX8_crossings 83 = .ok (.iinc 4 1, 3) := by decide +kernel
theorem dX8_crossings_86 : decode cX8_crossings 86 = .ok (.goto (-69), 3) := by decide +kernel
theorem dX8_crossings_89 : decode cX8_crossings 89 = .ok (.iload_n 3, 1) := by decide +kernel
theorem dX8_crossings_90 : decode cX8_crossings 90 = .ok (.ireturn, 1) := by decide +kernel
theorem dX8_index_0 : decode cX8_index 0 = .ok (.aload_n 0, 1) := by decide +kernel
theorem dX8_index_1 : decode cX8_index 1 = .ok (.iload_n 1, 1) := by decide +kernel
theorem dX8_index_2 : decode cX8_index 2 = .ok (.invokevirtual 131, 3) := by decide +kernel
theorem dX8_index_5 : decode cX8_index 5 = .ok (.istore_n 2, 1) := by decide +kernel
theorem dX8_index_6 : decode cX8_index 6 = .ok (.iload_n 2, 1) := by decide +kernel
theorem dX8_index_7 : decode cX8_index 7 = .ok (.ifCond .eq 7, 3) := by decide +kernel
theorem dX8_index_10 : decode cX8_index 10 = .ok (.iload_n 2, 1) := by decide +kernel
theorem dX8_index_11 : decode cX8_index 11 = .ok (.goto 13, 3) := by decide +kernel
theorem dX8_index_14 : decode cX8_index 14 = .ok (.aload_n 0, 1) := by decide +kernel
theorem dX8_index_15 : decode cX8_index 15 = .ok (.getfield 22, 3) := by decide +kernel
theorem dX8_index_18 : decode cX8_index 18 = .ok (.aload_n 0, 1) := by decide +kernel
theorem dX8_index_19 : decode cX8_index 19 = .ok (.iload_n 1, 1) := by decide +kernel
theorem dX8_index_20 : decode cX8_index 20 = .ok (.invokevirtual 128, 3) := by decide +kernel
theorem dX8_index_23 : decode cX8_index 23 = .ok (.iaload, 1) := by decide +kernel
theorem dX8_index_24 : decode cX8_index 24 = .ok (.ireturn, 1) := by decide +kernel
theorem dX8_why_0 : decode cX8_why 0 = .ok (.aload_n 0, 1) := by decide +kernel
theorem dX8_why_1 : decode cX8_why 1 = .ok (.iload_n 1, 1) := by decide +kernel
theorem dX8_why_2 : decode cX8_why 2 = .ok (.invokevirtual 131, 3) := by decide +kernel
theorem dX8_why_5 : decode cX8_why 5 = .ok (.istore_n 2, 1) := by decide +kernel
theorem dX8_why_6 : decode cX8_why 6 = .ok (.iload_n 2, 1) := by decide +kernel
theorem dX8_why_7 : decode cX8_why 7 = .ok (.ifCond .eq 7, 3) := by decide +kernel
theorem dX8_why_10 : decode cX8_why 10 = .ok (.iload_n 2, 1) := by decide +kernel
theorem dX8_why_11 : decode cX8_why 11 = .ok (.goto 12, 3) := by decide +kernel
theorem dX8_why_14 : decode cX8_why 14 = .ok (.aload_n 0, 1) := by decide +kernel
theorem dX8_why_15 : decode cX8_why 15 = .ok (.aload_n 0, 1) := by decide +kernel
theorem dX8_why_16 : decode cX8_why 16 = .ok (.iload_n 1, 1) := by decide +kernel
theorem dX8_why_17 : decode cX8_why 17 = .ok (.invokevirtual 128, 3) := by decide +kernel
theorem dX8_why_20 : decode cX8_why 20 = .ok (.invokevirtual 62, 3) := by decide +kernel
theorem dX8_why_23 : decode cX8_why 23 = .ok (.ireturn, 1) := by decide +kernel
theorem dX8_where_0 : decode cX8_where 0 = .ok (.aload_n 0, 1) := by decide +kernel
theorem dX8_where_1 : decode cX8_where 1 = .ok (.iload_n 1, 1) := by decide +kernel
theorem dX8_where_2 : decode cX8_where 2 = .ok (.invokevirtual 131, 3) := by decide +kernel
theorem dX8_where_5 : decode cX8_where 5 = .ok (.istore_n 2, 1) := by decide +kernel
theorem dX8_where_6 : decode cX8_where 6 = .ok (.iload_n 2, 1) := by decide +kernel
theorem dX8_where_7 : decode cX8_where 7 = .ok (.ifCond .eq 7, 3) := by decide +kernel
theorem dX8_where_10 : decode cX8_where 10 = .ok (.iload_n 2, 1) := by decide +kernel
theorem dX8_where_11 : decode cX8_where 11 = .ok (.goto 12, 3) := by decide +kernel
theorem dX8_where_14 : decode cX8_where 14 = .ok (.aload_n 0, 1) := by decide +kernel
theorem dX8_where_15 : decode cX8_where 15 = .ok (.aload_n 0, 1) := by decide +kernel
theorem dX8_where_16 : decode cX8_where 16 = .ok (.iload_n 1, 1) := by decide +kernel
theorem dX8_where_17 : decode cX8_where 17 = .ok (.invokevirtual 128, 3) := by decide +kernel
theorem dX8_where_20 : decode cX8_where 20 = .ok (.invokevirtual 163, 3) := by decide +kernel
theorem dX8_where_23 : decode cX8_where 23 = .ok (.ireturn, 1) := by decide +kernel
theorem dX8_count_0 : decode cX8_count 0 = .ok (.aload_n 0, 1) := by decide +kernel
theorem dX8_count_1 : decode cX8_count 1 = .ok (.getfield 59, 3) := by decide +kernel
theorem dX8_count_4 : decode cX8_count 4 = .ok (.ireturn, 1) := by decide +kernel
theorem dX8_manyWith_0 : decode cX8_manyWith 0 = .ok (.iconst 0, 1) := by decide +kernel
theorem dX8_manyWith_1 : decode cX8_manyWith 1 = .ok (.istore_n 2, 1) := by decide +kernel
theorem dX8_manyWith_2 : decode cX8_manyWith 2 = .ok (.iconst 0, 1) := by decide +kernel
theorem dX8_manyWith_3 : decode cX8_manyWith 3 = .ok (.istore_n 3, 1) := by decide +kernel
theorem dX8_manyWith_4 : decode cX8_manyWith 4 = .ok (.iload_n 3, 1) := by decide +kernel
theorem dX8_manyWith_5 : decode cX8_manyWith 5 = .ok (.aload_n 0, 1) := by decide +kernel
theorem dX8_manyWith_6 : decode cX8_manyWith 6 = .ok (.getfield 52, 3) := by decide +kernel
theorem dX8_manyWith_9 : decode cX8_manyWith 9 = .ok (.if_icmp .ge 35, 3) := by decide +kernel
theorem dX8_manyWith_12 : decode cX8_manyWith 12 = .ok (.iload_n 2, 1) := by decide +kernel
theorem dX8_manyWith_13 : decode cX8_manyWith 13 = .ok (.aload_n 0, 1) := by decide +kernel
theorem dX8_manyWith_14 : decode cX8_manyWith 14 = .ok (.iload_n 3, 1) := by decide +kernel
theorem dX8_manyWith_15 : decode cX8_manyWith 15 = .ok (.invokevirtual 150, 3) := by decide +kernel
theorem dX8_manyWith_18 : decode cX8_manyWith 18 = .ok (.ifCond .eq 17, 3) := by decide +kernel
theorem dX8_manyWith_21 : decode cX8_manyWith 21 = .ok (.aload_n 0, 1) := by decide +kernel
theorem dX8_manyWith_22 : decode cX8_manyWith 22 = .ok (.getfield 19, 3) := by decide +kernel
theorem dX8_manyWith_25 : decode cX8_manyWith 25 = .ok (.iload_n 3, 1) := by decide +kernel
theorem dX8_manyWith_26 : decode cX8_manyWith 26 = .ok (.iaload, 1) := by decide +kernel
theorem dX8_manyWith_27 : decode cX8_manyWith 27 = .ok (.iload_n 1, 1) := by decide +kernel
theorem dX8_manyWith_28 : decode cX8_manyWith 28 = .ok (.if_icmp .ne 7, 3) := by decide +kernel
theorem dX8_manyWith_31 : decode cX8_manyWith 31 = .ok (.iconst 1, 1) := by decide +kernel
theorem dX8_manyWith_32 : decode cX8_manyWith 32 = .ok (.goto 4, 3) := by decide +kernel
theorem dX8_manyWith_35 : decode cX8_manyWith 35 = .ok (.iconst 0, 1) := by decide +kernel
theorem dX8_manyWith_36 : decode cX8_manyWith 36 = .ok (.iadd, 1) := by decide +kernel
theorem dX8_manyWith_37 : decode cX8_manyWith 37 = .ok (.istore_n 2, 1) := by decide +kernel
theorem dX8_manyWith_38 : decode cX8_manyWith 38 = .ok (.iinc 3 1, 3) := by decide +kernel
theorem dX8_manyWith_41 : decode cX8_manyWith 41 = .ok (.goto (-37), 3) := by decide +kernel
theorem dX8_manyWith_44 : decode cX8_manyWith 44 = .ok (.iload_n 2, 1) := by decide +kernel
theorem dX8_manyWith_45 : decode cX8_manyWith 45 = .ok (.ireturn, 1) := by decide +kernel
theorem dX8_countWith_0 : decode cX8_countWith 0 = .ok (.iload_n 1, 1) := by decide +kernel
theorem dX8_countWith_1 : decode cX8_countWith 1 = .ok (.iconst 1, 1) := by decide +kernel
theorem dX8_countWith_2 : decode cX8_countWith 2 = .ok (.bipush 6, 2) := by decide +kernel
theorem dX8_countWith_4 : decode cX8_countWith 4 = .ok (.invokestatic 96, 3) := by decide +kernel
theorem dX8_countWith_7 : decode cX8_countWith 7 = .ok (.ifCond .eq 11, 3) := by decide +kernel
theorem dX8_countWith_10 : decode cX8_countWith 10 = .ok (.aload_n 0, 1) := by decide +kernel
theorem dX8_countWith_11 : decode cX8_countWith 11 = .ok (.iload_n 1, 1) := by decide +kernel
theorem dX8_countWith_12 : decode cX8_countWith 12 = .ok (.invokevirtual 166, 3) := by decide +kernel
theorem dX8_countWith_15 : decode cX8_countWith 15 = .ok (.goto 4, 3) := by decide +kernel
theorem dX8_countWith_18 : decode cX8_countWith 18 = .ok (.iconst (-1), 1) := by decide +kernel
theorem dX8_countWith_19 : decode cX8_countWith 19 = .ok (.ireturn, 1) := by decide +kernel
theorem dX8_below_0 : decode cX8_below 0 = .ok (.aload_n 0, 1) := by decide +kernel
theorem dX8_below_1 : decode cX8_below 1 = .ok (.iload_n 1, 1) := by decide +kernel
theorem dX8_below_2 : decode cX8_below 2 = .ok (.iload_n 2, 1) := by decide +kernel
theorem dX8_below_3 : decode cX8_below 3 = .ok (.invokevirtual 134, 3) := by decide +kernel
theorem dX8_below_6 : decode cX8_below 6 = .ok (.istore_n 3, 1) := by decide +kernel
theorem dX8_below_7 : decode cX8_below 7 = .ok (.iload_n 3, 1) := by decide +kernel
theorem dX8_below_8 : decode cX8_below 8 = .ok (.ifCond .eq 7, 3) := by decide +kernel
theorem dX8_below_11 : decode cX8_below 11 = .ok (.iload_n 3, 1) := by decide +kernel
theorem dX8_below_12 : decode cX8_below 12 = .ok (.goto 25, 3) := by decide +kernel
theorem dX8_below_15 : decode cX8_below 15 = .ok (.aload_n 0, 1) := by decide +kernel
theorem dX8_below_16 : decode cX8_below 16 = .ok (.aload_n 0, 1) := by decide +kernel
theorem dX8_below_17 : decode cX8_below 17 = .ok (.iload_n 1, 1) := by decide +kernel
theorem dX8_below_18 : decode cX8_below 18 = .ok (.invokevirtual 128, 3) := by decide +kernel
theorem dX8_below_21 : decode cX8_below 21 = .ok (.aload_n 0, 1) := by decide +kernel
theorem dX8_below_22 : decode cX8_below 22 = .ok (.iload_n 2, 1) := by decide +kernel
theorem dX8_below_23 : decode cX8_below 23 = .ok (.invokevirtual 128, 3) := by decide +kernel
theorem dX8_below_26 : decode cX8_below 26 = .ok (.invokevirtual 89, 3) := by decide +kernel
theorem dX8_below_29 : decode cX8_below 29 = .ok (.ifCond .eq 7, 3) := by decide +kernel
theorem dX8_below_32 : decode cX8_below 32 = .ok (.iconst 1, 1) := by decide +kernel
theorem dX8_below_33 : decode cX8_below 33 = .ok (.goto 4, 3) := by decide +kernel
theorem dX8_below_36 : decode cX8_below 36 = .ok (.iconst 0, 1) := by decide +kernel
theorem dX8_below_37 : decode cX8_below 37 = .ok (.ireturn, 1) := by decide +kernel
theorem dX8_isCover_0 : decode cX8_isCover 0 = .ok (.aload_n 0, 1) := by decide +kernel
theorem dX8_isCover_1 : decode cX8_isCover 1 = .ok (.iload_n 1, 1) := by decide +kernel
theorem dX8_isCover_2 : decode cX8_isCover 2 = .ok (.invokevirtual 150, 3) := by decide +kernel
theorem dX8_isCover_5 : decode cX8_isCover 5 = .ok (.ifCond .eq 20, 3) := by decide +kernel
theorem dX8_isCover_8 : decode cX8_isCover 8 = .ok (.aload_n 0, 1) := by decide +kernel
theorem dX8_isCover_9 : decode cX8_isCover 9 = .ok (.iload_n 2, 1) := by decide +kernel
theorem dX8_isCover_10 : decode cX8_isCover 10 = .ok (.invokevirtual 150, 3) := by decide +kernel
theorem dX8_isCover_13 : decode cX8_isCover 13 = .ok (.ifCond .eq 12, 3) := by decide +kernel
theorem dX8_isCover_16 : decode cX8_isCover 16 = .ok (.aload_n 0, 1) := by decide +kernel
theorem dX8_isCover_17 : decode cX8_isCover 17 = .ok (.iload_n 1, 1) := by decide +kernel
theorem dX8_isCover_18 : decode cX8_isCover 18 = .ok (.iload_n 2, 1) := by decide +kernel
theorem dX8_isCover_19 : decode cX8_isCover 19 = .ok (.invokevirtual 169, 3) := by decide +kernel
theorem dX8_isCover_22 : decode cX8_isCover 22 = .ok (.ifCond .ne 5, 3) := by decide +kernel
theorem dX8_isCover_25 : decode cX8_isCover 25 = .ok (.iconst 0, 1) := by decide +kernel
theorem dX8_isCover_26 : decode cX8_isCover 26 = .ok (.ireturn, 1) := by decide +kernel
theorem dX8_isCover_27 : decode cX8_isCover 27 = .ok (.iconst 0, 1) := by decide +kernel
theorem dX8_isCover_28 : decode cX8_isCover 28 = .ok (.istore_n 3, 1) := by decide +kernel
theorem dX8_isCover_29 : decode cX8_isCover 29 = .ok (.iload_n 3, 1) := by decide +kernel
theorem dX8_isCover_30 : decode cX8_isCover 30 = .ok (.aload_n 0, 1) := by decide +kernel
theorem dX8_isCover_31 : decode cX8_isCover 31 = .ok (.getfield 52, 3) := by decide +kernel
theorem dX8_isCover_34 : decode cX8_isCover 34 = .ok (.if_icmp .ge 37, 3) := by decide +kernel
theorem dX8_isCover_37 : decode cX8_isCover 37 = .ok (.aload_n 0, 1) := by decide +kernel
theorem dX8_isCover_38 : decode cX8_isCover 38 = .ok (.iload_n 3, 1) := by decide +kernel
theorem dX8_isCover_39 : decode cX8_isCover 39 = .ok (.invokevirtual 150, 3) := by decide +kernel
theorem dX8_isCover_42 : decode cX8_isCover 42 = .ok (.ifCond .eq 23, 3) := by decide +kernel
theorem dX8_isCover_45 : decode cX8_isCover 45 = .ok (.aload_n 0, 1) := by decide +kernel
theorem dX8_isCover_46 : decode cX8_isCover 46 = .ok (.iload_n 1, 1) := by decide +kernel
theorem dX8_isCover_47 : decode cX8_isCover 47 = .ok (.iload_n 3, 1) := by decide +kernel
theorem dX8_isCover_48 : decode cX8_isCover 48 = .ok (.invokevirtual 169, 3) := by decide +kernel
theorem dX8_isCover_51 : decode cX8_isCover 51 = .ok (.ifCond .eq 14, 3) := by decide +kernel
theorem dX8_isCover_54 : decode cX8_isCover 54 = .ok (.aload_n 0, 1) := by decide +kernel
theorem dX8_isCover_55 : decode cX8_isCover 55 = .ok (.iload_n 3, 1) := by decide +kernel
theorem dX8_isCover_56 : decode cX8_isCover 56 = .ok (.iload_n 2, 1) := by decide +kernel
theorem dX8_isCover_57 : decode cX8_isCover 57 = .ok (.invokevirtual 169, 3) := by decide +kernel
theorem dX8_isCover_60 : decode cX8_isCover 60 = .ok (.ifCond .eq 5, 3) := by decide +kernel
theorem dX8_isCover_63 : decode cX8_isCover 63 = .ok (.iconst 0, 1) := by decide +kernel
theorem dX8_isCover_64 : decode cX8_isCover 64 = .ok (.ireturn, 1) := by decide +kernel
theorem dX8_isCover_65 : decode cX8_isCover 65 = .ok (.iinc 3 1, 3) := by decide +kernel
theorem dX8_isCover_68 : decode cX8_isCover 68 = .ok (.goto (-39), 3) := by decide +kernel
theorem dX8_isCover_71 : decode cX8_isCover 71 = .ok (.iconst 1, 1) := by decide +kernel
theorem dX8_isCover_72 : decode cX8_isCover 72 = .ok (.ireturn, 1) := by decide +kernel
theorem dX8_covers_0 : decode cX8_covers 0 = .ok (.aload_n 0, 1) := by decide +kernel
theorem dX8_covers_1 : decode cX8_covers 1 = .ok (.iload_n 1, 1) := by decide +kernel
theorem dX8_covers_2 : decode cX8_covers 2 = .ok (.invokevirtual 131, 3) := by decide +kernel
theorem dX8_covers_5 : decode cX8_covers 5 = .ok (.istore_n 3, 1) := by decide +kernel
theorem dX8_covers_6 : decode cX8_covers 6 = .ok (.iload_n 3, 1) := by decide +kernel
theorem dX8_covers_7 : decode cX8_covers 7 = .ok (.ifCond .eq 5, 3) := by decide +kernel
theorem dX8_covers_10 : decode cX8_covers 10 = .ok (.iload_n 3, 1) := by decide +kernel
theorem dX8_covers_11 : decode cX8_covers 11 = .ok (.ireturn, 1) := by decide +kernel
theorem dX8_covers_12 : decode cX8_covers 12 = .ok (.aload_n 0, 1) := by decide +kernel
theorem dX8_covers_13 : decode cX8_covers 13 = .ok (.iload_n 1, 1) := by decide +kernel
theorem dX8_covers_14 : decode cX8_covers 14 = .ok (.invokevirtual 128, 3) := by decide +kernel
theorem dX8_covers_17 : decode cX8_covers 17 = .ok (.istore 4, 2) := by decide +kernel
theorem dX8_covers_19 : decode cX8_covers 19 = .ok (.aload_n 0, 1) := by decide +kernel
theorem dX8_covers_20 : decode cX8_covers 20 = .ok (.iload 4, 2) := by decide +kernel
theorem dX8_covers_22 : decode cX8_covers 22 = .ok (.invokevirtual 150, 3) := by decide +kernel
theorem dX8_covers_25 : decode cX8_covers 25 = .ok (.ifCond .ne 6, 3) := by decide +kernel
theorem dX8_covers_28 : decode cX8_covers 28 = .ok (.bipush (-3), 2) := by decide +kernel
theorem dX8_covers_30 : decode cX8_covers 30 = .ok (.ireturn, 1) := by decide +kernel
theorem dX8_covers_31 : decode cX8_covers 31 = .ok (.iconst 0, 1) := by decide +kernel
theorem dX8_covers_32 : decode cX8_covers 32 = .ok (.istore 5, 2) := by decide +kernel
theorem dX8_covers_34 : decode cX8_covers 34 = .ok (.iconst 0, 1) := by decide +kernel
theorem dX8_covers_35 : decode cX8_covers 35 = .ok (.istore 6, 2) := by decide +kernel
theorem dX8_covers_37 : decode cX8_covers 37 = .ok (.iload 6, 2) := by decide +kernel
theorem dX8_covers_39 : decode cX8_covers 39 = .ok (.aload_n 0, 1) := by decide +kernel
theorem dX8_covers_40 : decode cX8_covers 40 = .ok (.getfield 52, 3) := by decide +kernel
theorem dX8_covers_43 : decode cX8_covers 43 = .ok (.if_icmp .ge 48, 3) := by decide +kernel
theorem dX8_covers_46 : decode cX8_covers 46 = .ok (.iload 5, 2) := by decide +kernel
theorem dX8_covers_48 : decode cX8_covers 48 = .ok (.iload_n 2, 1) := by decide +kernel
theorem dX8_covers_49 : decode cX8_covers 49 = .ok (.ifCond .eq 17, 3) := by decide +kernel
theorem dX8_covers_52 : decode cX8_covers 52 = .ok (.aload_n 0, 1) := by decide +kernel
theorem dX8_covers_53 : decode cX8_covers 53 = .ok (.iload 6, 2) := by decide +kernel
theorem dX8_covers_55 : decode cX8_covers 55 = .ok (.iload 4, 2) := by decide +kernel
theorem dX8_covers_57 : decode cX8_covers 57 = .ok (.invokevirtual 172, 3) := by decide +kernel
theorem dX8_covers_60 : decode cX8_covers 60 = .ok (.ifCond .eq 21, 3) := by decide +kernel
theorem dX8_covers_63 : decode cX8_covers 63 = .ok (.goto 14, 3) := by decide +kernel
theorem dX8_covers_66 : decode cX8_covers 66 = .ok (.aload_n 0, 1) := by decide +kernel
theorem dX8_covers_67 : decode cX8_covers 67 = .ok (.iload 4, 2) := by decide +kernel
theorem dX8_covers_69 : decode cX8_covers 69 = .ok (.iload 6, 2) := by decide +kernel
theorem dX8_covers_71 : decode cX8_covers 71 = .ok (.invokevirtual 172, 3) := by decide +kernel
theorem dX8_covers_74 : decode cX8_covers 74 = .ok (.ifCond .eq 7, 3) := by decide +kernel
theorem dX8_covers_77 : decode cX8_covers 77 = .ok (.iconst 1, 1) := by decide +kernel
theorem dX8_covers_78 : decode cX8_covers 78 = .ok (.goto 4, 3) := by decide +kernel
theorem dX8_covers_81 : decode cX8_covers 81 = .ok (.iconst 0, 1) := by decide +kernel
theorem dX8_covers_82 : decode cX8_covers 82 = .ok (.iadd, 1) := by decide +kernel
theorem dX8_covers_83 : decode cX8_covers 83 = .ok (.istore 5, 2) := by decide +kernel
theorem dX8_covers_85 : decode cX8_covers 85 = .ok (.iinc 6 1, 3) := by decide +kernel
theorem dX8_covers_88 : decode cX8_covers 88 = .ok (.goto (-51), 3) := by decide +kernel
theorem dX8_covers_91 : decode cX8_covers 91 = .ok (.iload 5, 2) := by decide +kernel
theorem dX8_covers_93 : decode cX8_covers 93 = .ok (.ireturn, 1) := by decide +kernel
theorem dX8_isBound_0 : decode cX8_isBound 0 = .ok (.aload_n 0, 1) := by decide +kernel
theorem dX8_isBound_1 : decode cX8_isBound 1 = .ok (.iload_n 1, 1) := by decide +kernel
theorem dX8_isBound_2 : decode cX8_isBound 2 = .ok (.invokevirtual 150, 3) := by decide +kernel
theorem dX8_isBound_5 : decode cX8_isBound 5 = .ok (.ifCond .eq 51, 3) := by decide +kernel
theorem dX8_isBound_8 : decode cX8_isBound 8 = .ok (.iload 4, 2) := by decide +kernel
theorem dX8_isBound_10 : decode cX8_isBound 10 = .ok (.ifCond .eq 24, 3) := by decide +kernel
theorem dX8_isBound_13 : decode cX8_isBound 13 = .ok (.aload_n 0, 1) := by decide +kernel
theorem dX8_isBound_14 : decode cX8_isBound 14 = .ok (.iload_n 1, 1) := by decide +kernel
theorem dX8_isBound_15 : decode cX8_isBound 15 = .ok (.iload_n 2, 1) := by decide +kernel
theorem dX8_isBound_16 : decode cX8_isBound 16 = .ok (.invokevirtual 89, 3) := by decide +kernel
theorem dX8_isBound_19 : decode cX8_isBound 19 = .ok (.ifCond .eq 37, 3) := by decide +kernel
theorem dX8_isBound_22 : decode cX8_isBound 22 = .ok (.aload_n 0, 1) := by decide +kernel
theorem dX8_isBound_23 : decode cX8_isBound 23 = .ok (.iload_n 1, 1) := by decide +kernel
theorem dX8_isBound_24 : decode cX8_isBound 24 = .ok (.iload_n 3, 1) := by decide +kernel
theorem dX8_isBound_25 : decode cX8_isBound 25 = .ok (.invokevirtual 89, 3) := by decide +kernel
theorem dX8_isBound_28 : decode cX8_isBound 28 = .ok (.ifCond .eq 28, 3) := by decide +kernel
theorem dX8_isBound_31 : decode cX8_isBound 31 = .ok (.goto 21, 3) := by decide +kernel
theorem dX8_isBound_34 : decode cX8_isBound 34 = .ok (.aload_n 0, 1) := by decide +kernel
theorem dX8_isBound_35 : decode cX8_isBound 35 = .ok (.iload_n 2, 1) := by decide +kernel
theorem dX8_isBound_36 : decode cX8_isBound 36 = .ok (.iload_n 1, 1) := by decide +kernel
theorem dX8_isBound_37 : decode cX8_isBound 37 = .ok (.invokevirtual 89, 3) := by decide +kernel
theorem dX8_isBound_40 : decode cX8_isBound 40 = .ok (.ifCond .eq 16, 3) := by decide +kernel
theorem dX8_isBound_43 : decode cX8_isBound 43 = .ok (.aload_n 0, 1) := by decide +kernel
theorem dX8_isBound_44 : decode cX8_isBound 44 = .ok (.iload_n 3, 1) := by decide +kernel
theorem dX8_isBound_45 : decode cX8_isBound 45 = .ok (.iload_n 1, 1) := by decide +kernel
theorem dX8_isBound_46 : decode cX8_isBound 46 = .ok (.invokevirtual 89, 3) := by decide +kernel
theorem dX8_isBound_49 : decode cX8_isBound 49 = .ok (.ifCond .eq 7, 3) := by decide +kernel
theorem dX8_isBound_52 : decode cX8_isBound 52 = .ok (.iconst 1, 1) := by decide +kernel
theorem dX8_isBound_53 : decode cX8_isBound 53 = .ok (.goto 4, 3) := by decide +kernel
theorem dX8_isBound_56 : decode cX8_isBound 56 = .ok (.iconst 0, 1) := by decide +kernel
theorem dX8_isBound_57 : decode cX8_isBound 57 = .ok (.ireturn, 1) := by decide +kernel
theorem dX8_nearestBounds_0 : decode cX8_nearestBounds 0 = .ok (.iconst 0, 1) := by decide +kernel
theorem dX8_nearestBounds_1 : decode cX8_nearestBounds 1 = .ok (.istore 4, 2) := by decide +kernel
theorem dX8_nearestBounds_3 : decode cX8_nearestBounds 3 = .ok (.iconst 0, 1) := by decide +kernel
theorem dX8_nearestBounds_4 : decode cX8_nearestBounds 4 = .ok (.istore 5, 2) := by decide +kernel
theorem dX8_nearestBounds_6 : decode cX8_nearestBounds 6 = .ok (.iload 5, 2) := by decide +kernel
theorem dX8_nearestBounds_8 : decode cX8_nearestBounds 8 = .ok (.aload_n 0, 1) := by decide +kernel
theorem dX8_nearestBounds_9 : decode cX8_nearestBounds 9 = .ok (.getfield 52, 3) := by decide +kernel
theorem dX8_nearestBounds_12 : decode cX8_nearestBounds 12 = .ok (.if_icmp .ge 124, 3) := by decide +kernel
theorem dX8_nearestBounds_15 : decode cX8_nearestBounds 15 = .ok (.aload_n 0, 1) := by decide +kernel
theorem dX8_nearestBounds_16 : decode cX8_nearestBounds 16 = .ok (.iload 5, 2) := by decide +kernel
theorem dX8_nearestBounds_18 : decode cX8_nearestBounds 18 = .ok (.iload_n 1, 1) := by decide +kernel
theorem dX8_nearestBounds_19 : decode cX8_nearestBounds 19 = .ok (.iload_n 2, 1) := by decide +kernel
theorem dX8_nearestBounds_20 : decode cX8_nearestBounds 20 = .ok (.iload_n 3, 1) := by decide +kernel
theorem dX8_nearestBounds_21 : decode cX8_nearestBounds 21 = .ok (.invokevirtual 175, 3) := by decide +kernel
theorem dX8_nearestBounds_24 : decode cX8_nearestBounds 24 = .ok (.istore 6, 2) := by decide +kernel
theorem dX8_nearestBounds_26 : decode cX8_nearestBounds 26 = .ok (.iconst 0, 1) := by decide +kernel
theorem dX8_nearestBounds_27 : decode cX8_nearestBounds 27 = .ok (.istore 7, 2) := by decide +kernel
theorem dX8_nearestBounds_29 : decode cX8_nearestBounds 29 = .ok (.iload 7, 2) := by decide +kernel
theorem dX8_nearestBounds_31 : decode cX8_nearestBounds 31 = .ok (.aload_n 0, 1) := by decide +kernel
theorem dX8_nearestBounds_32 : decode cX8_nearestBounds 32 = .ok (.getfield 52, 3) := by decide +kernel
theorem dX8_nearestBounds_35 : decode cX8_nearestBounds 35 = .ok (.if_icmp .ge 62, 3) := by decide +kernel
theorem dX8_nearestBounds_38 : decode cX8_nearestBounds 38 = .ok (.iload 6, 2) := by decide +kernel
theorem dX8_nearestBounds_40 : decode cX8_nearestBounds 40 = .ok (.ifCond .eq 57, 3) := by decide +kernel
theorem dX8_nearestBounds_43 : decode cX8_nearestBounds 43 = .ok (.aload_n 0, 1) := by decide +kernel
theorem dX8_nearestBounds_44 : decode cX8_nearestBounds 44 = .ok (.iload 7, 2) := by decide +kernel
theorem dX8_nearestBounds_46 : decode cX8_nearestBounds 46 = .ok (.iload_n 1, 1) := by decide +kernel
theorem dX8_nearestBounds_47 : decode cX8_nearestBounds 47 = .ok (.iload_n 2, 1) := by decide +kernel
theorem dX8_nearestBounds_48 : decode cX8_nearestBounds 48 = .ok (.iload_n 3, 1) := by decide +kernel
theorem dX8_nearestBounds_49 : decode cX8_nearestBounds 49 = .ok (.invokevirtual 175, 3) := by decide +kernel
theorem dX8_nearestBounds_52 : decode cX8_nearestBounds 52 = .ok (.ifCond .eq 32, 3) := by decide +kernel
theorem dX8_nearestBounds_55 : decode cX8_nearestBounds 55 = .ok (.iload_n 3, 1) := by decide +kernel
theorem dX8_nearestBounds_56 : decode cX8_nearestBounds 56 = .ok (.ifCond .eq 17, 3) := by decide +kernel
theorem dX8_nearestBounds_59 : decode cX8_nearestBounds 59 = .ok (.aload_n 0, 1) := by decide +kernel
theorem dX8_nearestBounds_60 : decode cX8_nearestBounds 60 = .ok (.iload 5, 2) := by decide +kernel
theorem dX8_nearestBounds_62 : decode cX8_nearestBounds 62 = .ok (.iload 7, 2) := by decide +kernel
theorem dX8_nearestBounds_64 : decode cX8_nearestBounds 64 = .ok (.invokevirtual 169, 3) := by decide +kernel
theorem dX8_nearestBounds_67 : decode cX8_nearestBounds 67 = .ok (.ifCond .eq 17, 3) := by decide +kernel
theorem dX8_nearestBounds_70 : decode cX8_nearestBounds 70 = .ok (.goto 18, 3) := by decide +kernel
theorem dX8_nearestBounds_73 : decode cX8_nearestBounds 73 = .ok (.aload_n 0, 1) := by decide +kernel
theorem dX8_nearestBounds_74 : decode cX8_nearestBounds 74 = .ok (.iload 7, 2) := by decide +kernel
theorem dX8_nearestBounds_76 : decode cX8_nearestBounds 76 = .ok (.iload 5, 2) := by decide +kernel
theorem dX8_nearestBounds_78 : decode cX8_nearestBounds 78 = .ok (.invokevirtual 169, 3) := by decide +kernel
theorem dX8_nearestBounds_81 : decode cX8_nearestBounds 81 = .ok (.ifCond .ne 7, 3) := by decide +kernel
theorem dX8_nearestBounds_84 : decode cX8_nearestBounds 84 = .ok (.iconst 1, 1) := by decide +kernel
theorem dX8_nearestBounds_85 : decode cX8_nearestBounds 85 = .ok (.goto 4, 3) := by decide +kernel
theorem dX8_nearestBounds_88 : decode cX8_nearestBounds 88 = .ok (.iconst 0, 1) := by decide +kernel
theorem dX8_nearestBounds_89 : decode cX8_nearestBounds 89 = .ok (.istore 6, 2) := by decide +kernel
theorem dX8_nearestBounds_91 : decode cX8_nearestBounds 91 = .ok (.iinc 7 1, 3) := by decide +kernel
theorem dX8_nearestBounds_94 : decode cX8_nearestBounds 94 = .ok (.goto (-65), 3) := by decide +kernel
theorem dX8_nearestBounds_97 : decode cX8_nearestBounds 97 = .ok (.iload 4, 2) := by decide +kernel
theorem dX8_nearestBounds_99 : decode cX8_nearestBounds 99 = .ok (.iload 6, 2) := by decide +kernel
theorem dX8_nearestBounds_101 : decode cX8_nearestBounds 101 = .ok (.ifCond .eq 7, 3) := by decide +kernel
theorem dX8_nearestBounds_104 : decode cX8_nearestBounds 104 = .ok (.iconst 1, 1) := by decide +kernel
theorem dX8_nearestBounds_105 : decode cX8_nearestBounds 105 = .ok (.goto 4, 3) := by decide +kernel
theorem dX8_nearestBounds_108 : decode cX8_nearestBounds 108 = .ok (.iconst 0, 1) := by decide +kernel
theorem dX8_nearestBounds_109 : decode cX8_nearestBounds 109 = .ok (.iadd, 1) := by decide +kernel
theorem dX8_nearestBounds_110 : decode cX8_nearestBounds 110 = .ok (.istore 4, 2) := by decide +kernel
theorem dX8_nearestBounds_112 : decode cX8_nearestBounds 112 = .ok (.aload_n 0, 1) := by decide +kernel
theorem dX8_nearestBounds_113 : decode cX8_nearestBounds 113 = .ok (.iload 6, 2) := by decide +kernel
theorem dX8_nearestBounds_115 : decode cX8_nearestBounds 115 = .ok (.ifCond .eq 8, 3) := by decide +kernel
theorem dX8_nearestBounds_118 : decode cX8_nearestBounds 118 = .ok (.iload 5, 2) := by decide +kernel
theorem dX8_nearestBounds_120 : decode cX8_nearestBounds 120 = .ok (.goto 7, 3) := by decide +kernel
theorem dX8_nearestBounds_123 : decode cX8_nearestBounds 123 = .ok (.aload_n 0, 1) := by decide +kernel
theorem dX8_nearestBounds_124 : decode cX8_nearestBounds 124 = .ok (.getfield 179, 3) := by decide +kernel
theorem dX8_nearestBounds_127 : decode cX8_nearestBounds 127 = .ok (.putfield 179, 3) := by decide +kernel
theorem dX8_nearestBounds_130 : decode cX8_nearestBounds 130 = .ok (.iinc 5 1, 3) := by decide +kernel
theorem dX8_nearestBounds_133 : decode cX8_nearestBounds 133 = .ok (.goto (-127), 3) := by decide +kernel
theorem dX8_nearestBounds_136 : decode cX8_nearestBounds 136 = .ok (.iload 4, 2) := by decide +kernel
theorem dX8_nearestBounds_138 : decode cX8_nearestBounds 138 = .ok (.ireturn, 1) := by decide +kernel
theorem dX8_bounds_0 : decode cX8_bounds 0 = .ok (.aload_n 0, 1) := by decide +kernel
theorem dX8_bounds_1 : decode cX8_bounds 1 = .ok (.iload_n 1, 1) := by decide +kernel
theorem dX8_bounds_2 : decode cX8_bounds 2 = .ok (.iload_n 2, 1) := by decide +kernel
theorem dX8_bounds_3 : decode cX8_bounds 3 = .ok (.invokevirtual 134, 3) := by decide +kernel
theorem dX8_bounds_6 : decode cX8_bounds 6 = .ok (.istore 4, 2) := by decide +kernel
theorem dX8_bounds_8 : decode cX8_bounds 8 = .ok (.iload 4, 2) := by decide +kernel
theorem dX8_bounds_10 : decode cX8_bounds 10 = .ok (.ifCond .eq 8, 3) := by decide +kernel
theorem dX8_bounds_13 : decode cX8_bounds 13 = .ok (.iload 4, 2) := by decide +kernel
theorem dX8_bounds_15 : decode cX8_bounds 15 = .ok (.goto 18, 3) := by decide +kernel
theorem dX8_bounds_18 : decode cX8_bounds 18 = .ok (.aload_n 0, 1) := by decide +kernel
theorem dX8_bounds_19 : decode cX8_bounds 19 = .ok (.aload_n 0, 1) := by decide +kernel
theorem dX8_bounds_20 : decode cX8_bounds 20 = .ok (.iload_n 1, 1) := by decide +kernel
theorem dX8_bounds_21 : decode cX8_bounds 21 = .ok (.invokevirtual 128, 3) := by decide +kernel
theorem dX8_bounds_24 : decode cX8_bounds 24 = .ok (.aload_n 0, 1) := by decide +kernel
theorem dX8_bounds_25 : decode cX8_bounds 25 = .ok (.iload_n 2, 1) := by decide +kernel
theorem dX8_bounds_26 : decode cX8_bounds 26 = .ok (.invokevirtual 128, 3) := by decide +kernel
theorem dX8_bounds_29 : decode cX8_bounds 29 = .ok (.iload_n 3, 1) := by decide +kernel
theorem dX8_bounds_30 : decode cX8_bounds 30 = .ok (.invokevirtual 182, 3) := by decide +kernel
theorem dX8_bounds_33 : decode cX8_bounds 33 = .ok (.ireturn, 1) := by decide +kernel
theorem dX8_bound_0 : decode cX8_bound 0 = .ok (.iload 4, 2) := by decide +kernel
theorem dX8_bound_2 : decode cX8_bound 2 = .ok (.invokestatic 115, 3) := by decide +kernel
theorem dX8_bound_5 : decode cX8_bound 5 = .ok (.ifCond .ne 5, 3) := by decide +kernel
theorem dX8_bound_8 : decode cX8_bound 8 = .ok (.iconst (-1), 1) := by decide +kernel
theorem dX8_bound_9 : decode cX8_bound 9 = .ok (.ireturn, 1) := by decide +kernel
theorem dX8_bound_10 : decode cX8_bound 10 = .ok (.aload_n 0, 1) := by decide +kernel
theorem dX8_bound_11 : decode cX8_bound 11 = .ok (.iload_n 1, 1) := by decide +kernel
theorem dX8_bound_12 : decode cX8_bound 12 = .ok (.iload_n 2, 1) := by decide +kernel
theorem dX8_bound_13 : decode cX8_bound 13 = .ok (.invokevirtual 134, 3) := by decide +kernel
theorem dX8_bound_16 : decode cX8_bound 16 = .ok (.istore 5, 2) := by decide +kernel
theorem dX8_bound_18 : decode cX8_bound 18 = .ok (.iload 5, 2) := by decide +kernel
theorem dX8_bound_20 : decode cX8_bound 20 = .ok (.ifCond .eq 6, 3) := by decide +kernel
theorem dX8_bound_23 : decode cX8_bound 23 = .ok (.iload 5, 2) := by decide +kernel
theorem dX8_bound_25 : decode cX8_bound 25 = .ok (.ireturn, 1) := by decide +kernel
theorem dX8_bound_26 : decode cX8_bound 26 = .ok (.aload_n 0, 1) := by decide +kernel
theorem dX8_bound_27 : decode cX8_bound 27 = .ok (.aload_n 0, 1) := by decide +kernel
theorem dX8_bound_28 : decode cX8_bound 28 = .ok (.iload_n 1, 1) := by decide +kernel
theorem dX8_bound_29 : decode cX8_bound 29 = .ok (.invokevirtual 128, 3) := by decide +kernel
theorem dX8_bound_32 : decode cX8_bound 32 = .ok (.aload_n 0, 1) := by decide +kernel
theorem dX8_bound_33 : decode cX8_bound 33 = .ok (.iload_n 2, 1) := by decide +kernel
theorem dX8_bound_34 : decode cX8_bound 34 = .ok (.invokevirtual 128, 3) := by decide +kernel
theorem dX8_bound_37 : decode cX8_bound 37 = .ok (.iload_n 3, 1) := by decide +kernel
theorem dX8_bound_38 : decode cX8_bound 38 = .ok (.invokevirtual 182, 3) := by decide +kernel
theorem dX8_bound_41 : decode cX8_bound 41 = .ok (.iconst 1, 1) := by decide +kernel
theorem dX8_bound_42 : decode cX8_bound 42 = .ok (.if_icmp .eq 6, 3) := by decide +kernel
theorem dX8_bound_45 : decode cX8_bound 45 = .ok (.bipush (-3), 2) := by decide +kernel
theorem dX8_bound_47 : decode cX8_bound 47 = .ok (.ireturn, 1) := by decide +kernel
theorem dX8_bound_48 : decode cX8_bound 48 = .ok (.aload_n 0, 1) := by decide +kernel
theorem dX8_bound_49 : decode cX8_bound 49 = .ok (.iload 4, 2) := by decide +kernel
theorem dX8_bound_51 : decode cX8_bound 51 = .ok (.aload_n 0, 1) := by decide +kernel
theorem dX8_bound_52 : decode cX8_bound 52 = .ok (.getfield 179, 3) := by decide +kernel
theorem dX8_bound_55 : decode cX8_bound 55 = .ok (.invokevirtual 125, 3) := by decide +kernel
theorem dX8_bound_58 : decode cX8_bound 58 = .ok (.pop, 1) := by decide +kernel
theorem dX8_bound_59 : decode cX8_bound 59 = .ok (.aload_n 0, 1) := by decide +kernel
theorem dX8_bound_60 : decode cX8_bound 60 = .ok (.getfield 22, 3) := by decide +kernel
theorem dX8_bound_63 : decode cX8_bound 63 = .ok (.aload_n 0, 1) := by decide +kernel
theorem dX8_bound_64 : decode cX8_bound 64 = .ok (.getfield 179, 3) := by decide +kernel
theorem dX8_bound_67 : decode cX8_bound 67 = .ok (.iaload, 1) := by decide +kernel
theorem dX8_bound_68 : decode cX8_bound 68 = .ok (.ireturn, 1) := by decide +kernel
theorem dX8_isBetween_0 : decode cX8_isBetween 0 = .ok (.aload_n 0, 1) := by decide +kernel
theorem dX8_isBetween_1 : decode cX8_isBetween 1 = .ok (.iload_n 1, 1) := by decide +kernel
theorem dX8_isBetween_2 : decode cX8_isBetween 2 = .ok (.invokevirtual 150, 3) := by decide +kernel
theorem dX8_isBetween_5 : decode cX8_isBetween 5 = .ok (.ifCond .eq 25, 3) := by decide +kernel
theorem dX8_isBetween_8 : decode cX8_isBetween 8 = .ok (.aload_n 0, 1) := by decide +kernel
theorem dX8_isBetween_9 : decode cX8_isBetween 9 = .ok (.iload_n 2, 1) := by decide +kernel
theorem dX8_isBetween_10 : decode cX8_isBetween 10 = .ok (.iload_n 1, 1) := by decide +kernel
theorem dX8_isBetween_11 : decode cX8_isBetween 11 = .ok (.invokevirtual 89, 3) := by decide +kernel
theorem dX8_isBetween_14 : decode cX8_isBetween 14 = .ok (.ifCond .eq 16, 3) := by decide +kernel
theorem dX8_isBetween_17 : decode cX8_isBetween 17 = .ok (.aload_n 0, 1) := by decide +kernel
theorem dX8_isBetween_18 : decode cX8_isBetween 18 = .ok (.iload_n 1, 1) := by decide +kernel
theorem dX8_isBetween_19 : decode cX8_isBetween 19 = .ok (.iload_n 3, 1) := by decide +kernel
theorem dX8_isBetween_20 : decode cX8_isBetween 20 = .ok (.invokevirtual 89, 3) := by decide +kernel
theorem dX8_isBetween_23 : decode cX8_isBetween 23 = .ok (.ifCond .eq 7, 3) := by decide +kernel
theorem dX8_isBetween_26 : decode cX8_isBetween 26 = .ok (.iconst 1, 1) := by decide +kernel
theorem dX8_isBetween_27 : decode cX8_isBetween 27 = .ok (.goto 4, 3) := by decide +kernel
theorem dX8_isBetween_30 : decode cX8_isBetween 30 = .ok (.iconst 0, 1) := by decide +kernel
theorem dX8_isBetween_31 : decode cX8_isBetween 31 = .ok (.ireturn, 1) := by decide +kernel
theorem dX8_interval_0 : decode cX8_interval 0 = .ok (.aload_n 0, 1) := by decide +kernel
theorem dX8_interval_1 : decode cX8_interval 1 = .ok (.iload_n 1, 1) := by decide +kernel
theorem dX8_interval_2 : decode cX8_interval 2 = .ok (.iload_n 2, 1) := by decide +kernel
theorem dX8_interval_3 : decode cX8_interval 3 = .ok (.invokevirtual 134, 3) := by decide +kernel
theorem dX8_interval_6 : decode cX8_interval 6 = .ok (.istore_n 3, 1) := by decide +kernel
theorem dX8_interval_7 : decode cX8_interval 7 = .ok (.iload_n 3, 1) := by decide +kernel
theorem dX8_interval_8 : decode cX8_interval 8 = .ok (.ifCond .eq 5, 3) := by decide +kernel
theorem dX8_interval_11 : decode cX8_interval 11 = .ok (.iload_n 3, 1) := by decide +kernel
theorem dX8_interval_12 : decode cX8_interval 12 = .ok (.ireturn, 1) := by decide +kernel
theorem dX8_interval_13 : decode cX8_interval 13 = .ok (.iconst 0, 1) := by decide +kernel
theorem dX8_interval_14 : decode cX8_interval 14 = .ok (.istore 4, 2) := by decide +kernel
theorem dX8_interval_16 : decode cX8_interval 16 = .ok (.iconst 0, 1) := by decide +kernel
theorem dX8_interval_17 : decode cX8_interval 17 = .ok (.istore 5, 2) := by decide +kernel
theorem dX8_interval_19 : decode cX8_interval 19 = .ok (.iload 5, 2) := by decide +kernel
theorem dX8_interval_21 : decode cX8_interval 21 = .ok (.aload_n 0, 1) := by decide +kernel
theorem dX8_interval_22 : decode cX8_interval 22 = .ok (.getfield 52, 3) := by decide +kernel
theorem dX8_interval_25 : decode cX8_interval 25 = .ok (.if_icmp .ge 38, 3) := by decide +kernel
theorem dX8_interval_28 : decode cX8_interval 28 = .ok (.iload 4, 2) := by decide +kernel
theorem dX8_interval_30 : decode cX8_interval 30 = .ok (.aload_n 0, 1) := by decide +kernel
theorem dX8_interval_31 : decode cX8_interval 31 = .ok (.iload 5, 2) := by decide +kernel
theorem dX8_interval_33 : decode cX8_interval 33 = .ok (.aload_n 0, 1) := by decide +kernel
theorem dX8_interval_34 : decode cX8_interval 34 = .ok (.iload_n 1, 1) := by decide +kernel
theorem dX8_interval_35 : decode cX8_interval 35 = .ok (.invokevirtual 128, 3) := by decide +kernel
theorem dX8_interval_38 : decode cX8_interval 38 = .ok (.aload_n 0, 1) := by decide +kernel
theorem dX8_interval_39 : decode cX8_interval 39 = .ok (.iload_n 2, 1) := by decide +kernel
theorem dX8_interval_40 : decode cX8_interval 40 = .ok (.invokevirtual 128, 3) := by decide +kernel
theorem dX8_interval_43 : decode cX8_interval 43 = .ok (.invokevirtual 185, 3) := by decide +kernel
theorem dX8_interval_46 : decode cX8_interval 46 = .ok (.ifCond .eq 7, 3) := by decide +kernel
theorem dX8_interval_49 : decode cX8_interval 49 = .ok (.iconst 1, 1) := by decide +kernel
theorem dX8_interval_50 : decode cX8_interval 50 = .ok (.goto 4, 3) := by decide +kernel
theorem dX8_interval_53 : decode cX8_interval 53 = .ok (.iconst 0, 1) := by decide +kernel
theorem dX8_interval_54 : decode cX8_interval 54 = .ok (.iadd, 1) := by decide +kernel
theorem dX8_interval_55 : decode cX8_interval 55 = .ok (.istore 4, 2) := by decide +kernel
theorem dX8_interval_57 : decode cX8_interval 57 = .ok (.iinc 5 1, 3) := by decide +kernel
theorem dX8_interval_60 : decode cX8_interval 60 = .ok (.goto (-41), 3) := by decide +kernel
theorem dX8_interval_63 : decode cX8_interval 63 = .ok (.iload 4, 2) := by decide +kernel
theorem dX8_interval_65 : decode cX8_interval 65 = .ok (.ireturn, 1) := by decide +kernel
theorem dX8_moebiuses_0 : decode cX8_moebiuses 0 = .ok (.iconst 0, 1) := by decide +kernel
theorem dX8_moebiuses_1 : decode cX8_moebiuses 1 = .ok (.istore_n 3, 1) := by decide +kernel
theorem dX8_moebiuses_2 : decode cX8_moebiuses 2 = .ok (.iload_n 3, 1) := by decide +kernel
theorem dX8_moebiuses_3 : decode cX8_moebiuses 3 = .ok (.bipush 6, 2) := by decide +kernel
theorem dX8_moebiuses_5 : decode cX8_moebiuses 5 = .ok (.if_icmp .ge 133, 3) := by decide +kernel
theorem dX8_moebiuses_8 : decode cX8_moebiuses 8 = .ok (.iconst 0, 1) := by decide +kernel
theorem dX8_moebiuses_9 : decode cX8_moebiuses 9 = .ok (.istore 4, 2) := by decide +kernel
theorem dX8_moebiuses_11 : decode cX8_moebiuses 11 = .ok (.iload 4, 2) := by decide +kernel
theorem dX8_moebiuses_13 : decode cX8_moebiuses 13 = .ok (.aload_n 0, 1) := by decide +kernel
theorem dX8_moebiuses_14 : decode cX8_moebiuses 14 = .ok (.getfield 52, 3) := by decide +kernel
theorem dX8_moebiuses_17 : decode cX8_moebiuses 17 = .ok (.if_icmp .ge 115, 3) := by decide +kernel
theorem dX8_moebiuses_20 : decode cX8_moebiuses 20 = .ok (.aload_n 0, 1) := by decide +kernel
theorem dX8_moebiuses_21 : decode cX8_moebiuses 21 = .ok (.iload 4, 2) := by decide +kernel
theorem dX8_moebiuses_23 : decode cX8_moebiuses 23 = .ok (.invokevirtual 188, 3) := by decide +kernel
theorem dX8_moebiuses_26 : decode cX8_moebiuses 26 = .ok (.iload_n 3, 1) := by decide +kernel
theorem dX8_moebiuses_27 : decode cX8_moebiuses 27 = .ok (.if_icmp .ne 99, 3) := by decide +kernel
theorem dX8_moebiuses_30 : decode cX8_moebiuses 30 = .ok (.aload_n 0, 1) := by decide +kernel
theorem dX8_moebiuses_31 : decode cX8_moebiuses 31 = .ok (.getfield 28, 3) := by decide +kernel
theorem dX8_moebiuses_34 : decode cX8_moebiuses 34 = .ok (.iload 4, 2) := by decide +kernel
theorem dX8_moebiuses_36 : decode cX8_moebiuses 36 = .ok (.iload 4, 2) := by decide +kernel
theorem dX8_moebiuses_38 : decode cX8_moebiuses 38 = .ok (.iload_n 1, 1) := by decide +kernel
theorem dX8_moebiuses_39 : decode cX8_moebiuses 39 = .ok (.if_icmp .ne 7, 3) := by decide +kernel
theorem dX8_moebiuses_42 : decode cX8_moebiuses 42 = .ok (.lconst 1, 1) := by decide +kernel
theorem dX8_moebiuses_43 : decode cX8_moebiuses 43 = .ok (.goto 4, 3) := by decide +kernel
theorem dX8_moebiuses_46 : decode cX8_moebiuses 46 = .ok (.lconst 0, 1) := by decide +kernel
theorem dX8_moebiuses_47 : decode cX8_moebiuses 47 = .ok (.lastore, 1) := by decide +kernel
theorem dX8_moebiuses_48 : decode cX8_moebiuses 48 = .ok (.iconst 0, 1) := by decide +kernel
theorem dX8_moebiuses_49 : decode cX8_moebiuses 49 = .ok (.istore 5, 2) := by decide +kernel
theorem dX8_moebiuses_51 : decode cX8_moebiuses 51 = .ok (.iload 5, 2) := by decide +kernel
theorem dX8_moebiuses_53 : decode cX8_moebiuses 53 = .ok (.aload_n 0, 1) := by decide +kernel
theorem dX8_moebiuses_54 : decode cX8_moebiuses 54 = .ok (.getfield 52, 3) := by decide +kernel
theorem dX8_moebiuses_57 : decode cX8_moebiuses 57 = .ok (.if_icmp .ge 69, 3) := by decide +kernel
theorem dX8_moebiuses_60 : decode cX8_moebiuses 60 = .ok (.iload 4, 2) := by decide +kernel
theorem dX8_moebiuses_62 : decode cX8_moebiuses 62 = .ok (.iload_n 1, 1) := by decide +kernel
theorem dX8_moebiuses_63 : decode cX8_moebiuses 63 = .ok (.if_icmp .eq 63, 3) := by decide +kernel
theorem dX8_moebiuses_66 : decode cX8_moebiuses 66 = .ok (.aload_n 0, 1) := by decide +kernel
theorem dX8_moebiuses_67 : decode cX8_moebiuses 67 = .ok (.iload 4, 2) := by decide +kernel
theorem dX8_moebiuses_69 : decode cX8_moebiuses 69 = .ok (.iload_n 1, 1) := by decide +kernel
theorem dX8_moebiuses_70 : decode cX8_moebiuses 70 = .ok (.iload_n 2, 1) := by decide +kernel
theorem dX8_moebiuses_71 : decode cX8_moebiuses 71 = .ok (.invokevirtual 185, 3) := by decide +kernel
theorem dX8_moebiuses_74 : decode cX8_moebiuses 74 = .ok (.ifCond .eq 52, 3) := by decide +kernel
theorem dX8_moebiuses_77 : decode cX8_moebiuses 77 = .ok (.aload_n 0, 1) := by decide +kernel
theorem dX8_moebiuses_78 : decode cX8_moebiuses 78 = .ok (.getfield 28, 3) := by decide +kernel
theorem dX8_moebiuses_81 : decode cX8_moebiuses 81 = .ok (.iload 4, 2) := by decide +kernel
theorem dX8_moebiuses_83 : decode cX8_moebiuses 83 = .ok (.dup2, 1) := by decide +kernel
theorem dX8_moebiuses_84 : decode cX8_moebiuses 84 = .ok (.laload, 1) := by decide +kernel
theorem dX8_moebiuses_85 : decode cX8_moebiuses 85 = .ok (.aload_n 0, 1) := by decide +kernel
theorem dX8_moebiuses_86 : decode cX8_moebiuses 86 = .ok (.iload 5, 2) := by decide +kernel
theorem dX8_moebiuses_88 : decode cX8_moebiuses 88 = .ok (.iload_n 1, 1) := by decide +kernel
theorem dX8_moebiuses_89 : decode cX8_moebiuses 89 = .ok (.iload_n 2, 1) := by decide +kernel
theorem dX8_moebiuses_90 : decode cX8_moebiuses 90 = .ok (.invokevirtual 185, 3) := by decide +kernel
theorem dX8_moebiuses_93 : decode cX8_moebiuses 93 = .ok (.ifCond .eq 24, 3) := by decide +kernel
theorem dX8_moebiuses_96 : decode cX8_moebiuses 96 = .ok (.aload_n 0, 1) := by decide +kernel
theorem dX8_moebiuses_97 : decode cX8_moebiuses 97 = .ok (.iload 5, 2) := by decide +kernel
theorem dX8_moebiuses_99 : decode cX8_moebiuses 99 = .ok (.iload 4, 2) := by decide +kernel
theorem dX8_moebiuses_101 : decode cX8_moebiuses 101 = .ok (.invokevirtual 169, 3) := by decide +kernel
theorem dX8_moebiuses_104 : decode cX8_moebiuses 104 = .ok (.ifCond .eq 13, 3) := by decide +kernel
theorem dX8_moebiuses_107 : decode cX8_moebiuses 107 = .ok (.aload_n 0, 1) := by decide +kernel
theorem dX8_moebiuses_108 : decode cX8_moebiuses 108 = .ok (.getfield 28, 3) := by decide +kernel
theorem dX8_moebiuses_111 : decode cX8_moebiuses 111 = .ok (.iload 5, 2) := by decide +kernel
theorem dX8_moebiuses_113 : decode cX8_moebiuses 113 = .ok (.laload, 1) := by decide +kernel
theorem dX8_moebiuses_114 : decode cX8_moebiuses 114 = .ok (.goto 4, 3) := by decide +kernel
theorem dX8_moebiuses_117 : decode cX8_moebiuses 117 = .ok (.lconst 0, 1) := by decide +kernel
theorem dX8_moebiuses_118 : decode cX8_moebiuses 118 = .ok (.lsub, 1) := by decide +kernel
theorem dX8_moebiuses_119 : decode cX8_moebiuses 119 = .ok (.lastore, 1) := by decide +kernel
theorem dX8_moebiuses_120 : decode cX8_moebiuses 120 = .ok (.iinc 5 1, 3) := by decide +kernel
theorem dX8_moebiuses_123 : decode cX8_moebiuses 123 = .ok (.goto (-72), 3) := by decide +kernel
theorem dX8_moebiuses_126 : decode cX8_moebiuses 126 = .ok (.iinc 4 1, 3) := by decide +kernel
theorem dX8_moebiuses_129 : decode cX8_moebiuses 129 = .ok (.goto (-118), 3) := by decide +kernel
theorem dX8_moebiuses_132 : decode cX8_moebiuses 132 = .ok (.iinc 3 1, 3) := by decide +kernel
theorem dX8_moebiuses_135 : decode cX8_moebiuses 135 = .ok (.goto (-133), 3) := by decide +kernel
theorem dX8_moebiuses_138 : decode cX8_moebiuses 138 = .ok (.return_, 1) := by decide +kernel
theorem dX8_wrongAdmitted_0 : decode cX8_wrongAdmitted 0 = .ok (.aload_n 0, 1) := by decide +kernel
theorem dX8_wrongAdmitted_1 : decode cX8_wrongAdmitted 1 = .ok (.iload_n 1, 1) := by decide +kernel
theorem dX8_wrongAdmitted_2 : decode cX8_wrongAdmitted 2 = .ok (.iload_n 2, 1) := by decide +kernel
theorem dX8_wrongAdmitted_3 : decode cX8_wrongAdmitted 3 = .ok (.invokevirtual 134, 3) := by decide +kernel
theorem dX8_wrongAdmitted_6 : decode cX8_wrongAdmitted 6 = .ok (.istore_n 3, 1) := by decide +kernel
theorem dX8_wrongAdmitted_7 : decode cX8_wrongAdmitted 7 = .ok (.iload_n 3, 1) := by decide +kernel
theorem dX8_wrongAdmitted_8 : decode cX8_wrongAdmitted 8 = .ok (.ifCond .eq 7, 3) := by decide +kernel
theorem dX8_wrongAdmitted_11 : decode cX8_wrongAdmitted 11 = .ok (.iload_n 3, 1) := by decide +kernel
theorem dX8_wrongAdmitted_12 : decode cX8_wrongAdmitted 12 = .ok (.goto 33, 3) := by decide +kernel
theorem dX8_wrongAdmitted_15 : decode cX8_wrongAdmitted 15 = .ok (.aload_n 0, 1) := by decide +kernel
theorem dX8_wrongAdmitted_16 : decode cX8_wrongAdmitted 16 = .ok (.aload_n 0, 1) := by decide +kernel
theorem dX8_wrongAdmitted_17 : decode cX8_wrongAdmitted 17 = .ok (.iload_n 1, 1) := by decide +kernel
theorem dX8_wrongAdmitted_18 : decode cX8_wrongAdmitted 18 = .ok (.invokevirtual 128, 3) := by decide +kernel
theorem dX8_wrongAdmitted_21 : decode cX8_wrongAdmitted 21 = .ok (.invokevirtual 150, 3) := by decide +kernel
theorem dX8_wrongAdmitted_24 : decode cX8_wrongAdmitted 24 = .ok (.ifCond .eq 19, 3) := by decide +kernel
theorem dX8_wrongAdmitted_27 : decode cX8_wrongAdmitted 27 = .ok (.aload_n 0, 1) := by decide +kernel
theorem dX8_wrongAdmitted_28 : decode cX8_wrongAdmitted 28 = .ok (.aload_n 0, 1) := by decide +kernel
theorem dX8_wrongAdmitted_29 : decode cX8_wrongAdmitted 29 = .ok (.iload_n 2, 1) := by decide +kernel
theorem dX8_wrongAdmitted_30 : decode cX8_wrongAdmitted 30 = .ok (.invokevirtual 128, 3) := by decide +kernel
theorem dX8_wrongAdmitted_33 : decode cX8_wrongAdmitted 33 = .ok (.invokevirtual 150, 3) := by decide +kernel
theorem dX8_wrongAdmitted_36 : decode cX8_wrongAdmitted 36 = .ok (.ifCond .eq 7, 3) := by decide +kernel
theorem dX8_wrongAdmitted_39 : decode cX8_wrongAdmitted 39 = .ok (.iconst 0, 1) := by decide +kernel
theorem dX8_wrongAdmitted_40 : decode cX8_wrongAdmitted 40 = .ok (.goto 5, 3) := by decide +kernel
theorem dX8_wrongAdmitted_43 : decode cX8_wrongAdmitted 43 = .ok (.bipush (-3), 2) := by decide +kernel
theorem dX8_wrongAdmitted_45 : decode cX8_wrongAdmitted 45 = .ok (.ireturn, 1) := by decide +kernel
theorem dX8_moebius_0 : decode cX8_moebius 0 = .ok (.aload_n 0, 1) := by decide +kernel
theorem dX8_moebius_1 : decode cX8_moebius 1 = .ok (.iload_n 1, 1) := by decide +kernel
theorem dX8_moebius_2 : decode cX8_moebius 2 = .ok (.iload_n 2, 1) := by decide +kernel
theorem dX8_moebius_3 : decode cX8_moebius 3 = .ok (.invokevirtual 191, 3) := by decide +kernel
theorem dX8_moebius_6 : decode cX8_moebius 6 = .ok (.istore_n 3, 1) := by decide +kernel
theorem dX8_moebius_7 : decode cX8_moebius 7 = .ok (.iload_n 3, 1) := by decide +kernel
theorem dX8_moebius_8 : decode cX8_moebius 8 = .ok (.ifCond .eq 10, 3) := by decide +kernel
theorem dX8_moebius_11 : decode cX8_moebius 11 = .ok (.ldc2_w 194, 3) := by decide +kernel
theorem dX8_moebius_14 : decode cX8_moebius 14 = .ok (.iload_n 3, 1) := by decide +kernel
theorem dX8_moebius_15 : decode cX8_moebius 15 = .ok (.i2l, 1) := by decide +kernel
theorem dX8_moebius_16 : decode cX8_moebius 16 = .ok (.ladd, 1) := by decide +kernel
theorem dX8_moebius_17 : decode cX8_moebius 17 = .ok (.lreturn, 1) := by decide +kernel
theorem dX8_moebius_18 : decode cX8_moebius 18 = .ok (.aload_n 0, 1) := by decide +kernel
theorem dX8_moebius_19 : decode cX8_moebius 19 = .ok (.aload_n 0, 1) := by decide +kernel
theorem dX8_moebius_20 : decode cX8_moebius 20 = .ok (.iload_n 1, 1) := by decide +kernel
theorem dX8_moebius_21 : decode cX8_moebius 21 = .ok (.invokevirtual 128, 3) := by decide +kernel
theorem dX8_moebius_24 : decode cX8_moebius 24 = .ok (.aload_n 0, 1) := by decide +kernel
theorem dX8_moebius_25 : decode cX8_moebius 25 = .ok (.iload_n 2, 1) := by decide +kernel
theorem dX8_moebius_26 : decode cX8_moebius 26 = .ok (.invokevirtual 128, 3) := by decide +kernel
theorem dX8_moebius_29 : decode cX8_moebius 29 = .ok (.invokevirtual 89, 3) := by decide +kernel
theorem dX8_moebius_32 : decode cX8_moebius 32 = .ok (.ifCond .ne 5, 3) := by decide +kernel
theorem dX8_moebius_35 : decode cX8_moebius 35 = .ok (.lconst 0, 1) := by decide +kernel
theorem dX8_moebius_36 : decode cX8_moebius 36 = .ok (.lreturn, 1) := by decide +kernel
theorem dX8_moebius_37 : decode cX8_moebius 37 = .ok (.aload_n 0, 1) := by decide +kernel
theorem dX8_moebius_38 : decode cX8_moebius 38 = .ok (.aload_n 0, 1) := by decide +kernel
theorem dX8_moebius_39 : decode cX8_moebius 39 = .ok (.iload_n 1, 1) := by decide +kernel
theorem dX8_moebius_40 : decode cX8_moebius 40 = .ok (.invokevirtual 128, 3) := by decide +kernel
theorem dX8_moebius_43 : decode cX8_moebius 43 = .ok (.aload_n 0, 1) := by decide +kernel
theorem dX8_moebius_44 : decode cX8_moebius 44 = .ok (.iload_n 2, 1) := by decide +kernel
theorem dX8_moebius_45 : decode cX8_moebius 45 = .ok (.invokevirtual 128, 3) := by decide +kernel
theorem dX8_moebius_48 : decode cX8_moebius 48 = .ok (.invokevirtual 196, 3) := by decide +kernel
theorem dX8_moebius_51 : decode cX8_moebius 51 = .ok (.aload_n 0, 1) := by decide +kernel
theorem dX8_moebius_52 : decode cX8_moebius 52 = .ok (.getfield 28, 3) := by decide +kernel
theorem dX8_moebius_55 : decode cX8_moebius 55 = .ok (.aload_n 0, 1) := by decide +kernel
theorem dX8_moebius_56 : decode cX8_moebius 56 = .ok (.iload_n 2, 1) := by decide +kernel
theorem dX8_moebius_57 : decode cX8_moebius 57 = .ok (.invokevirtual 128, 3) := by decide +kernel
theorem dX8_moebius_60 : decode cX8_moebius 60 = .ok (.laload, 1) := by decide +kernel
theorem dX8_moebius_61 : decode cX8_moebius 61 = .ok (.lreturn, 1) := by decide +kernel
theorem dX8_extendsAll_0 : decode cX8_extendsAll 0 = .ok (.iconst 0, 1) := by decide +kernel
theorem dX8_extendsAll_1 : decode cX8_extendsAll 1 = .ok (.istore_n 1, 1) := by decide +kernel
theorem dX8_extendsAll_2 : decode cX8_extendsAll 2 = .ok (.iload_n 1, 1) := by decide +kernel
theorem dX8_extendsAll_3 : decode cX8_extendsAll 3 = .ok (.aload_n 0, 1) := by decide +kernel
theorem dX8_extendsAll_4 : decode cX8_extendsAll 4 = .ok (.getfield 52, 3) := by decide +kernel
theorem dX8_extendsAll_7 : decode cX8_extendsAll 7 = .ok (.if_icmp .ge 76, 3) := by decide +kernel
theorem dX8_extendsAll_10 : decode cX8_extendsAll 10 = .ok (.aload_n 0, 1) := by decide +kernel
theorem dX8_extendsAll_11 : decode cX8_extendsAll 11 = .ok (.getfield 32, 3) := by decide +kernel
theorem dX8_extendsAll_14 : decode cX8_extendsAll 14 = .ok (.iload_n 1, 1) := by decide +kernel
theorem dX8_extendsAll_15 : decode cX8_extendsAll 15 = .ok (.lconst 0, 1) := by decide +kernel
theorem dX8_extendsAll_16 : decode cX8_extendsAll 16 = .ok (.lastore, 1) := by decide +kernel
theorem dX8_extendsAll_17 : decode cX8_extendsAll 17 = .ok (.iconst 0, 1) := by decide +kernel
theorem dX8_extendsAll_18 : decode cX8_extendsAll 18 = .ok (.istore_n 2, 1) := by decide +kernel
theorem dX8_extendsAll_19 : decode cX8_extendsAll 19 = .ok (.iload_n 2, 1) := by decide +kernel
theorem dX8_extendsAll_20 : decode cX8_extendsAll 20 = .ok (.aload_n 0, 1) := by decide +kernel
theorem dX8_extendsAll_21 : decode cX8_extendsAll 21 = .ok (.getfield 52, 3) := by decide +kernel
theorem dX8_extendsAll_24 : decode cX8_extendsAll 24 = .ok (.if_icmp .ge 53, 3) := by decide +kernel
theorem dX8_extendsAll_27 : decode cX8_extendsAll 27 = .ok (.aload_n 0, 1) := by decide +kernel
theorem dX8_extendsAll_28 : decode cX8_extendsAll 28 = .ok (.iload_n 1, 1) := by decide +kernel
theorem dX8_extendsAll_29 : decode cX8_extendsAll 29 = .ok (.invokevirtual 150, 3) := by decide +kernel
theorem dX8_extendsAll_32 : decode cX8_extendsAll 32 = .ok (.ifCond .eq 45, 3) := by decide +kernel
theorem dX8_extendsAll_35 : decode cX8_extendsAll 35 = .ok (.aload_n 0, 1) := by decide +kernel
theorem dX8_extendsAll_36 : decode cX8_extendsAll 36 = .ok (.getfield 32, 3) := by decide +kernel
theorem dX8_extendsAll_39 : decode cX8_extendsAll 39 = .ok (.iload_n 1, 1) := by decide +kernel
theorem dX8_extendsAll_40 : decode cX8_extendsAll 40 = .ok (.dup2, 1) := by decide +kernel
theorem dX8_extendsAll_41 : decode cX8_extendsAll 41 = .ok (.laload, 1) := by decide +kernel
theorem dX8_extendsAll_42 : decode cX8_extendsAll 42 = .ok (.aload_n 0, 1) := by decide +kernel
theorem dX8_extendsAll_43 : decode cX8_extendsAll 43 = .ok (.iload_n 2, 1) := by decide +kernel
theorem dX8_extendsAll_44 : decode cX8_extendsAll 44 = .ok (.invokevirtual 150, 3) := by decide +kernel
theorem dX8_extendsAll_47 : decode cX8_extendsAll 47 = .ok (.ifCond .eq 21, 3) := by decide +kernel
theorem dX8_extendsAll_50 : decode cX8_extendsAll 50 = .ok (.aload_n 0, 1) := by decide +kernel
theorem dX8_extendsAll_51 : decode cX8_extendsAll 51 = .ok (.iload_n 2, 1) := by decide +kernel
theorem dX8_extendsAll_52 : decode cX8_extendsAll 52 = .ok (.iload_n 1, 1) := by decide +kernel
theorem dX8_extendsAll_53 : decode cX8_extendsAll 53 = .ok (.invokevirtual 169, 3) := by decide +kernel
theorem dX8_extendsAll_56 : decode cX8_extendsAll 56 = .ok (.ifCond .eq 12, 3) := by decide +kernel
theorem dX8_extendsAll_59 : decode cX8_extendsAll 59 = .ok (.aload_n 0, 1) := by decide +kernel
theorem dX8_extendsAll_60 : decode cX8_extendsAll 60 = .ok (.getfield 28, 3) := by decide +kernel
theorem dX8_extendsAll_63 : decode cX8_extendsAll 63 = .ok (.iload_n 2, 1) := by decide +kernel
theorem dX8_extendsAll_64 : decode cX8_extendsAll 64 = .ok (.laload, 1) := by decide +kernel
theorem dX8_extendsAll_65 : decode cX8_extendsAll 65 = .ok (.goto 4, 3) := by decide +kernel
theorem dX8_extendsAll_68 : decode cX8_extendsAll 68 = .ok (.lconst 0, 1) := by decide +kernel
theorem dX8_extendsAll_69 : decode cX8_extendsAll 69 = .ok (.ladd, 1) := by decide +kernel
theorem dX8_extendsAll_70 : decode cX8_extendsAll 70 = .ok (.lastore, 1) := by decide +kernel
theorem dX8_extendsAll_71 : decode cX8_extendsAll 71 = .ok (.iinc 2 1, 3) := by decide +kernel
theorem dX8_extendsAll_74 : decode cX8_extendsAll 74 = .ok (.goto (-55), 3) := by decide +kernel
theorem dX8_extendsAll_77 : decode cX8_extendsAll 77 = .ok (.iinc 1 1, 3) := by decide +kernel
theorem dX8_extendsAll_80 : decode cX8_extendsAll 80 = .ok (.goto (-78), 3) := by decide +kernel
theorem dX8_extendsAll_83 : decode cX8_extendsAll 83 = .ok (.iconst 0, 1) := by decide +kernel
theorem dX8_extendsAll_84 : decode cX8_extendsAll 84 = .ok (.istore_n 1, 1) := by decide +kernel
theorem dX8_extendsAll_85 : decode cX8_extendsAll 85 = .ok (.iload_n 1, 1) := by decide +kernel
theorem dX8_extendsAll_86 : decode cX8_extendsAll 86 = .ok (.aload_n 0, 1) := by decide +kernel
theorem dX8_extendsAll_87 : decode cX8_extendsAll 87 = .ok (.getfield 52, 3) := by decide +kernel
theorem dX8_extendsAll_90 : decode cX8_extendsAll 90 = .ok (.if_icmp .ge 21, 3) := by decide +kernel
theorem dX8_extendsAll_93 : decode cX8_extendsAll 93 = .ok (.aload_n 0, 1) := by decide +kernel
theorem dX8_extendsAll_94 : decode cX8_extendsAll 94 = .ok (.getfield 28, 3) := by decide +kernel
theorem dX8_extendsAll_97 : decode cX8_extendsAll 97 = .ok (.iload_n 1, 1) := by decide +kernel
theorem dX8_extendsAll_98 : decode cX8_extendsAll 98 = .ok (.aload_n 0, 1) := by decide +kernel
theorem dX8_extendsAll_99 : decode cX8_extendsAll 99 = .ok (.getfield 32, 3) := by decide +kernel
theorem dX8_extendsAll_102 : decode cX8_extendsAll 102 = .ok (.iload_n 1, 1) := by decide +kernel
theorem dX8_extendsAll_103 : decode cX8_extendsAll 103 = .ok (.laload, 1) := by decide +kernel
theorem dX8_extendsAll_104 : decode cX8_extendsAll 104 = .ok (.lastore, 1) := by decide +kernel
theorem dX8_extendsAll_105 : decode cX8_extendsAll 105 = .ok (.iinc 1 1, 3) := by decide +kernel
theorem dX8_extendsAll_108 : decode cX8_extendsAll 108 = .ok (.goto (-23), 3) := by decide +kernel
theorem dX8_extendsAll_111 : decode cX8_extendsAll 111 = .ok (.return_, 1) := by decide +kernel
theorem dX8_single_0 : decode cX8_single 0 = .ok (.iconst 0, 1) := by decide +kernel
theorem dX8_single_1 : decode cX8_single 1 = .ok (.istore_n 2, 1) := by decide +kernel
theorem dX8_single_2 : decode cX8_single 2 = .ok (.iload_n 2, 1) := by decide +kernel
theorem dX8_single_3 : decode cX8_single 3 = .ok (.aload_n 0, 1) := by decide +kernel
theorem dX8_single_4 : decode cX8_single 4 = .ok (.getfield 52, 3) := by decide +kernel
theorem dX8_single_7 : decode cX8_single 7 = .ok (.if_icmp .ge 25, 3) := by decide +kernel
theorem dX8_single_10 : decode cX8_single 10 = .ok (.aload_n 0, 1) := by decide +kernel
theorem dX8_single_11 : decode cX8_single 11 = .ok (.getfield 28, 3) := by decide +kernel
theorem dX8_single_14 : decode cX8_single 14 = .ok (.iload_n 2, 1) := by decide +kernel
theorem dX8_single_15 : decode cX8_single 15 = .ok (.iload_n 2, 1) := by decide +kernel
theorem dX8_single_16 : decode cX8_single 16 = .ok (.iload_n 1, 1) := by decide +kernel
theorem dX8_single_17 : decode cX8_single 17 = .ok (.if_icmp .ne 7, 3) := by decide +kernel
theorem dX8_single_20 : decode cX8_single 20 = .ok (.lconst 1, 1) := by decide +kernel
theorem dX8_single_21 : decode cX8_single 21 = .ok (.goto 4, 3) := by decide +kernel
theorem dX8_single_24 : decode cX8_single 24 = .ok (.lconst 0, 1) := by decide +kernel
theorem dX8_single_25 : decode cX8_single 25 = .ok (.lastore, 1) := by decide +kernel
theorem dX8_single_26 : decode cX8_single 26 = .ok (.iinc 2 1, 3) := by decide +kernel
theorem dX8_single_29 : decode cX8_single 29 = .ok (.goto (-27), 3) := by decide +kernel
theorem dX8_single_32 : decode cX8_single 32 = .ok (.return_, 1) := by decide +kernel
theorem dX8_chains_0 : decode cX8_chains 0 = .ok (.iload_n 1, 1) := by decide +kernel
theorem dX8_chains_1 : decode cX8_chains 1 = .ok (.invokestatic 115, 3) := by decide +kernel
theorem dX8_chains_4 : decode cX8_chains 4 = .ok (.ifCond .eq 19, 3) := by decide +kernel
theorem dX8_chains_7 : decode cX8_chains 7 = .ok (.iload_n 2, 1) := by decide +kernel
theorem dX8_chains_8 : decode cX8_chains 8 = .ok (.invokestatic 115, 3) := by decide +kernel
theorem dX8_chains_11 : decode cX8_chains 11 = .ok (.ifCond .eq 12, 3) := by decide +kernel
theorem dX8_chains_14 : decode cX8_chains 14 = .ok (.iload_n 3, 1) := by decide +kernel
theorem dX8_chains_15 : decode cX8_chains 15 = .ok (.iconst 0, 1) := by decide +kernel
theorem dX8_chains_16 : decode cX8_chains 16 = .ok (.iconst 5, 1) := by decide +kernel
theorem dX8_chains_17 : decode cX8_chains 17 = .ok (.invokestatic 96, 3) := by decide +kernel
theorem dX8_chains_20 : decode cX8_chains 20 = .ok (.ifCond .ne 7, 3) := by decide +kernel
theorem dX8_chains_23 : decode cX8_chains 23 = .ok (.ldc2_w 199, 3) := by decide +kernel
theorem dX8_chains_26 : decode cX8_chains 26 = .ok (.lreturn, 1) := by decide +kernel
theorem dX8_chains_27 : decode cX8_chains 27 = .ok (.aload_n 0, 1) := by decide +kernel
theorem dX8_chains_28 : decode cX8_chains 28 = .ok (.iload_n 1, 1) := by decide +kernel
theorem dX8_chains_29 : decode cX8_chains 29 = .ok (.iload_n 2, 1) := by decide +kernel
theorem dX8_chains_30 : decode cX8_chains 30 = .ok (.invokevirtual 191, 3) := by decide +kernel
theorem dX8_chains_33 : decode cX8_chains 33 = .ok (.istore 4, 2) := by decide +kernel
theorem dX8_chains_35 : decode cX8_chains 35 = .ok (.iload 4, 2) := by decide +kernel
theorem dX8_chains_37 : decode cX8_chains 37 = .ok (.ifCond .eq 7, 3) := by decide +kernel
theorem dX8_chains_40 : decode cX8_chains 40 = .ok (.iload 4, 2) := by decide +kernel
theorem dX8_chains_42 : decode cX8_chains 42 = .ok (.i2l, 1) := by decide +kernel
theorem dX8_chains_43 : decode cX8_chains 43 = .ok (.lreturn, 1) := by decide +kernel
theorem dX8_chains_44 : decode cX8_chains 44 = .ok (.aload_n 0, 1) := by decide +kernel
theorem dX8_chains_45 : decode cX8_chains 45 = .ok (.aload_n 0, 1) := by decide +kernel
theorem dX8_chains_46 : decode cX8_chains 46 = .ok (.iload_n 1, 1) := by decide +kernel
theorem dX8_chains_47 : decode cX8_chains 47 = .ok (.invokevirtual 128, 3) := by decide +kernel
theorem dX8_chains_50 : decode cX8_chains 50 = .ok (.invokevirtual 201, 3) := by decide +kernel
theorem dX8_chains_53 : decode cX8_chains 53 = .ok (.iconst 0, 1) := by decide +kernel
theorem dX8_chains_54 : decode cX8_chains 54 = .ok (.istore 5, 2) := by decide +kernel
theorem dX8_chains_56 : decode cX8_chains 56 = .ok (.iload 5, 2) := by decide +kernel
theorem dX8_chains_58 : decode cX8_chains 58 = .ok (.iload_n 3, 1) := by decide +kernel
theorem dX8_chains_59 : decode cX8_chains 59 = .ok (.if_icmp .ge 13, 3) := by decide +kernel
theorem dX8_chains_62 : decode cX8_chains 62 = .ok (.aload_n 0, 1) := by decide +kernel
theorem dX8_chains_63 : decode cX8_chains 63 = .ok (.invokevirtual 204, 3) := by decide +kernel
theorem dX8_chains_66 : decode cX8_chains 66 = .ok (.iinc 5 1, 3) := by decide +kernel
theorem dX8_chains_69 : decode cX8_chains 69 = .ok (.goto (-13), 3) := by decide +kernel
theorem dX8_chains_72 : decode cX8_chains 72 = .ok (.aload_n 0, 1) := by decide +kernel
theorem dX8_chains_73 : decode cX8_chains 73 = .ok (.getfield 28, 3) := by decide +kernel
theorem dX8_chains_76 : decode cX8_chains 76 = .ok (.aload_n 0, 1) := by decide +kernel
theorem dX8_chains_77 : decode cX8_chains 77 = .ok (.iload_n 2, 1) := by decide +kernel
theorem dX8_chains_78 : decode cX8_chains 78 = .ok (.invokevirtual 128, 3) := by decide +kernel
theorem dX8_chains_81 : decode cX8_chains 81 = .ok (.laload, 1) := by decide +kernel
theorem dX8_chains_82 : decode cX8_chains 82 = .ok (.lreturn, 1) := by decide +kernel
theorem dX8_maximalChains_0 : decode cX8_maximalChains 0 = .ok (.aload_n 0, 1) := by decide +kernel
theorem dX8_maximalChains_1 : decode cX8_maximalChains 1 = .ok (.iload_n 1, 1) := by decide +kernel
theorem dX8_maximalChains_2 : decode cX8_maximalChains 2 = .ok (.iload_n 2, 1) := by decide +kernel
theorem dX8_maximalChains_3 : decode cX8_maximalChains 3 = .ok (.invokevirtual 191, 3) := by decide +kernel
theorem dX8_maximalChains_6 : decode cX8_maximalChains 6 = .ok (.istore_n 3, 1) := by decide +kernel
theorem dX8_maximalChains_7 : decode cX8_maximalChains 7 = .ok (.iload_n 3, 1) := by decide +kernel
theorem dX8_maximalChains_8 : decode cX8_maximalChains 8 = .ok (.ifCond .eq 6, 3) := by decide +kernel
theorem dX8_maximalChains_11 : decode cX8_maximalChains 11 = .ok (.iload_n 3, 1) := by decide +kernel
theorem dX8_maximalChains_12 : decode cX8_maximalChains 12 = .ok (.i2l, 1) := by decide +kernel
theorem dX8_maximalChains_13 : decode cX8_maximalChains 13 = .ok (.lreturn, 1) := by decide +kernel
theorem dX8_maximalChains_14 : decode cX8_maximalChains 14 = .ok (.aload_n 0, 1) := by decide +kernel
theorem dX8_maximalChains_15 : decode cX8_maximalChains 15 = .ok (.aload_n 0, 1) := by decide +kernel
theorem dX8_maximalChains_16 : decode cX8_maximalChains 16 = .ok (.iload_n 1, 1) := by decide +kernel
theorem dX8_maximalChains_17 : decode cX8_maximalChains 17 = .ok (.invokevirtual 128, 3) := by decide +kernel
theorem dX8_maximalChains_20 : decode cX8_maximalChains 20 = .ok (.invokevirtual 201, 3) := by decide +kernel
theorem dX8_maximalChains_23 : decode cX8_maximalChains 23 = .ok (.iconst 0, 1) := by decide +kernel
theorem dX8_maximalChains_24 : decode cX8_maximalChains 24 = .ok (.istore 4, 2) := by decide +kernel
theorem dX8_maximalChains_26 : decode cX8_maximalChains 26 = .ok (.iload 4, 2) := by decide +kernel
theorem dX8_maximalChains_28 : decode cX8_maximalChains 28 = .ok (.bipush 6, 2) := by decide +kernel
theorem dX8_maximalChains_30 : decode cX8_maximalChains 30 = .ok (.if_icmp .ge 110, 3) := by decide +kernel
theorem dX8_maximalChains_33 : decode cX8_maximalChains 33 = .ok (.iconst 0, 1) := by decide +kernel
theorem dX8_maximalChains_34 : decode cX8_maximalChains 34 = .ok (.istore 5, 2) := by decide +kernel
theorem dX8_maximalChains_36 : decode cX8_maximalChains 36 = .ok (.iload 5, 2) := by decide +kernel
theorem dX8_maximalChains_38 : decode cX8_maximalChains 38 = .ok (.aload_n 0, 1) := by decide +kernel
theorem dX8_maximalChains_39 : decode cX8_maximalChains 39 = .ok (.getfield 52, 3) := by decide +kernel
theorem dX8_maximalChains_42 : decode cX8_maximalChains 42 = .ok (.if_icmp .ge 92, 3) := by decide +kernel
theorem dX8_maximalChains_45 : decode cX8_maximalChains 45 = .ok (.iconst 0, 1) := by decide +kernel
theorem dX8_maximalChains_46 : decode cX8_maximalChains 46 = .ok (.istore 6, 2) := by decide +kernel
theorem dX8_maximalChains_48 : decode cX8_maximalChains 48 = .ok (.iload 6, 2) := by decide +kernel
theorem dX8_maximalChains_50 : decode cX8_maximalChains 50 = .ok (.aload_n 0, 1) := by decide +kernel
theorem dX8_maximalChains_51 : decode cX8_maximalChains 51 = .ok (.getfield 52, 3) := by decide +kernel
theorem dX8_maximalChains_54 : decode cX8_maximalChains 54 = .ok (.if_icmp .ge 74, 3) := by decide +kernel
theorem dX8_maximalChains_57 : decode cX8_maximalChains 57 = .ok (.aload_n 0, 1) := by decide +kernel
theorem dX8_maximalChains_58 : decode cX8_maximalChains 58 = .ok (.iload 5, 2) := by decide +kernel
theorem dX8_maximalChains_60 : decode cX8_maximalChains 60 = .ok (.invokevirtual 188, 3) := by decide +kernel
theorem dX8_maximalChains_63 : decode cX8_maximalChains 63 = .ok (.iload 4, 2) := by decide +kernel
theorem dX8_maximalChains_65 : decode cX8_maximalChains 65 = .ok (.if_icmp .ne 63, 3) := by decide +kernel
theorem dX8_maximalChains_68 : decode cX8_maximalChains 68 = .ok (.iload 5, 2) := by decide +kernel
theorem dX8_maximalChains_70 : decode cX8_maximalChains 70 = .ok (.aload_n 0, 1) := by decide +kernel
theorem dX8_maximalChains_71 : decode cX8_maximalChains 71 = .ok (.iload_n 1, 1) := by decide +kernel
theorem dX8_maximalChains_72 : decode cX8_maximalChains 72 = .ok (.invokevirtual 128, 3) := by decide +kernel
theorem dX8_maximalChains_75 : decode cX8_maximalChains 75 = .ok (.if_icmp .eq 53, 3) := by decide +kernel
theorem dX8_maximalChains_78 : decode cX8_maximalChains 78 = .ok (.aload_n 0, 1) := by decide +kernel
theorem dX8_maximalChains_79 : decode cX8_maximalChains 79 = .ok (.getfield 28, 3) := by decide +kernel
theorem dX8_maximalChains_82 : decode cX8_maximalChains 82 = .ok (.iload 5, 2) := by decide +kernel
theorem dX8_maximalChains_84 : decode cX8_maximalChains 84 = .ok (.dup2, 1) := by decide +kernel
theorem dX8_maximalChains_85 : decode cX8_maximalChains 85 = .ok (.laload, 1) := by decide +kernel
theorem dX8_maximalChains_86 : decode cX8_maximalChains 86 = .ok (.aload_n 0, 1) := by decide +kernel
theorem dX8_maximalChains_87 : decode cX8_maximalChains 87 = .ok (.getfield 28, 3) := by decide +kernel
theorem dX8_maximalChains_90 : decode cX8_maximalChains 90 = .ok (.iload 6, 2) := by decide +kernel
theorem dX8_maximalChains_92 : decode cX8_maximalChains 92 = .ok (.laload, 1) := by decide +kernel
theorem dX8_maximalChains_93 : decode cX8_maximalChains 93 = .ok (.lconst 0, 1) := by decide +kernel
theorem dX8_maximalChains_94 : decode cX8_maximalChains 94 = .ok (.lcmp, 1) := by decide +kernel
theorem dX8_maximalChains_95 : decode cX8_maximalChains 95 = .ok (.ifCond .eq 24, 3) := by decide +kernel
theorem dX8_maximalChains_98 : decode cX8_maximalChains 98 = .ok (.aload_n 0, 1) := by decide +kernel
theorem dX8_maximalChains_99 : decode cX8_maximalChains 99 = .ok (.iload 6, 2) := by decide +kernel
theorem dX8_maximalChains_101 : decode cX8_maximalChains 101 = .ok (.iload 5, 2) := by decide +kernel
theorem dX8_maximalChains_103 : decode cX8_maximalChains 103 = .ok (.invokevirtual 172, 3) := by decide +kernel
theorem dX8_maximalChains_106 : decode cX8_maximalChains 106 = .ok (.ifCond .eq 13, 3) := by decide +kernel
theorem dX8_maximalChains_109 : decode cX8_maximalChains 109 = .ok (.aload_n 0, 1) := by decide +kernel
theorem dX8_maximalChains_110 : decode cX8_maximalChains 110 = .ok (.getfield 28, 3) := by decide +kernel
theorem dX8_maximalChains_113 : decode cX8_maximalChains 113 = .ok (.iload 6, 2) := by decide +kernel
theorem dX8_maximalChains_115 : decode cX8_maximalChains 115 = .ok (.laload, 1) := by decide +kernel
theorem dX8_maximalChains_116 : decode cX8_maximalChains 116 = .ok (.goto 4, 3) := by decide +kernel
theorem dX8_maximalChains_119 : decode cX8_maximalChains 119 = .ok (.lconst 0, 1) := by decide +kernel
theorem dX8_maximalChains_120 : decode cX8_maximalChains 120 = .ok (.ladd, 1) := by decide +kernel
theorem dX8_maximalChains_121 : decode cX8_maximalChains 121 = .ok (.lastore, 1) := by decide +kernel
theorem dX8_maximalChains_122 : decode cX8_maximalChains 122 = .ok (.iinc 6 1, 3) := by decide +kernel
theorem dX8_maximalChains_125 : decode cX8_maximalChains 125 = .ok (.goto (-77), 3) := by decide +kernel
theorem dX8_maximalChains_128 : decode cX8_maximalChains 128 = .ok (.iinc 5 1, 3) := by decide +kernel
theorem dX8_maximalChains_131 : decode cX8_maximalChains 131 = .ok (.goto (-95), 3) := by decide +kernel
theorem dX8_maximalChains_134 : decode cX8_maximalChains 134 = .ok (.iinc 4 1, 3) := by decide +kernel
theorem dX8_maximalChains_137 : decode cX8_maximalChains 137 = .ok (.goto (-111), 3) := by decide +kernel
theorem dX8_maximalChains_140 : decode cX8_maximalChains 140 = .ok (.aload_n 0, 1) := by decide +kernel
theorem dX8_maximalChains_141 : decode cX8_maximalChains 141 = .ok (.getfield 28, 3) := by decide +kernel
theorem dX8_maximalChains_144 : decode cX8_maximalChains 144 = .ok (.aload_n 0, 1) := by decide +kernel
theorem dX8_maximalChains_145 : decode cX8_maximalChains 145 = .ok (.iload_n 2, 1) := by decide +kernel
theorem dX8_maximalChains_146 : decode cX8_maximalChains 146 = .ok (.invokevirtual 128, 3) := by decide +kernel
theorem dX8_maximalChains_149 : decode cX8_maximalChains 149 = .ok (.laload, 1) := by decide +kernel
theorem dX8_maximalChains_150 : decode cX8_maximalChains 150 = .ok (.lreturn, 1) := by decide +kernel
theorem dX8_height_0 : decode cX8_height 0 = .ok (.aload_n 0, 1) := by decide +kernel
theorem dX8_height_1 : decode cX8_height 1 = .ok (.iload_n 1, 1) := by decide +kernel
theorem dX8_height_2 : decode cX8_height 2 = .ok (.iload_n 2, 1) := by decide +kernel
theorem dX8_height_3 : decode cX8_height 3 = .ok (.invokevirtual 191, 3) := by decide +kernel
theorem dX8_height_6 : decode cX8_height 6 = .ok (.istore_n 3, 1) := by decide +kernel
theorem dX8_height_7 : decode cX8_height 7 = .ok (.iload_n 3, 1) := by decide +kernel
theorem dX8_height_8 : decode cX8_height 8 = .ok (.ifCond .eq 5, 3) := by decide +kernel
theorem dX8_height_11 : decode cX8_height 11 = .ok (.iload_n 3, 1) := by decide +kernel
theorem dX8_height_12 : decode cX8_height 12 = .ok (.ireturn, 1) := by decide +kernel
theorem dX8_height_13 : decode cX8_height 13 = .ok (.aload_n 0, 1) := by decide +kernel
theorem dX8_height_14 : decode cX8_height 14 = .ok (.aload_n 0, 1) := by decide +kernel
theorem dX8_height_15 : decode cX8_height 15 = .ok (.iload_n 1, 1) := by decide +kernel
theorem dX8_height_16 : decode cX8_height 16 = .ok (.invokevirtual 128, 3) := by decide +kernel
theorem dX8_height_19 : decode cX8_height 19 = .ok (.invokevirtual 201, 3) := by decide +kernel
theorem dX8_height_22 : decode cX8_height 22 = .ok (.bipush (-9), 2) := by decide +kernel
theorem dX8_height_24 : decode cX8_height 24 = .ok (.istore 4, 2) := by decide +kernel
theorem dX8_height_26 : decode cX8_height 26 = .ok (.iconst 0, 1) := by decide +kernel
theorem dX8_height_27 : decode cX8_height 27 = .ok (.istore 5, 2) := by decide +kernel
theorem dX8_height_29 : decode cX8_height 29 = .ok (.iload 5, 2) := by decide +kernel
theorem dX8_height_31 : decode cX8_height 31 = .ok (.bipush 6, 2) := by decide +kernel
theorem dX8_height_33 : decode cX8_height 33 = .ok (.if_icmp .ge 37, 3) := by decide +kernel
theorem dX8_height_36 : decode cX8_height 36 = .ok (.aload_n 0, 1) := by decide +kernel
theorem dX8_height_37 : decode cX8_height 37 = .ok (.getfield 28, 3) := by decide +kernel
theorem dX8_height_40 : decode cX8_height 40 = .ok (.aload_n 0, 1) := by decide +kernel
theorem dX8_height_41 : decode cX8_height 41 = .ok (.iload_n 2, 1) := by decide +kernel
theorem dX8_height_42 : decode cX8_height 42 = .ok (.invokevirtual 128, 3) := by decide +kernel
theorem dX8_height_45 : decode cX8_height 45 = .ok (.laload, 1) := by decide +kernel
theorem dX8_height_46 : decode cX8_height 46 = .ok (.lconst 0, 1) := by decide +kernel
theorem dX8_height_47 : decode cX8_height 47 = .ok (.lcmp, 1) := by decide +kernel
theorem dX8_height_48 : decode cX8_height 48 = .ok (.ifCond .eq 8, 3) := by decide +kernel
theorem dX8_height_51 : decode cX8_height 51 = .ok (.iload 5, 2) := by decide +kernel
theorem dX8_height_53 : decode cX8_height 53 = .ok (.goto 5, 3) := by decide +kernel
theorem dX8_height_56 : decode cX8_height 56 = .ok (.iload 4, 2) := by decide +kernel
theorem dX8_height_58 : decode cX8_height 58 = .ok (.istore 4, 2) := by decide +kernel
theorem dX8_height_60 : decode cX8_height 60 = .ok (.aload_n 0, 1) := by decide +kernel
theorem dX8_height_61 : decode cX8_height 61 = .ok (.invokevirtual 204, 3) := by decide +kernel
theorem dX8_height_64 : decode cX8_height 64 = .ok (.iinc 5 1, 3) := by decide +kernel
theorem dX8_height_67 : decode cX8_height 67 = .ok (.goto (-38), 3) := by decide +kernel
theorem dX8_height_70 : decode cX8_height 70 = .ok (.iload 4, 2) := by decide +kernel
theorem dX8_height_72 : decode cX8_height 72 = .ok (.ireturn, 1) := by decide +kernel
theorem dX8_power_0 : decode cX8_power 0 = .ok (.lconst 1, 1) := by decide +kernel
theorem dX8_power_1 : decode cX8_power 1 = .ok (.lstore_n 2, 1) := by decide +kernel
theorem dX8_power_2 : decode cX8_power 2 = .ok (.iconst 0, 1) := by decide +kernel
theorem dX8_power_3 : decode cX8_power 3 = .ok (.istore 4, 2) := by decide +kernel
theorem dX8_power_5 : decode cX8_power 5 = .ok (.iload 4, 2) := by decide +kernel
theorem dX8_power_7 : decode cX8_power 7 = .ok (.iload_n 1, 1) := by decide +kernel
theorem dX8_power_8 : decode cX8_power 8 = .ok (.if_icmp .ge 14, 3) := by decide +kernel
theorem dX8_power_11 : decode cX8_power 11 = .ok (.lload_n 2, 1) := by decide +kernel
theorem dX8_power_12 : decode cX8_power 12 = .ok (.iload_n 0, 1) := by decide +kernel
theorem dX8_power_13 : decode cX8_power 13 = .ok (.i2l, 1) := by decide +kernel
theorem dX8_power_14 : decode cX8_power 14 = .ok (.lmul, 1) := by decide +kernel
theorem dX8_power_15 : decode cX8_power 15 = .ok (.lstore_n 2, 1) := by decide +kernel
theorem dX8_power_16 : decode cX8_power 16 = .ok (.iinc 4 1, 3) := by decide +kernel
theorem dX8_power_19 : decode cX8_power 19 = .ok (.goto (-14), 3) := by decide +kernel
theorem dX8_power_22 : decode cX8_power 22 = .ok (.lload_n 2, 1) := by decide +kernel
theorem dX8_power_23 : decode cX8_power 23 = .ok (.lreturn, 1) := by decide +kernel
theorem dX8_isBase_0 : decode cX8_isBase 0 = .ok (.iload_n 0, 1) := by decide +kernel
theorem dX8_isBase_1 : decode cX8_isBase 1 = .ok (.bipush (-9), 2) := by decide +kernel
theorem dX8_isBase_3 : decode cX8_isBase 3 = .ok (.bipush 9, 2) := by decide +kernel
theorem dX8_isBase_5 : decode cX8_isBase 5 = .ok (.invokestatic 96, 3) := by decide +kernel
theorem dX8_isBase_8 : decode cX8_isBase 8 = .ok (.ireturn, 1) := by decide +kernel
theorem dX8_rankSum_0 : decode cX8_rankSum 0 = .ok (.iload_n 3, 1) := by decide +kernel
theorem dX8_rankSum_1 : decode cX8_rankSum 1 = .ok (.invokestatic 207, 3) := by decide +kernel
theorem dX8_rankSum_4 : decode cX8_rankSum 4 = .ok (.ifCond .eq 12, 3) := by decide +kernel
theorem dX8_rankSum_7 : decode cX8_rankSum 7 = .ok (.aload_n 0, 1) := by decide +kernel
theorem dX8_rankSum_8 : decode cX8_rankSum 8 = .ok (.iload_n 1, 1) := by decide +kernel
theorem dX8_rankSum_9 : decode cX8_rankSum 9 = .ok (.iload_n 2, 1) := by decide +kernel
theorem dX8_rankSum_10 : decode cX8_rankSum 10 = .ok (.invokevirtual 134, 3) := by decide +kernel
theorem dX8_rankSum_13 : decode cX8_rankSum 13 = .ok (.goto 4, 3) := by decide +kernel
theorem dX8_rankSum_16 : decode cX8_rankSum 16 = .ok (.iconst (-1), 1) := by decide +kernel
theorem dX8_rankSum_17 : decode cX8_rankSum 17 = .ok (.istore 4, 2) := by decide +kernel
theorem dX8_rankSum_19 : decode cX8_rankSum 19 = .ok (.iload 4, 2) := by decide +kernel
theorem dX8_rankSum_21 : decode cX8_rankSum 21 = .ok (.ifCond .eq 11, 3) := by decide +kernel
theorem dX8_rankSum_24 : decode cX8_rankSum 24 = .ok (.ldc2_w 194, 3) := by decide +kernel
theorem dX8_rankSum_27 : decode cX8_rankSum 27 = .ok (.iload 4, 2) := by decide +kernel
theorem dX8_rankSum_29 : decode cX8_rankSum 29 = .ok (.i2l, 1) := by decide +kernel
theorem dX8_rankSum_30 : decode cX8_rankSum 30 = .ok (.ladd, 1) := by decide +kernel
theorem dX8_rankSum_31 : decode cX8_rankSum 31 = .ok (.lreturn, 1) := by decide +kernel
theorem dX8_rankSum_32 : decode cX8_rankSum 32 = .ok (.lconst 0, 1) := by decide +kernel
theorem dX8_rankSum_33 : decode cX8_rankSum 33 = .ok (.lstore 5, 2) := by decide +kernel
theorem dX8_rankSum_35 : decode cX8_rankSum 35 = .ok (.iconst 0, 1) := by decide +kernel
theorem dX8_rankSum_36 : decode cX8_rankSum 36 = .ok (.istore 7, 2) := by decide +kernel
theorem dX8_rankSum_38 : decode cX8_rankSum 38 = .ok (.iload 7, 2) := by decide +kernel
theorem dX8_rankSum_40 : decode cX8_rankSum 40 = .ok (.aload_n 0, 1) := by decide +kernel
theorem dX8_rankSum_41 : decode cX8_rankSum 41 = .ok (.getfield 52, 3) := by decide +kernel
theorem dX8_rankSum_44 : decode cX8_rankSum 44 = .ok (.if_icmp .ge 57, 3) := by decide +kernel
theorem dX8_rankSum_47 : decode cX8_rankSum 47 = .ok (.lload 5, 2) := by decide +kernel
theorem dX8_rankSum_49 : decode cX8_rankSum 49 = .ok (.aload_n 0, 1) := by decide +kernel
theorem dX8_rankSum_50 : decode cX8_rankSum 50 = .ok (.iload 7, 2) := by decide +kernel
theorem dX8_rankSum_52 : decode cX8_rankSum 52 = .ok (.aload_n 0, 1) := by decide +kernel
theorem dX8_rankSum_53 : decode cX8_rankSum 53 = .ok (.iload_n 1, 1) := by decide +kernel
theorem dX8_rankSum_54 : decode cX8_rankSum 54 = .ok (.invokevirtual 128, 3) := by decide +kernel
theorem dX8_rankSum_57 : decode cX8_rankSum 57 = .ok (.aload_n 0, 1) := by decide +kernel
theorem dX8_rankSum_58 : decode cX8_rankSum 58 = .ok (.iload_n 2, 1) := by decide +kernel
theorem dX8_rankSum_59 : decode cX8_rankSum 59 = .ok (.invokevirtual 128, 3) := by decide +kernel
theorem dX8_rankSum_62 : decode cX8_rankSum 62 = .ok (.invokevirtual 185, 3) := by decide +kernel
theorem dX8_rankSum_65 : decode cX8_rankSum 65 = .ok (.ifCond .eq 26, 3) := by decide +kernel
theorem dX8_rankSum_68 : decode cX8_rankSum 68 = .ok (.iload_n 3, 1) := by decide +kernel
theorem dX8_rankSum_69 : decode cX8_rankSum 69 = .ok (.aload_n 0, 1) := by decide +kernel
theorem dX8_rankSum_70 : decode cX8_rankSum 70 = .ok (.iload 7, 2) := by decide +kernel
theorem dX8_rankSum_72 : decode cX8_rankSum 72 = .ok (.invokevirtual 188, 3) := by decide +kernel
theorem dX8_rankSum_75 : decode cX8_rankSum 75 = .ok (.aload_n 0, 1) := by decide +kernel
theorem dX8_rankSum_76 : decode cX8_rankSum 76 = .ok (.aload_n 0, 1) := by decide +kernel
theorem dX8_rankSum_77 : decode cX8_rankSum 77 = .ok (.iload_n 1, 1) := by decide +kernel
theorem dX8_rankSum_78 : decode cX8_rankSum 78 = .ok (.invokevirtual 128, 3) := by decide +kernel
theorem dX8_rankSum_81 : decode cX8_rankSum 81 = .ok (.invokevirtual 188, 3) := by decide +kernel
theorem dX8_rankSum_84 : decode cX8_rankSum 84 = .ok (.isub, 1) := by decide +kernel
theorem dX8_rankSum_85 : decode cX8_rankSum 85 = .ok (.invokestatic 210, 3) := by decide +kernel
theorem dX8_rankSum_88 : decode cX8_rankSum 88 = .ok (.goto 4, 3) := by decide +kernel
theorem dX8_rankSum_91 : decode cX8_rankSum 91 = .ok (.lconst 0, 1) := by decide +kernel
theorem dX8_rankSum_92 : decode cX8_rankSum 92 = .ok (.ladd, 1) := by decide +kernel
theorem dX8_rankSum_93 : decode cX8_rankSum 93 = .ok (.lstore 5, 2) := by decide +kernel
theorem dX8_rankSum_95 : decode cX8_rankSum 95 = .ok (.iinc 7 1, 3) := by decide +kernel
theorem dX8_rankSum_98 : decode cX8_rankSum 98 = .ok (.goto (-60), 3) := by decide +kernel
theorem dX8_rankSum_101 : decode cX8_rankSum 101 = .ok (.lload 5, 2) := by decide +kernel
theorem dX8_rankSum_103 : decode cX8_rankSum 103 = .ok (.lreturn, 1) := by decide +kernel
theorem dX8_characteristic_0 : decode cX8_characteristic 0 = .ok (.iload_n 3, 1) := by decide +kernel
theorem dX8_characteristic_1 : decode cX8_characteristic 1 = .ok (.invokestatic 207, 3) := by decide +kernel
theorem dX8_characteristic_4 : decode cX8_characteristic 4 = .ok (.ifCond .eq 12, 3) := by decide +kernel
theorem dX8_characteristic_7 : decode cX8_characteristic 7 = .ok (.aload_n 0, 1) := by decide +kernel
theorem dX8_characteristic_8 : decode cX8_characteristic 8 = .ok (.iload_n 1, 1) := by decide +kernel
theorem dX8_characteristic_9 : decode cX8_characteristic 9 = .ok (.iload_n 2, 1) := by decide +kernel
theorem dX8_characteristic_10 : decode cX8_characteristic 10 = .ok (.invokevirtual 134, 3) := by decide +kernel
theorem dX8_characteristic_13 : decode cX8_characteristic 13 = .ok (.goto 4, 3) := by decide +kernel
theorem dX8_characteristic_16 : decode cX8_characteristic 16 = .ok (.iconst (-1), 1) := by decide +kernel
theorem dX8_characteristic_17 : decode cX8_characteristic 17 = .ok (.istore 4, 2) := by decide +kernel
theorem dX8_characteristic_19 : decode cX8_characteristic 19 = .ok (.iload 4, 2) := by decide +kernel
theorem dX8_characteristic_21 : decode cX8_characteristic 21 = .ok (.ifCond .ne 20, 3) := by decide +kernel
theorem dX8_characteristic_24 : decode cX8_characteristic 24 = .ok (.aload_n 0, 1) := by decide +kernel
theorem dX8_characteristic_25 : decode cX8_characteristic 25 = .ok (.aload_n 0, 1) := by decide +kernel
theorem dX8_characteristic_26 : decode cX8_characteristic 26 = .ok (.iload_n 1, 1) := by decide +kernel
theorem dX8_characteristic_27 : decode cX8_characteristic 27 = .ok (.invokevirtual 128, 3) := by decide +kernel
theorem dX8_characteristic_30 : decode cX8_characteristic 30 = .ok (.invokevirtual 150, 3) := by decide +kernel
theorem dX8_characteristic_33 : decode cX8_characteristic 33 = .ok (.ifCond .ne 8, 3) := by decide +kernel
theorem dX8_characteristic_36 : decode cX8_characteristic 36 = .ok (.bipush (-3), 2) := by decide +kernel
theorem dX8_characteristic_38 : decode cX8_characteristic 38 = .ok (.goto 5, 3) := by decide +kernel
theorem dX8_characteristic_41 : decode cX8_characteristic 41 = .ok (.iload 4, 2) := by decide +kernel
theorem dX8_characteristic_43 : decode cX8_characteristic 43 = .ok (.istore 4, 2) := by decide +kernel
theorem dX8_characteristic_45 : decode cX8_characteristic 45 = .ok (.iload 4, 2) := by decide +kernel
theorem dX8_characteristic_47 : decode cX8_characteristic 47 = .ok (.ifCond .eq 11, 3) := by decide +kernel
theorem dX8_characteristic_50 : decode cX8_characteristic 50 = .ok (.ldc2_w 194, 3) := by decide +kernel
theorem dX8_characteristic_53 : decode cX8_characteristic 53 = .ok (.iload 4, 2) := by decide +kernel
theorem dX8_characteristic_55 : decode cX8_characteristic 55 = .ok (.i2l, 1) := by decide +kernel
theorem dX8_characteristic_56 : decode cX8_characteristic 56 = .ok (.ladd, 1) := by decide +kernel
theorem dX8_characteristic_57 : decode cX8_characteristic 57 = .ok (.lreturn, 1) := by decide +kernel
theorem dX8_characteristic_58 : decode cX8_characteristic 58 = .ok (.aload_n 0, 1) := by decide +kernel
theorem dX8_characteristic_59 : decode cX8_characteristic 59 = .ok (.aload_n 0, 1) := by decide +kernel
theorem dX8_characteristic_60 : decode cX8_characteristic 60 = .ok (.iload_n 1, 1) := by decide +kernel
theorem dX8_characteristic_61 : decode cX8_characteristic 61 = .ok (.invokevirtual 128, 3) := by decide +kernel
theorem dX8_characteristic_64 : decode cX8_characteristic 64 = .ok (.aload_n 0, 1) := by decide +kernel
theorem dX8_characteristic_65 : decode cX8_characteristic 65 = .ok (.iload_n 2, 1) := by decide +kernel
theorem dX8_characteristic_66 : decode cX8_characteristic 66 = .ok (.invokevirtual 128, 3) := by decide +kernel
theorem dX8_characteristic_69 : decode cX8_characteristic 69 = .ok (.invokevirtual 196, 3) := by decide +kernel
theorem dX8_characteristic_72 : decode cX8_characteristic 72 = .ok (.lconst 0, 1) := by decide +kernel
theorem dX8_characteristic_73 : decode cX8_characteristic 73 = .ok (.lstore 5, 2) := by decide +kernel
theorem dX8_characteristic_75 : decode cX8_characteristic 75 = .ok (.iconst 0, 1) := by decide +kernel
theorem dX8_characteristic_76 : decode cX8_characteristic 76 = .ok (.istore 7, 2) := by decide +kernel
theorem dX8_characteristic_78 : decode cX8_characteristic 78 = .ok (.iload 7, 2) := by decide +kernel
theorem dX8_characteristic_80 : decode cX8_characteristic 80 = .ok (.aload_n 0, 1) := by decide +kernel
theorem dX8_characteristic_81 : decode cX8_characteristic 81 = .ok (.getfield 52, 3) := by decide +kernel
theorem dX8_characteristic_84 : decode cX8_characteristic 84 = .ok (.if_icmp .ge 65, 3) := by decide +kernel
theorem dX8_characteristic_87 : decode cX8_characteristic 87 = .ok (.lload 5, 2) := by decide +kernel
theorem dX8_characteristic_89 : decode cX8_characteristic 89 = .ok (.aload_n 0, 1) := by decide +kernel
theorem dX8_characteristic_90 : decode cX8_characteristic 90 = .ok (.iload 7, 2) := by decide +kernel
theorem dX8_characteristic_92 : decode cX8_characteristic 92 = .ok (.aload_n 0, 1) := by decide +kernel
theorem dX8_characteristic_93 : decode cX8_characteristic 93 = .ok (.iload_n 1, 1) := by decide +kernel
theorem dX8_characteristic_94 : decode cX8_characteristic 94 = .ok (.invokevirtual 128, 3) := by decide +kernel
theorem dX8_characteristic_97 : decode cX8_characteristic 97 = .ok (.aload_n 0, 1) := by decide +kernel
theorem dX8_characteristic_98 : decode cX8_characteristic 98 = .ok (.iload_n 2, 1) := by decide +kernel
theorem dX8_characteristic_99 : decode cX8_characteristic 99 = .ok (.invokevirtual 128, 3) := by decide +kernel
theorem dX8_characteristic_102 : decode cX8_characteristic 102 = .ok (.invokevirtual 185, 3) := by decide +kernel
theorem dX8_characteristic_105 : decode cX8_characteristic 105 = .ok (.ifCond .eq 34, 3) := by decide +kernel
theorem dX8_characteristic_108 : decode cX8_characteristic 108 = .ok (.aload_n 0, 1) := by decide +kernel
theorem dX8_characteristic_109 : decode cX8_characteristic 109 = .ok (.getfield 28, 3) := by decide +kernel
theorem dX8_characteristic_112 : decode cX8_characteristic 112 = .ok (.iload 7, 2) := by decide +kernel
theorem dX8_characteristic_114 : decode cX8_characteristic 114 = .ok (.laload, 1) := by decide +kernel
theorem dX8_characteristic_115 : decode cX8_characteristic 115 = .ok (.iload_n 3, 1) := by decide +kernel
theorem dX8_characteristic_116 : decode cX8_characteristic 116 = .ok (.aload_n 0, 1) := by decide +kernel
theorem dX8_characteristic_117 : decode cX8_characteristic 117 = .ok (.aload_n 0, 1) := by decide +kernel
theorem dX8_characteristic_118 : decode cX8_characteristic 118 = .ok (.iload_n 2, 1) := by decide +kernel
theorem dX8_characteristic_119 : decode cX8_characteristic 119 = .ok (.invokevirtual 128, 3) := by decide +kernel
theorem dX8_characteristic_122 : decode cX8_characteristic 122 = .ok (.invokevirtual 188, 3) := by decide +kernel
theorem dX8_characteristic_125 : decode cX8_characteristic 125 = .ok (.aload_n 0, 1) := by decide +kernel
theorem dX8_characteristic_126 : decode cX8_characteristic 126 = .ok (.iload 7, 2) := by decide +kernel
theorem dX8_characteristic_128 : decode cX8_characteristic 128 = .ok (.invokevirtual 188, 3) := by decide +kernel
theorem dX8_characteristic_131 : decode cX8_characteristic 131 = .ok (.isub, 1) := by decide +kernel
theorem dX8_characteristic_132 : decode cX8_characteristic 132 = .ok (.invokestatic 210, 3) := by decide +kernel
theorem dX8_characteristic_135 : decode cX8_characteristic 135 = .ok (.lmul, 1) := by decide +kernel
theorem dX8_characteristic_136 : decode cX8_characteristic 136 = .ok (.goto 4, 3) := by decide +kernel
theorem dX8_characteristic_139 : decode cX8_characteristic 139 = .ok (.lconst 0, 1) := by decide +kernel
theorem dX8_characteristic_140 : decode cX8_characteristic 140 = .ok (.ladd, 1) := by decide +kernel
theorem dX8_characteristic_141 : decode cX8_characteristic 141 = .ok (.lstore 5, 2) := by decide +kernel
theorem dX8_characteristic_143 : decode cX8_characteristic 143 = .ok (.iinc 7 1, 3) := by decide +kernel
theorem dX8_characteristic_146 : decode cX8_characteristic 146 = .ok (.goto (-68), 3) := by decide +kernel
theorem dX8_characteristic_149 : decode cX8_characteristic 149 = .ok (.lload 5, 2) := by decide +kernel
theorem dX8_characteristic_151 : decode cX8_characteristic 151 = .ok (.lreturn, 1) := by decide +kernel
theorem dX8_common_0 : decode cX8_common 0 = .ok (.iconst 0, 1) := by decide +kernel
theorem dX8_common_1 : decode cX8_common 1 = .ok (.istore 5, 2) := by decide +kernel
theorem dX8_common_3 : decode cX8_common 3 = .ok (.iconst 0, 1) := by decide +kernel
theorem dX8_common_4 : decode cX8_common 4 = .ok (.istore 6, 2) := by decide +kernel
theorem dX8_common_6 : decode cX8_common 6 = .ok (.iload 6, 2) := by decide +kernel
theorem dX8_common_8 : decode cX8_common 8 = .ok (.aload_n 0, 1) := by decide +kernel
theorem dX8_common_9 : decode cX8_common 9 = .ok (.getfield 7, 3) := by decide +kernel
theorem dX8_common_12 : decode cX8_common 12 = .ok (.iconst 0, 1) := by decide +kernel
theorem dX8_common_13 : decode cX8_common 13 = .ok (.iaload, 1) := by decide +kernel
theorem dX8_common_14 : decode cX8_common 14 = .ok (.if_icmp .ge 42, 3) := by decide +kernel
theorem dX8_common_17 : decode cX8_common 17 = .ok (.iload 5, 2) := by decide +kernel
theorem dX8_common_19 : decode cX8_common 19 = .ok (.aload_n 0, 1) := by decide +kernel
theorem dX8_common_20 : decode cX8_common 20 = .ok (.iload_n 1, 1) := by decide +kernel
theorem dX8_common_21 : decode cX8_common 21 = .ok (.iload 6, 2) := by decide +kernel
theorem dX8_common_23 : decode cX8_common 23 = .ok (.invokevirtual 65, 3) := by decide +kernel
theorem dX8_common_26 : decode cX8_common 26 = .ok (.iload_n 2, 1) := by decide +kernel
theorem dX8_common_27 : decode cX8_common 27 = .ok (.if_icmp .ne 19, 3) := by decide +kernel
theorem dX8_common_30 : decode cX8_common 30 = .ok (.aload_n 0, 1) := by decide +kernel
theorem dX8_common_31 : decode cX8_common 31 = .ok (.iload_n 3, 1) := by decide +kernel
theorem dX8_common_32 : decode cX8_common 32 = .ok (.iload 6, 2) := by decide +kernel
theorem dX8_common_34 : decode cX8_common 34 = .ok (.invokevirtual 65, 3) := by decide +kernel
theorem dX8_common_37 : decode cX8_common 37 = .ok (.iload 4, 2) := by decide +kernel
theorem dX8_common_39 : decode cX8_common 39 = .ok (.if_icmp .ne 7, 3) := by decide +kernel
theorem dX8_common_42 : decode cX8_common 42 = .ok (.iconst 1, 1) := by decide +kernel
theorem dX8_common_43 : decode cX8_common 43 = .ok (.goto 4, 3) := by decide +kernel
theorem dX8_common_46 : decode cX8_common 46 = .ok (.iconst 0, 1) := by decide +kernel
theorem dX8_common_47 : decode cX8_common 47 = .ok (.iadd, 1) := by decide +kernel
theorem dX8_common_48 : decode cX8_common 48 = .ok (.istore 5, 2) := by decide +kernel
theorem dX8_common_50 : decode cX8_common 50 = .ok (.iinc 6 1, 3) := by decide +kernel
theorem dX8_common_53 : decode cX8_common 53 = .ok (.goto (-47), 3) := by decide +kernel
theorem dX8_common_56 : decode cX8_common 56 = .ok (.iload 5, 2) := by decide +kernel
theorem dX8_common_58 : decode cX8_common 58 = .ok (.ireturn, 1) := by decide +kernel
theorem dX8_most_0 : decode cX8_most 0 = .ok (.iconst 1, 1) := by decide +kernel
theorem dX8_most_1 : decode cX8_most 1 = .ok (.aload_n 0, 1) := by decide +kernel
theorem dX8_most_2 : decode cX8_most 2 = .ok (.getfield 19, 3) := by decide +kernel
theorem dX8_most_5 : decode cX8_most 5 = .ok (.iload_n 2, 1) := by decide +kernel
theorem dX8_most_6 : decode cX8_most 6 = .ok (.iaload, 1) := by decide +kernel
theorem dX8_most_7 : decode cX8_most 7 = .ok (.ishl, 1) := by decide +kernel
theorem dX8_most_8 : decode cX8_most 8 = .ok (.istore_n 3, 1) := by decide +kernel
theorem dX8_most_9 : decode cX8_most 9 = .ok (.iconst 0, 1) := by decide +kernel
theorem dX8_most_10 : decode cX8_most 10 = .ok (.istore 4, 2) := by decide +kernel
theorem dX8_most_12 : decode cX8_most 12 = .ok (.iload 4, 2) := by decide +kernel
theorem dX8_most_14 : decode cX8_most 14 = .ok (.iload_n 3, 1) := by decide +kernel
theorem dX8_most_15 : decode cX8_most 15 = .ok (.if_icmp .ge 17, 3) := by decide +kernel
theorem dX8_most_18 : decode cX8_most 18 = .ok (.aload_n 0, 1) := by decide +kernel
theorem dX8_most_19 : decode cX8_most 19 = .ok (.getfield 35, 3) := by decide +kernel
theorem dX8_most_22 : decode cX8_most 22 = .ok (.iload 4, 2) := by decide +kernel
theorem dX8_most_24 : decode cX8_most 24 = .ok (.iconst 0, 1) := by decide +kernel
theorem dX8_most_25 : decode cX8_most 25 = .ok (.iastore, 1) := by decide +kernel
theorem dX8_most_26 : decode cX8_most 26 = .ok (.iinc 4 1, 3) := by decide +kernel
theorem dX8_most_29 : decode cX8_most 29 = .ok (.goto (-17), 3) := by decide +kernel
theorem dX8_most_32 : decode cX8_most 32 = .ok (.iconst 0, 1) := by decide +kernel
theorem dX8_most_33 : decode cX8_most 33 = .ok (.istore 4, 2) := by decide +kernel
theorem dX8_most_35 : decode cX8_most 35 = .ok (.iload 4, 2) := by decide +kernel
theorem dX8_most_37 : decode cX8_most 37 = .ok (.aload_n 0, 1) := by decide +kernel
theorem dX8_most_38 : decode cX8_most 38 = .ok (.getfield 19, 3) := by decide +kernel
theorem dX8_most_41 : decode cX8_most 41 = .ok (.iload_n 1, 1) := by decide +kernel
theorem dX8_most_42 : decode cX8_most 42 = .ok (.iaload, 1) := by decide +kernel
theorem dX8_most_43 : decode cX8_most 43 = .ok (.if_icmp .ge 114, 3) := by decide +kernel
theorem dX8_most_46 : decode cX8_most 46 = .ok (.iload_n 3, 1) := by decide +kernel
theorem dX8_most_47 : decode cX8_most 47 = .ok (.iconst 1, 1) := by decide +kernel
theorem dX8_most_48 : decode cX8_most 48 = .ok (.isub, 1) := by decide +kernel
theorem dX8_most_49 : decode cX8_most 49 = .ok (.istore 5, 2) := by decide +kernel
theorem dX8_most_51 : decode cX8_most 51 = .ok (.iload 5, 2) := by decide +kernel
theorem dX8_most_53 : decode cX8_most 53 = .ok (.ifCond .le 98, 3) := by decide +kernel
theorem dX8_most_56 : decode cX8_most 56 = .ok (.iconst 0, 1) := by decide +kernel
theorem dX8_most_57 : decode cX8_most 57 = .ok (.istore 6, 2) := by decide +kernel
theorem dX8_most_59 : decode cX8_most 59 = .ok (.iload 6, 2) := by decide +kernel
theorem dX8_most_61 : decode cX8_most 61 = .ok (.aload_n 0, 1) := by decide +kernel
theorem dX8_most_62 : decode cX8_most 62 = .ok (.getfield 19, 3) := by decide +kernel
theorem dX8_most_65 : decode cX8_most 65 = .ok (.iload_n 2, 1) := by decide +kernel
theorem dX8_most_66 : decode cX8_most 66 = .ok (.iaload, 1) := by decide +kernel
theorem dX8_most_67 : decode cX8_most 67 = .ok (.if_icmp .ge 78, 3) := by decide +kernel
theorem dX8_most_70 : decode cX8_most 70 = .ok (.iload 5, 2) := by decide +kernel
theorem dX8_most_72 : decode cX8_most 72 = .ok (.iload 6, 2) := by decide +kernel
theorem dX8_most_74 : decode cX8_most 74 = .ok (.ishr, 1) := by decide +kernel
theorem dX8_most_75 : decode cX8_most 75 = .ok (.iconst 1, 1) := by decide +kernel
theorem dX8_most_76 : decode cX8_most 76 = .ok (.iand, 1) := by decide +kernel
theorem dX8_most_77 : decode cX8_most 77 = .ok (.iconst 1, 1) := by decide +kernel
theorem dX8_most_78 : decode cX8_most 78 = .ok (.if_icmp .ne 61, 3) := by decide +kernel
theorem dX8_most_81 : decode cX8_most 81 = .ok (.aload_n 0, 1) := by decide +kernel
theorem dX8_most_82 : decode cX8_most 82 = .ok (.getfield 35, 3) := by decide +kernel
theorem dX8_most_85 : decode cX8_most 85 = .ok (.iload 5, 2) := by decide +kernel
theorem dX8_most_87 : decode cX8_most 87 = .ok (.iconst 1, 1) := by decide +kernel
theorem dX8_most_88 : decode cX8_most 88 = .ok (.iload 6, 2) := by decide +kernel
theorem dX8_most_90 : decode cX8_most 90 = .ok (.ishl, 1) := by decide +kernel
theorem dX8_most_91 : decode cX8_most 91 = .ok (.iconst (-1), 1) := by decide +kernel
theorem dX8_most_92 : decode cX8_most 92 = .ok (.ixor, 1) := by decide +kernel
theorem dX8_most_93 : decode cX8_most 93 = .ok (.iand, 1) := by decide +kernel
theorem dX8_most_94 : decode cX8_most 94 = .ok (.iaload, 1) := by decide +kernel
theorem dX8_most_95 : decode cX8_most 95 = .ok (.aload_n 0, 1) := by decide +kernel
theorem dX8_most_96 : decode cX8_most 96 = .ok (.iload_n 1, 1) := by decide +kernel
theorem dX8_most_97 : decode cX8_most 97 = .ok (.iload 4, 2) := by decide +kernel
theorem dX8_most_99 : decode cX8_most 99 = .ok (.iload_n 2, 1) := by decide +kernel
theorem dX8_most_100 : decode cX8_most 100 = .ok (.iload 6, 2) := by decide +kernel
theorem dX8_most_102 : decode cX8_most 102 = .ok (.invokevirtual 214, 3) := by decide +kernel
theorem dX8_most_105 : decode cX8_most 105 = .ok (.iadd, 1) := by decide +kernel
theorem dX8_most_106 : decode cX8_most 106 = .ok (.istore 7, 2) := by decide +kernel
theorem dX8_most_108 : decode cX8_most 108 = .ok (.aload_n 0, 1) := by decide +kernel
theorem dX8_most_109 : decode cX8_most 109 = .ok (.getfield 35, 3) := by decide +kernel
theorem dX8_most_112 : decode cX8_most 112 = .ok (.iload 5, 2) := by decide +kernel
theorem dX8_most_114 : decode cX8_most 114 = .ok (.iload 7, 2) := by decide +kernel
theorem dX8_most_116 : decode cX8_most 116 = .ok (.aload_n 0, 1) := by decide +kernel
theorem dX8_most_117 : decode cX8_most 117 = .ok (.getfield 35, 3) := by decide +kernel
theorem dX8_most_120 : decode cX8_most 120 = .ok (.iload 5, 2) := by decide +kernel
theorem dX8_most_122 : decode cX8_most 122 = .ok (.iaload, 1) := by decide +kernel
theorem dX8_most_123 : decode cX8_most 123 = .ok (.if_icmp .le 8, 3) := by decide +kernel
theorem dX8_most_126 : decode cX8_most 126 = .ok (.iload 7, 2) := by decide +kernel
theorem dX8_most_128 : decode cX8_most 128 = .ok (.goto 10, 3) := by decide +kernel
theorem dX8_most_131 : decode cX8_most 131 = .ok (.aload_n 0, 1) := by decide +kernel
theorem dX8_most_132 : decode cX8_most 132 = .ok (.getfield 35, 3) := by decide +kernel
theorem dX8_most_135 : decode cX8_most 135 = .ok (.iload 5, 2) := by decide +kernel
theorem dX8_most_137 : decode cX8_most 137 = .ok (.iaload, 1) := by decide +kernel
theorem dX8_most_138 : decode cX8_most 138 = .ok (.iastore, 1) := by decide +kernel
theorem dX8_most_139 : decode cX8_most 139 = .ok (.iinc 6 1, 3) := by decide +kernel
theorem dX8_most_142 : decode cX8_most 142 = .ok (.goto (-83), 3) := by decide +kernel
theorem dX8_most_145 : decode cX8_most 145 = .ok (.iinc 5 (-1), 3) := by decide +kernel
theorem dX8_most_148 : decode cX8_most 148 = .ok (.goto (-97), 3) := by decide +kernel
theorem dX8_most_151 : decode cX8_most 151 = .ok (.iinc 4 1, 3) := by decide +kernel
theorem dX8_most_154 : decode cX8_most 154 = .ok (.goto (-119), 3) := by decide +kernel
theorem dX8_most_157 : decode cX8_most 157 = .ok (.aload_n 0, 1) := by decide +kernel
theorem dX8_most_158 : decode cX8_most 158 = .ok (.getfield 35, 3) := by decide +kernel
theorem dX8_most_161 : decode cX8_most 161 = .ok (.iload_n 3, 1) := by decide +kernel
theorem dX8_most_162 : decode cX8_most 162 = .ok (.iconst 1, 1) := by decide +kernel
theorem dX8_most_163 : decode cX8_most 163 = .ok (.isub, 1) := by decide +kernel
theorem dX8_most_164 : decode cX8_most 164 = .ok (.iaload, 1) := by decide +kernel
theorem dX8_most_165 : decode cX8_most 165 = .ok (.ireturn, 1) := by decide +kernel
theorem dX8_transfers_0 : decode cX8_transfers 0 = .ok (.aload_n 0, 1) := by decide +kernel
theorem dX8_transfers_1 : decode cX8_transfers 1 = .ok (.iload_n 1, 1) := by decide +kernel
theorem dX8_transfers_2 : decode cX8_transfers 2 = .ok (.iload_n 2, 1) := by decide +kernel
theorem dX8_transfers_3 : decode cX8_transfers 3 = .ok (.invokevirtual 134, 3) := by decide +kernel
theorem dX8_transfers_6 : decode cX8_transfers 6 = .ok (.istore_n 3, 1) := by decide +kernel
theorem dX8_transfers_7 : decode cX8_transfers 7 = .ok (.iload_n 3, 1) := by decide +kernel
theorem dX8_transfers_8 : decode cX8_transfers 8 = .ok (.ifCond .eq 7, 3) := by decide +kernel
theorem dX8_transfers_11 : decode cX8_transfers 11 = .ok (.iload_n 3, 1) := by decide +kernel
theorem dX8_transfers_12 : decode cX8_transfers 12 = .ok (.goto 24, 3) := by decide +kernel
theorem dX8_transfers_15 : decode cX8_transfers 15 = .ok (.aload_n 0, 1) := by decide +kernel
theorem dX8_transfers_16 : decode cX8_transfers 16 = .ok (.getfield 7, 3) := by decide +kernel
theorem dX8_transfers_19 : decode cX8_transfers 19 = .ok (.iconst 0, 1) := by decide +kernel
theorem dX8_transfers_20 : decode cX8_transfers 20 = .ok (.iaload, 1) := by decide +kernel
theorem dX8_transfers_21 : decode cX8_transfers 21 = .ok (.aload_n 0, 1) := by decide +kernel
theorem dX8_transfers_22 : decode cX8_transfers 22 = .ok (.aload_n 0, 1) := by decide +kernel
theorem dX8_transfers_23 : decode cX8_transfers 23 = .ok (.iload_n 1, 1) := by decide +kernel
theorem dX8_transfers_24 : decode cX8_transfers 24 = .ok (.invokevirtual 128, 3) := by decide +kernel
theorem dX8_transfers_27 : decode cX8_transfers 27 = .ok (.aload_n 0, 1) := by decide +kernel
theorem dX8_transfers_28 : decode cX8_transfers 28 = .ok (.iload_n 2, 1) := by decide +kernel
theorem dX8_transfers_29 : decode cX8_transfers 29 = .ok (.invokevirtual 128, 3) := by decide +kernel
theorem dX8_transfers_32 : decode cX8_transfers 32 = .ok (.invokevirtual 218, 3) := by decide +kernel
theorem dX8_transfers_35 : decode cX8_transfers 35 = .ok (.isub, 1) := by decide +kernel
theorem dX8_transfers_36 : decode cX8_transfers 36 = .ok (.ireturn, 1) := by decide +kernel
theorem dX8_unlike_0 : decode cX8_unlike 0 = .ok (.iconst 0, 1) := by decide +kernel
theorem dX8_unlike_1 : decode cX8_unlike 1 = .ok (.istore_n 3, 1) := by decide +kernel
theorem dX8_unlike_2 : decode cX8_unlike 2 = .ok (.iconst 0, 1) := by decide +kernel
theorem dX8_unlike_3 : decode cX8_unlike 3 = .ok (.istore 4, 2) := by decide +kernel
theorem dX8_unlike_5 : decode cX8_unlike 5 = .ok (.iload 4, 2) := by decide +kernel
theorem dX8_unlike_7 : decode cX8_unlike 7 = .ok (.aload_n 0, 1) := by decide +kernel
theorem dX8_unlike_8 : decode cX8_unlike 8 = .ok (.getfield 7, 3) := by decide +kernel
theorem dX8_unlike_11 : decode cX8_unlike 11 = .ok (.iconst 0, 1) := by decide +kernel
theorem dX8_unlike_12 : decode cX8_unlike 12 = .ok (.iaload, 1) := by decide +kernel
theorem dX8_unlike_13 : decode cX8_unlike 13 = .ok (.if_icmp .ge 80, 3) := by decide +kernel
theorem dX8_unlike_16 : decode cX8_unlike 16 = .ok (.iconst 0, 1) := by decide +kernel
theorem dX8_unlike_17 : decode cX8_unlike 17 = .ok (.istore 5, 2) := by decide +kernel
theorem dX8_unlike_19 : decode cX8_unlike 19 = .ok (.iload 5, 2) := by decide +kernel
theorem dX8_unlike_21 : decode cX8_unlike 21 = .ok (.iload 4, 2) := by decide +kernel
theorem dX8_unlike_23 : decode cX8_unlike 23 = .ok (.if_icmp .ge 64, 3) := by decide +kernel
theorem dX8_unlike_26 : decode cX8_unlike 26 = .ok (.iload_n 3, 1) := by decide +kernel
theorem dX8_unlike_27 : decode cX8_unlike 27 = .ok (.aload_n 0, 1) := by decide +kernel
theorem dX8_unlike_28 : decode cX8_unlike 28 = .ok (.iload_n 1, 1) := by decide +kernel
theorem dX8_unlike_29 : decode cX8_unlike 29 = .ok (.iload 4, 2) := by decide +kernel
theorem dX8_unlike_31 : decode cX8_unlike 31 = .ok (.invokevirtual 65, 3) := by decide +kernel
theorem dX8_unlike_34 : decode cX8_unlike 34 = .ok (.aload_n 0, 1) := by decide +kernel
theorem dX8_unlike_35 : decode cX8_unlike 35 = .ok (.iload_n 1, 1) := by decide +kernel
theorem dX8_unlike_36 : decode cX8_unlike 36 = .ok (.iload 5, 2) := by decide +kernel
theorem dX8_unlike_38 : decode cX8_unlike 38 = .ok (.invokevirtual 65, 3) := by decide +kernel
theorem dX8_unlike_41 : decode cX8_unlike 41 = .ok (.if_icmp .ne 7, 3) := by decide +kernel
theorem dX8_unlike_44 : decode cX8_unlike 44 = .ok (.iconst 1, 1) := by decide +kernel
theorem dX8_unlike_45 : decode cX8_unlike 45 = .ok (.goto 4, 3) := by decide +kernel
theorem dX8_unlike_48 : decode cX8_unlike 48 = .ok (.iconst 0, 1) := by decide +kernel
theorem dX8_unlike_49 : decode cX8_unlike 49 = .ok (.aload_n 0, 1) := by decide +kernel
theorem dX8_unlike_50 : decode cX8_unlike 50 = .ok (.iload_n 2, 1) := by decide +kernel
theorem dX8_unlike_51 : decode cX8_unlike 51 = .ok (.iload 4, 2) := by decide +kernel
theorem dX8_unlike_53 : decode cX8_unlike 53 = .ok (.invokevirtual 65, 3) := by decide +kernel
theorem dX8_unlike_56 : decode cX8_unlike 56 = .ok (.aload_n 0, 1) := by decide +kernel
theorem dX8_unlike_57 : decode cX8_unlike 57 = .ok (.iload_n 2, 1) := by decide +kernel
theorem dX8_unlike_58 : decode cX8_unlike 58 = .ok (.iload 5, 2) := by decide +kernel
theorem dX8_unlike_60 : decode cX8_unlike 60 = .ok (.invokevirtual 65, 3) := by decide +kernel
theorem dX8_unlike_63 : decode cX8_unlike 63 = .ok (.if_icmp .ne 7, 3) := by decide +kernel
theorem dX8_unlike_66 : decode cX8_unlike 66 = .ok (.iconst 1, 1) := by decide +kernel
theorem dX8_unlike_67 : decode cX8_unlike 67 = .ok (.goto 4, 3) := by decide +kernel
theorem dX8_unlike_70 : decode cX8_unlike 70 = .ok (.iconst 0, 1) := by decide +kernel
theorem dX8_unlike_71 : decode cX8_unlike 71 = .ok (.if_icmp .eq 7, 3) := by decide +kernel
theorem dX8_unlike_74 : decode cX8_unlike 74 = .ok (.iconst 1, 1) := by decide +kernel
theorem dX8_unlike_75 : decode cX8_unlike 75 = .ok (.goto 4, 3) := by decide +kernel
theorem dX8_unlike_78 : decode cX8_unlike 78 = .ok (.iconst 0, 1) := by decide +kernel
theorem dX8_unlike_79 : decode cX8_unlike 79 = .ok (.iadd, 1) := by decide +kernel
theorem dX8_unlike_80 : decode cX8_unlike 80 = .ok (.istore_n 3, 1) := by decide +kernel
theorem dX8_unlike_81 : decode cX8_unlike 81 = .ok (.iinc 5 1, 3) := by decide +kernel
theorem dX8_unlike_84 : decode cX8_unlike 84 = .ok (.goto (-65), 3) := by decide +kernel
theorem dX8_unlike_87 : decode cX8_unlike 87 = .ok (.iinc 4 1, 3) := by decide +kernel
theorem dX8_unlike_90 : decode cX8_unlike 90 = .ok (.goto (-85), 3) := by decide +kernel
theorem dX8_unlike_93 : decode cX8_unlike 93 = .ok (.iload_n 3, 1) := by decide +kernel
theorem dX8_unlike_94 : decode cX8_unlike 94 = .ok (.ireturn, 1) := by decide +kernel
theorem dX8_disagreements_0 : decode cX8_disagreements 0 = .ok (.aload_n 0, 1) := by decide +kernel
theorem dX8_disagreements_1 : decode cX8_disagreements 1 = .ok (.iload_n 1, 1) := by decide +kernel
theorem dX8_disagreements_2 : decode cX8_disagreements 2 = .ok (.iload_n 2, 1) := by decide +kernel
theorem dX8_disagreements_3 : decode cX8_disagreements 3 = .ok (.invokevirtual 134, 3) := by decide +kernel
theorem dX8_disagreements_6 : decode cX8_disagreements 6 = .ok (.istore_n 3, 1) := by decide +kernel
theorem dX8_disagreements_7 : decode cX8_disagreements 7 = .ok (.iload_n 3, 1) := by decide +kernel
theorem dX8_disagreements_8 : decode cX8_disagreements 8 = .ok (.ifCond .eq 7, 3) := by decide +kernel
theorem dX8_disagreements_11 : decode cX8_disagreements 11 = .ok (.iload_n 3, 1) := by decide +kernel
theorem dX8_disagreements_12 : decode cX8_disagreements 12 = .ok (.goto 17, 3) := by decide +kernel
theorem dX8_disagreements_15 : decode cX8_disagreements 15 = .ok (.aload_n 0, 1) := by decide +kernel
theorem dX8_disagreements_16 : decode cX8_disagreements 16 = .ok (.aload_n 0, 1) := by decide +kernel
theorem dX8_disagreements_17 : decode cX8_disagreements 17 = .ok (.iload_n 1, 1) := by decide +kernel
theorem dX8_disagreements_18 : decode cX8_disagreements 18 = .ok (.invokevirtual 128, 3) := by decide +kernel
theorem dX8_disagreements_21 : decode cX8_disagreements 21 = .ok (.aload_n 0, 1) := by decide +kernel
theorem dX8_disagreements_22 : decode cX8_disagreements 22 = .ok (.iload_n 2, 1) := by decide +kernel
theorem dX8_disagreements_23 : decode cX8_disagreements 23 = .ok (.invokevirtual 128, 3) := by decide +kernel
theorem dX8_disagreements_26 : decode cX8_disagreements 26 = .ok (.invokevirtual 221, 3) := by decide +kernel
theorem dX8_disagreements_29 : decode cX8_disagreements 29 = .ok (.ireturn, 1) := by decide +kernel
theorem dX8_unlikeAll_0 : decode cX8_unlikeAll 0 = .ok (.iconst 0, 1) := by decide +kernel
theorem dX8_unlikeAll_1 : decode cX8_unlikeAll 1 = .ok (.istore_n 3, 1) := by decide +kernel
theorem dX8_unlikeAll_2 : decode cX8_unlikeAll 2 = .ok (.iconst 0, 1) := by decide +kernel
theorem dX8_unlikeAll_3 : decode cX8_unlikeAll 3 = .ok (.istore 4, 2) := by decide +kernel
theorem dX8_unlikeAll_5 : decode cX8_unlikeAll 5 = .ok (.iload 4, 2) := by decide +kernel
theorem dX8_unlikeAll_7 : decode cX8_unlikeAll 7 = .ok (.bipush 8, 2) := by decide +kernel
theorem dX8_unlikeAll_9 : decode cX8_unlikeAll 9 = .ok (.if_icmp .ge 37, 3) := by decide +kernel
theorem dX8_unlikeAll_12 : decode cX8_unlikeAll 12 = .ok (.iload_n 3, 1) := by decide +kernel
theorem dX8_unlikeAll_13 : decode cX8_unlikeAll 13 = .ok (.iload_n 2, 1) := by decide +kernel
theorem dX8_unlikeAll_14 : decode cX8_unlikeAll 14 = .ok (.iload 4, 2) := by decide +kernel
theorem dX8_unlikeAll_16 : decode cX8_unlikeAll 16 = .ok (.ishr, 1) := by decide +kernel
theorem dX8_unlikeAll_17 : decode cX8_unlikeAll 17 = .ok (.iconst 1, 1) := by decide +kernel
theorem dX8_unlikeAll_18 : decode cX8_unlikeAll 18 = .ok (.iand, 1) := by decide +kernel
theorem dX8_unlikeAll_19 : decode cX8_unlikeAll 19 = .ok (.iconst 1, 1) := by decide +kernel
theorem dX8_unlikeAll_20 : decode cX8_unlikeAll 20 = .ok (.if_icmp .ne 17, 3) := by decide +kernel
theorem dX8_unlikeAll_23 : decode cX8_unlikeAll 23 = .ok (.aload_n 0, 1) := by decide +kernel
theorem dX8_unlikeAll_24 : decode cX8_unlikeAll 24 = .ok (.iload_n 1, 1) := by decide +kernel
theorem dX8_unlikeAll_25 : decode cX8_unlikeAll 25 = .ok (.aload_n 0, 1) := by decide +kernel
theorem dX8_unlikeAll_26 : decode cX8_unlikeAll 26 = .ok (.iload 4, 2) := by decide +kernel
theorem dX8_unlikeAll_28 : decode cX8_unlikeAll 28 = .ok (.invokevirtual 128, 3) := by decide +kernel
theorem dX8_unlikeAll_31 : decode cX8_unlikeAll 31 = .ok (.invokevirtual 221, 3) := by decide +kernel
theorem dX8_unlikeAll_34 : decode cX8_unlikeAll 34 = .ok (.goto 4, 3) := by decide +kernel
theorem dX8_unlikeAll_37 : decode cX8_unlikeAll 37 = .ok (.iconst 0, 1) := by decide +kernel
theorem dX8_unlikeAll_38 : decode cX8_unlikeAll 38 = .ok (.iadd, 1) := by decide +kernel
theorem dX8_unlikeAll_39 : decode cX8_unlikeAll 39 = .ok (.istore_n 3, 1) := by decide +kernel
theorem dX8_unlikeAll_40 : decode cX8_unlikeAll 40 = .ok (.iinc 4 1, 3) := by decide +kernel
theorem dX8_unlikeAll_43 : decode cX8_unlikeAll 43 = .ok (.goto (-38), 3) := by decide +kernel
theorem dX8_unlikeAll_46 : decode cX8_unlikeAll 46 = .ok (.iload_n 3, 1) := by decide +kernel
theorem dX8_unlikeAll_47 : decode cX8_unlikeAll 47 = .ok (.ireturn, 1) := by decide +kernel
theorem dX8_median_0 : decode cX8_median 0 = .ok (.iload_n 1, 1) := by decide +kernel
theorem dX8_median_1 : decode cX8_median 1 = .ok (.iconst 1, 1) := by decide +kernel
theorem dX8_median_2 : decode cX8_median 2 = .ok (.sipush 255, 3) := by decide +kernel
theorem dX8_median_5 : decode cX8_median 5 = .ok (.invokestatic 96, 3) := by decide +kernel
theorem dX8_median_8 : decode cX8_median 8 = .ok (.ifCond .eq 10, 3) := by decide +kernel
theorem dX8_median_11 : decode cX8_median 11 = .ok (.iload_n 2, 1) := by decide +kernel
theorem dX8_median_12 : decode cX8_median 12 = .ok (.invokestatic 115, 3) := by decide +kernel
theorem dX8_median_15 : decode cX8_median 15 = .ok (.ifCond .ne 5, 3) := by decide +kernel
theorem dX8_median_18 : decode cX8_median 18 = .ok (.iconst (-1), 1) := by decide +kernel
theorem dX8_median_19 : decode cX8_median 19 = .ok (.ireturn, 1) := by decide +kernel
theorem dX8_median_20 : decode cX8_median 20 = .ok (.iconst 0, 1) := by decide +kernel
theorem dX8_median_21 : decode cX8_median 21 = .ok (.istore_n 3, 1) := by decide +kernel
theorem dX8_median_22 : decode cX8_median 22 = .ok (.iload_n 3, 1) := by decide +kernel
theorem dX8_median_23 : decode cX8_median 23 = .ok (.bipush 8, 2) := by decide +kernel
theorem dX8_median_25 : decode cX8_median 25 = .ok (.if_icmp .ge 31, 3) := by decide +kernel
theorem dX8_median_28 : decode cX8_median 28 = .ok (.iload_n 1, 1) := by decide +kernel
theorem dX8_median_29 : decode cX8_median 29 = .ok (.iload_n 3, 1) := by decide +kernel
theorem dX8_median_30 : decode cX8_median 30 = .ok (.ishr, 1) := by decide +kernel
theorem dX8_median_31 : decode cX8_median 31 = .ok (.iconst 1, 1) := by decide +kernel
theorem dX8_median_32 : decode cX8_median 32 = .ok (.iand, 1) := by decide +kernel
theorem dX8_median_33 : decode cX8_median 33 = .ok (.iconst 1, 1) := by decide +kernel
theorem dX8_median_34 : decode cX8_median 34 = .ok (.if_icmp .ne 16, 3) := by decide +kernel
theorem dX8_median_37 : decode cX8_median 37 = .ok (.aload_n 0, 1) := by decide +kernel
theorem dX8_median_38 : decode cX8_median 38 = .ok (.iload_n 3, 1) := by decide +kernel
theorem dX8_median_39 : decode cX8_median 39 = .ok (.invokevirtual 128, 3) := by decide +kernel
theorem dX8_median_42 : decode cX8_median 42 = .ok (.bipush (-9), 2) := by decide +kernel
theorem dX8_median_44 : decode cX8_median 44 = .ok (.if_icmp .ne 6, 3) := by decide +kernel
theorem dX8_median_47 : decode cX8_median 47 = .ok (.bipush (-2), 2) := by decide +kernel
theorem dX8_median_49 : decode cX8_median 49 = .ok (.ireturn, 1) := by decide +kernel
theorem dX8_median_50 : decode cX8_median 50 = .ok (.iinc 3 1, 3) := by decide +kernel
theorem dX8_median_53 : decode cX8_median 53 = .ok (.goto (-31), 3) := by decide +kernel
theorem dX8_median_56 : decode cX8_median 56 = .ok (.bipush (-9), 2) := by decide +kernel
theorem dX8_median_58 : decode cX8_median 58 = .ok (.istore_n 3, 1) := by decide +kernel
theorem dX8_median_59 : decode cX8_median 59 = .ok (.iconst 0, 1) := by decide +kernel
theorem dX8_median_60 : decode cX8_median 60 = .ok (.istore 4, 2) := by decide +kernel
theorem dX8_median_62 : decode cX8_median 62 = .ok (.iconst 0, 1) := by decide +kernel
theorem dX8_median_63 : decode cX8_median 63 = .ok (.istore 5, 2) := by decide +kernel
theorem dX8_median_65 : decode cX8_median 65 = .ok (.iload 5, 2) := by decide +kernel
theorem dX8_median_67 : decode cX8_median 67 = .ok (.aload_n 0, 1) := by decide +kernel
theorem dX8_median_68 : decode cX8_median 68 = .ok (.getfield 52, 3) := by decide +kernel
theorem dX8_median_71 : decode cX8_median 71 = .ok (.if_icmp .ge 60, 3) := by decide +kernel
theorem dX8_median_74 : decode cX8_median 74 = .ok (.aload_n 0, 1) := by decide +kernel
theorem dX8_median_75 : decode cX8_median 75 = .ok (.iload 5, 2) := by decide +kernel
theorem dX8_median_77 : decode cX8_median 77 = .ok (.invokevirtual 150, 3) := by decide +kernel
theorem dX8_median_80 : decode cX8_median 80 = .ok (.ifCond .eq 13, 3) := by decide +kernel
theorem dX8_median_83 : decode cX8_median 83 = .ok (.aload_n 0, 1) := by decide +kernel
theorem dX8_median_84 : decode cX8_median 84 = .ok (.iload 5, 2) := by decide +kernel
theorem dX8_median_86 : decode cX8_median 86 = .ok (.iload_n 1, 1) := by decide +kernel
theorem dX8_median_87 : decode cX8_median 87 = .ok (.invokevirtual 224, 3) := by decide +kernel
theorem dX8_median_90 : decode cX8_median 90 = .ok (.goto 4, 3) := by decide +kernel
theorem dX8_median_93 : decode cX8_median 93 = .ok (.iconst 0, 1) := by decide +kernel
theorem dX8_median_94 : decode cX8_median 94 = .ok (.istore 6, 2) := by decide +kernel
theorem dX8_median_96 : decode cX8_median 96 = .ok (.aload_n 0, 1) := by decide +kernel
theorem dX8_median_97 : decode cX8_median 97 = .ok (.iload 5, 2) := by decide +kernel
theorem dX8_median_99 : decode cX8_median 99 = .ok (.invokevirtual 150, 3) := by decide +kernel
theorem dX8_median_102 : decode cX8_median 102 = .ok (.ifCond .eq 23, 3) := by decide +kernel
theorem dX8_median_105 : decode cX8_median 105 = .ok (.iload_n 3, 1) := by decide +kernel
theorem dX8_median_106 : decode cX8_median 106 = .ok (.bipush (-9), 2) := by decide +kernel
theorem dX8_median_108 : decode cX8_median 108 = .ok (.if_icmp .eq 10, 3) := by decide +kernel
theorem dX8_median_111 : decode cX8_median 111 = .ok (.iload 6, 2) := by decide +kernel
theorem dX8_median_113 : decode cX8_median 113 = .ok (.iload 4, 2) := by decide +kernel
theorem dX8_median_115 : decode cX8_median 115 = .ok (.if_icmp .ge 10, 3) := by decide +kernel
theorem dX8_median_118 : decode cX8_median 118 = .ok (.iload 5, 2) := by decide +kernel
theorem dX8_median_120 : decode cX8_median 120 = .ok (.istore_n 3, 1) := by decide +kernel
theorem dX8_median_121 : decode cX8_median 121 = .ok (.iload 6, 2) := by decide +kernel
theorem dX8_median_123 : decode cX8_median 123 = .ok (.istore 4, 2) := by decide +kernel
theorem dX8_median_125 : decode cX8_median 125 = .ok (.iinc 5 1, 3) := by decide +kernel
theorem dX8_median_128 : decode cX8_median 128 = .ok (.goto (-63), 3) := by decide +kernel
theorem dX8_median_131 : decode cX8_median 131 = .ok (.iload_n 3, 1) := by decide +kernel
theorem dX8_median_132 : decode cX8_median 132 = .ok (.bipush (-9), 2) := by decide +kernel
theorem dX8_median_134 : decode cX8_median 134 = .ok (.if_icmp .ne 6, 3) := by decide +kernel
theorem dX8_median_137 : decode cX8_median 137 = .ok (.bipush (-3), 2) := by decide +kernel
theorem dX8_median_139 : decode cX8_median 139 = .ok (.ireturn, 1) := by decide +kernel
theorem dX8_median_140 : decode cX8_median 140 = .ok (.aload_n 0, 1) := by decide +kernel
theorem dX8_median_141 : decode cX8_median 141 = .ok (.iload_n 2, 1) := by decide +kernel
theorem dX8_median_142 : decode cX8_median 142 = .ok (.iload_n 3, 1) := by decide +kernel
theorem dX8_median_143 : decode cX8_median 143 = .ok (.invokevirtual 125, 3) := by decide +kernel
theorem dX8_median_146 : decode cX8_median 146 = .ok (.pop, 1) := by decide +kernel
theorem dX8_median_147 : decode cX8_median 147 = .ok (.iload 4, 2) := by decide +kernel
theorem dX8_median_149 : decode cX8_median 149 = .ok (.ireturn, 1) := by decide +kernel
theorem dX8_undo_0 : decode cX8_undo 0 = .ok (.aload_n 0, 1) := by decide +kernel
theorem dX8_undo_1 : decode cX8_undo 1 = .ok (.getfield 48, 3) := by decide +kernel
theorem dX8_undo_4 : decode cX8_undo 4 = .ok (.ifCond .ne 6, 3) := by decide +kernel
theorem dX8_undo_7 : decode cX8_undo 7 = .ok (.bipush (-3), 2) := by decide +kernel
theorem dX8_undo_9 : decode cX8_undo 9 = .ok (.ireturn, 1) := by decide +kernel
theorem dX8_undo_10 : decode cX8_undo 10 = .ok (.iconst 0, 1) := by decide +kernel
theorem dX8_undo_11 : decode cX8_undo 11 = .ok (.istore_n 1, 1) := by decide +kernel
theorem dX8_undo_12 : decode cX8_undo 12 = .ok (.iload_n 1, 1) := by decide +kernel
theorem dX8_undo_13 : decode cX8_undo 13 = .ok (.bipush 14, 2) := by decide +kernel
theorem dX8_undo_15 : decode cX8_undo 15 = .ok (.if_icmp .ge 29, 3) := by decide +kernel
theorem dX8_undo_18 : decode cX8_undo 18 = .ok (.aload_n 0, 1) := by decide +kernel
theorem dX8_undo_19 : decode cX8_undo 19 = .ok (.getfield 7, 3) := by decide +kernel
theorem dX8_undo_22 : decode cX8_undo 22 = .ok (.iload_n 1, 1) := by decide +kernel
theorem dX8_undo_23 : decode cX8_undo 23 = .ok (.aload_n 0, 1) := by decide +kernel
theorem dX8_undo_24 : decode cX8_undo 24 = .ok (.getfield 7, 3) := by decide +kernel
theorem dX8_undo_27 : decode cX8_undo 27 = .ok (.bipush 14, 2) := by decide +kernel
theorem dX8_undo_29 : decode cX8_undo 29 = .ok (.aload_n 0, 1) := by decide +kernel
theorem dX8_undo_30 : decode cX8_undo 30 = .ok (.getfield 48, 3) := by decide +kernel
theorem dX8_undo_33 : decode cX8_undo 33 = .ok (.imul, 1) := by decide +kernel
theorem dX8_undo_34 : decode cX8_undo 34 = .ok (.iload_n 1, 1) := by decide +kernel
theorem dX8_undo_35 : decode cX8_undo 35 = .ok (.iadd, 1) := by decide +kernel
theorem dX8_undo_36 : decode cX8_undo 36 = .ok (.iaload, 1) := by decide +kernel
theorem dX8_undo_37 : decode cX8_undo 37 = .ok (.iastore, 1) := by decide +kernel
theorem dX8_undo_38 : decode cX8_undo 38 = .ok (.iinc 1 1, 3) := by decide +kernel
theorem dX8_undo_41 : decode cX8_undo 41 = .ok (.goto (-29), 3) := by decide +kernel
theorem dX8_undo_44 : decode cX8_undo 44 = .ok (.aload_n 0, 1) := by decide +kernel
theorem dX8_undo_45 : decode cX8_undo 45 = .ok (.dup, 1) := by decide +kernel
theorem dX8_undo_46 : decode cX8_undo 46 = .ok (.getfield 48, 3) := by decide +kernel
theorem dX8_undo_49 : decode cX8_undo 49 = .ok (.iconst 1, 1) := by decide +kernel
theorem dX8_undo_50 : decode cX8_undo 50 = .ok (.isub, 1) := by decide +kernel
theorem dX8_undo_51 : decode cX8_undo 51 = .ok (.putfield 48, 3) := by decide +kernel
theorem dX8_undo_54 : decode cX8_undo 54 = .ok (.aload_n 0, 1) := by decide +kernel
theorem dX8_undo_55 : decode cX8_undo 55 = .ok (.invokevirtual 42, 3) := by decide +kernel
theorem dX8_undo_58 : decode cX8_undo 58 = .ok (.aload_n 0, 1) := by decide +kernel
theorem dX8_undo_59 : decode cX8_undo 59 = .ok (.invokevirtual 45, 3) := by decide +kernel
theorem dX8_undo_62 : decode cX8_undo 62 = .ok (.aload_n 0, 1) := by decide +kernel
theorem dX8_undo_63 : decode cX8_undo 63 = .ok (.getfield 48, 3) := by decide +kernel
theorem dX8_undo_66 : decode cX8_undo 66 = .ok (.ireturn, 1) := by decide +kernel
theorem dX8_bits_0 : decode cX8_bits 0 = .ok (.iconst 0, 1) := by decide +kernel
theorem dX8_bits_1 : decode cX8_bits 1 = .ok (.istore_n 1, 1) := by decide +kernel
theorem dX8_bits_2 : decode cX8_bits 2 = .ok (.iconst 0, 1) := by decide +kernel
theorem dX8_bits_3 : decode cX8_bits 3 = .ok (.istore_n 2, 1) := by decide +kernel
theorem dX8_bits_4 : decode cX8_bits 4 = .ok (.iload_n 2, 1) := by decide +kernel
theorem dX8_bits_5 : decode cX8_bits 5 = .ok (.bipush 16, 2) := by decide +kernel
theorem dX8_bits_7 : decode cX8_bits 7 = .ok (.if_icmp .ge 17, 3) := by decide +kernel
theorem dX8_bits_10 : decode cX8_bits 10 = .ok (.iload_n 1, 1) := by decide +kernel
theorem dX8_bits_11 : decode cX8_bits 11 = .ok (.iload_n 0, 1) := by decide +kernel
theorem dX8_bits_12 : decode cX8_bits 12 = .ok (.iload_n 2, 1) := by decide +kernel
theorem dX8_bits_13 : decode cX8_bits 13 = .ok (.ishr, 1) := by decide +kernel
theorem dX8_bits_14 : decode cX8_bits 14 = .ok (.iconst 1, 1) := by decide +kernel
theorem dX8_bits_15 : decode cX8_bits 15 = .ok (.iand, 1) := by decide +kernel
theorem dX8_bits_16 : decode cX8_bits 16 = .ok (.iadd, 1) := by decide +kernel
theorem dX8_bits_17 : decode cX8_bits 17 = .ok (.istore_n 1, 1) := by decide +kernel
theorem dX8_bits_18 : decode cX8_bits 18 = .ok (.iinc 2 1, 3) := by decide +kernel
theorem dX8_bits_21 : decode cX8_bits 21 = .ok (.goto (-17), 3) := by decide +kernel
theorem dX8_bits_24 : decode cX8_bits 24 = .ok (.iload_n 1, 1) := by decide +kernel
theorem dX8_bits_25 : decode cX8_bits 25 = .ok (.ireturn, 1) := by decide +kernel
theorem dX8_full_0 : decode cX8_full 0 = .ok (.iconst 0, 1) := by decide +kernel
theorem dX8_full_1 : decode cX8_full 1 = .ok (.istore_n 1, 1) := by decide +kernel
theorem dX8_full_2 : decode cX8_full 2 = .ok (.iconst 0, 1) := by decide +kernel
theorem dX8_full_3 : decode cX8_full 3 = .ok (.istore_n 2, 1) := by decide +kernel
theorem dX8_full_4 : decode cX8_full 4 = .ok (.iload_n 2, 1) := by decide +kernel
theorem dX8_full_5 : decode cX8_full 5 = .ok (.bipush 8, 2) := by decide +kernel
theorem dX8_full_7 : decode cX8_full 7 = .ok (.if_icmp .ge 27, 3) := by decide +kernel
theorem dX8_full_10 : decode cX8_full 10 = .ok (.iload_n 1, 1) := by decide +kernel
theorem dX8_full_11 : decode cX8_full 11 = .ok (.aload_n 0, 1) := by decide +kernel
theorem dX8_full_12 : decode cX8_full 12 = .ok (.iload_n 2, 1) := by decide +kernel
theorem dX8_full_13 : decode cX8_full 13 = .ok (.invokevirtual 128, 3) := by decide +kernel
theorem dX8_full_16 : decode cX8_full 16 = .ok (.bipush (-9), 2) := by decide +kernel
theorem dX8_full_18 : decode cX8_full 18 = .ok (.if_icmp .ne 7, 3) := by decide +kernel
theorem dX8_full_21 : decode cX8_full 21 = .ok (.iconst 0, 1) := by decide +kernel
theorem dX8_full_22 : decode cX8_full 22 = .ok (.goto 4, 3) := by decide +kernel
theorem dX8_full_25 : decode cX8_full 25 = .ok (.iconst 1, 1) := by decide +kernel
theorem dX8_full_26 : decode cX8_full 26 = .ok (.iadd, 1) := by decide +kernel
theorem dX8_full_27 : decode cX8_full 27 = .ok (.istore_n 1, 1) := by decide +kernel
theorem dX8_full_28 : decode cX8_full 28 = .ok (.iinc 2 1, 3) := by decide +kernel
theorem dX8_full_31 : decode cX8_full 31 = .ok (.goto (-27), 3) := by decide +kernel
theorem dX8_full_34 : decode cX8_full 34 = .ok (.iload_n 1, 1) := by decide +kernel
theorem dX8_full_35 : decode cX8_full 35 = .ok (.ireturn, 1) := by decide +kernel
theorem dX8_told_0 : decode cX8_told 0 = .ok (.iload_n 1, 1) := by decide +kernel
theorem dX8_told_1 : decode cX8_told 1 = .ok (.tableswitch 114 0 8 #[51, 58, 63, 70, 77, 87, 97, 104, 109], 51) := by decide +kernel
theorem dX8_told_52 : decode cX8_told 52 = .ok (.aload_n 0, 1) := by decide +kernel
theorem dX8_told_53 : decode cX8_told 53 = .ok (.getfield 7, 3) := by decide +kernel
theorem dX8_told_56 : decode cX8_told 56 = .ok (.iconst 0, 1) := by decide +kernel
theorem dX8_told_57 : decode cX8_told 57 = .ok (.iaload, 1) := by decide +kernel
theorem dX8_told_58 : decode cX8_told 58 = .ok (.ireturn, 1) := by decide +kernel
theorem dX8_told_59 : decode cX8_told 59 = .ok (.aload_n 0, 1) := by decide +kernel
theorem dX8_told_60 : decode cX8_told 60 = .ok (.invokevirtual 227, 3) := by decide +kernel
theorem dX8_told_63 : decode cX8_told 63 = .ok (.ireturn, 1) := by decide +kernel
theorem dX8_told_64 : decode cX8_told 64 = .ok (.aload_n 0, 1) := by decide +kernel
theorem dX8_told_65 : decode cX8_told 65 = .ok (.getfield 7, 3) := by decide +kernel
theorem dX8_told_68 : decode cX8_told 68 = .ok (.iconst 1, 1) := by decide +kernel
theorem dX8_told_69 : decode cX8_told 69 = .ok (.iaload, 1) := by decide +kernel
theorem dX8_told_70 : decode cX8_told 70 = .ok (.ireturn, 1) := by decide +kernel
theorem dX8_told_71 : decode cX8_told 71 = .ok (.aload_n 0, 1) := by decide +kernel
theorem dX8_told_72 : decode cX8_told 72 = .ok (.getfield 7, 3) := by decide +kernel
theorem dX8_told_75 : decode cX8_told 75 = .ok (.iconst 2, 1) := by decide +kernel
theorem dX8_told_76 : decode cX8_told 76 = .ok (.iaload, 1) := by decide +kernel
theorem dX8_told_77 : decode cX8_told 77 = .ok (.ireturn, 1) := by decide +kernel
theorem dX8_told_78 : decode cX8_told 78 = .ok (.aload_n 0, 1) := by decide +kernel
theorem dX8_told_79 : decode cX8_told 79 = .ok (.getfield 7, 3) := by decide +kernel
theorem dX8_told_82 : decode cX8_told 82 = .ok (.iconst 3, 1) := by decide +kernel
theorem dX8_told_83 : decode cX8_told 83 = .ok (.iaload, 1) := by decide +kernel
theorem dX8_told_84 : decode cX8_told 84 = .ok (.invokestatic 230, 3) := by decide +kernel
theorem dX8_told_87 : decode cX8_told 87 = .ok (.ireturn, 1) := by decide +kernel
theorem dX8_told_88 : decode cX8_told 88 = .ok (.aload_n 0, 1) := by decide +kernel
theorem dX8_told_89 : decode cX8_told 89 = .ok (.getfield 7, 3) := by decide +kernel
theorem dX8_told_92 : decode cX8_told 92 = .ok (.iconst 4, 1) := by decide +kernel
theorem dX8_told_93 : decode cX8_told 93 = .ok (.iaload, 1) := by decide +kernel
theorem dX8_told_94 : decode cX8_told 94 = .ok (.invokestatic 230, 3) := by decide +kernel
theorem dX8_told_97 : decode cX8_told 97 = .ok (.ireturn, 1) := by decide +kernel
theorem dX8_told_98 : decode cX8_told 98 = .ok (.aload_n 0, 1) := by decide +kernel
theorem dX8_told_99 : decode cX8_told 99 = .ok (.getfield 7, 3) := by decide +kernel
theorem dX8_told_102 : decode cX8_told 102 = .ok (.iconst 5, 1) := by decide +kernel
theorem dX8_told_103 : decode cX8_told 103 = .ok (.iaload, 1) := by decide +kernel
theorem dX8_told_104 : decode cX8_told 104 = .ok (.ireturn, 1) := by decide +kernel
theorem dX8_told_105 : decode cX8_told 105 = .ok (.aload_n 0, 1) := by decide +kernel
theorem dX8_told_106 : decode cX8_told 106 = .ok (.getfield 112, 3) := by decide +kernel
theorem dX8_told_109 : decode cX8_told 109 = .ok (.ireturn, 1) := by decide +kernel
theorem dX8_told_110 : decode cX8_told 110 = .ok (.aload_n 0, 1) := by decide +kernel
theorem dX8_told_111 : decode cX8_told 111 = .ok (.getfield 48, 3) := by decide +kernel
theorem dX8_told_114 : decode cX8_told 114 = .ok (.ireturn, 1) := by decide +kernel
theorem dX8_told_115 : decode cX8_told 115 = .ok (.iconst (-1), 1) := by decide +kernel
theorem dX8_told_116 : decode cX8_told 116 = .ok (.ireturn, 1) := by decide +kernel
theorem dX8_digest_0 : decode cX8_digest 0 = .ok (.ldc2_w 233, 3) := by decide +kernel
theorem dX8_digest_3 : decode cX8_digest 3 = .ok (.lstore_n 1, 1) := by decide +kernel
theorem dX8_digest_4 : decode cX8_digest 4 = .ok (.iconst 0, 1) := by decide +kernel
theorem dX8_digest_5 : decode cX8_digest 5 = .ok (.istore_n 3, 1) := by decide +kernel
theorem dX8_digest_6 : decode cX8_digest 6 = .ok (.iload_n 3, 1) := by decide +kernel
theorem dX8_digest_7 : decode cX8_digest 7 = .ok (.bipush 8, 2) := by decide +kernel
theorem dX8_digest_9 : decode cX8_digest 9 = .ok (.if_icmp .gt 22, 3) := by decide +kernel
theorem dX8_digest_12 : decode cX8_digest 12 = .ok (.ldc2_w 235, 3) := by decide +kernel
theorem dX8_digest_15 : decode cX8_digest 15 = .ok (.lload_n 1, 1) := by decide +kernel
theorem dX8_digest_16 : decode cX8_digest 16 = .ok (.lmul, 1) := by decide +kernel
theorem dX8_digest_17 : decode cX8_digest 17 = .ok (.aload_n 0, 1) := by decide +kernel
theorem dX8_digest_18 : decode cX8_digest 18 = .ok (.iload_n 3, 1) := by decide +kernel
theorem dX8_digest_19 : decode cX8_digest 19 = .ok (.invokevirtual 237, 3) := by decide +kernel
theorem dX8_digest_22 : decode cX8_digest 22 = .ok (.i2l, 1) := by decide +kernel
theorem dX8_digest_23 : decode cX8_digest 23 = .ok (.ladd, 1) := by decide +kernel
theorem dX8_digest_24 : decode cX8_digest 24 = .ok (.lstore_n 1, 1) := by decide +kernel
theorem dX8_digest_25 : decode cX8_digest 25 = .ok (.iinc 3 1, 3) := by decide +kernel
theorem dX8_digest_28 : decode cX8_digest 28 = .ok (.goto (-22), 3) := by decide +kernel
theorem dX8_digest_31 : decode cX8_digest 31 = .ok (.ldc2_w 235, 3) := by decide +kernel
theorem dX8_digest_34 : decode cX8_digest 34 = .ok (.lload_n 1, 1) := by decide +kernel
theorem dX8_digest_35 : decode cX8_digest 35 = .ok (.lmul, 1) := by decide +kernel
theorem dX8_digest_36 : decode cX8_digest 36 = .ok (.aload_n 0, 1) := by decide +kernel
theorem dX8_digest_37 : decode cX8_digest 37 = .ok (.getfield 59, 3) := by decide +kernel
theorem dX8_digest_40 : decode cX8_digest 40 = .ok (.i2l, 1) := by decide +kernel
theorem dX8_digest_41 : decode cX8_digest 41 = .ok (.ladd, 1) := by decide +kernel
theorem dX8_digest_42 : decode cX8_digest 42 = .ok (.lstore_n 1, 1) := by decide +kernel
theorem dX8_digest_43 : decode cX8_digest 43 = .ok (.iconst 1, 1) := by decide +kernel
theorem dX8_digest_44 : decode cX8_digest 44 = .ok (.istore_n 3, 1) := by decide +kernel
theorem dX8_digest_45 : decode cX8_digest 45 = .ok (.iload_n 3, 1) := by decide +kernel
theorem dX8_digest_46 : decode cX8_digest 46 = .ok (.bipush 6, 2) := by decide +kernel
theorem dX8_digest_48 : decode cX8_digest 48 = .ok (.if_icmp .gt 22, 3) := by decide +kernel
theorem dX8_digest_51 : decode cX8_digest 51 = .ok (.ldc2_w 235, 3) := by decide +kernel
theorem dX8_digest_54 : decode cX8_digest 54 = .ok (.lload_n 1, 1) := by decide +kernel
theorem dX8_digest_55 : decode cX8_digest 55 = .ok (.lmul, 1) := by decide +kernel
theorem dX8_digest_56 : decode cX8_digest 56 = .ok (.aload_n 0, 1) := by decide +kernel
theorem dX8_digest_57 : decode cX8_digest 57 = .ok (.iload_n 3, 1) := by decide +kernel
theorem dX8_digest_58 : decode cX8_digest 58 = .ok (.invokevirtual 166, 3) := by decide +kernel
theorem dX8_digest_61 : decode cX8_digest 61 = .ok (.i2l, 1) := by decide +kernel
theorem dX8_digest_62 : decode cX8_digest 62 = .ok (.ladd, 1) := by decide +kernel
theorem dX8_digest_63 : decode cX8_digest 63 = .ok (.lstore_n 1, 1) := by decide +kernel
theorem dX8_digest_64 : decode cX8_digest 64 = .ok (.iinc 3 1, 3) := by decide +kernel
theorem dX8_digest_67 : decode cX8_digest 67 = .ok (.goto (-22), 3) := by decide +kernel
theorem dX8_digest_70 : decode cX8_digest 70 = .ok (.iconst 0, 1) := by decide +kernel
theorem dX8_digest_71 : decode cX8_digest 71 = .ok (.istore_n 3, 1) := by decide +kernel
theorem dX8_digest_72 : decode cX8_digest 72 = .ok (.iload_n 3, 1) := by decide +kernel
theorem dX8_digest_73 : decode cX8_digest 73 = .ok (.bipush 8, 2) := by decide +kernel
theorem dX8_digest_75 : decode cX8_digest 75 = .ok (.if_icmp .ge 130, 3) := by decide +kernel
theorem dX8_digest_78 : decode cX8_digest 78 = .ok (.aload_n 0, 1) := by decide +kernel
theorem dX8_digest_79 : decode cX8_digest 79 = .ok (.iload_n 3, 1) := by decide +kernel
theorem dX8_digest_80 : decode cX8_digest 80 = .ok (.invokevirtual 128, 3) := by decide +kernel
theorem dX8_digest_83 : decode cX8_digest 83 = .ok (.istore 4, 2) := by decide +kernel
theorem dX8_digest_85 : decode cX8_digest 85 = .ok (.iload 4, 2) := by decide +kernel
theorem dX8_digest_87 : decode cX8_digest 87 = .ok (.bipush (-9), 2) := by decide +kernel
theorem dX8_digest_89 : decode cX8_digest 89 = .ok (.if_icmp .ne 16, 3) := by decide +kernel
theorem dX8_digest_92 : decode cX8_digest 92 = .ok (.ldc2_w 235, 3) := by decide +kernel
theorem dX8_digest_95 : decode cX8_digest 95 = .ok (.lload_n 1, 1) := by decide +kernel
theorem dX8_digest_96 : decode cX8_digest 96 = .ok (.lmul, 1) := by decide +kernel
theorem dX8_digest_97 : decode cX8_digest 97 = .ok (.ldc2_w 240, 3) := by decide +kernel
theorem dX8_digest_100 : decode cX8_digest 100 = .ok (.ladd, 1) := by decide +kernel
theorem dX8_digest_101 : decode cX8_digest 101 = .ok (.lstore_n 1, 1) := by decide +kernel
theorem dX8_digest_102 : decode cX8_digest 102 = .ok (.goto 97, 3) := by decide +kernel
theorem dX8_digest_105 : decode cX8_digest 105 = .ok (.ldc2_w 235, 3) := by decide +kernel
theorem dX8_digest_108 : decode cX8_digest 108 = .ok (.lload_n 1, 1) := by decide +kernel
theorem dX8_digest_109 : decode cX8_digest 109 = .ok (.lmul, 1) := by decide +kernel
theorem dX8_digest_110 : decode cX8_digest 110 = .ok (.aload_n 0, 1) := by decide +kernel
theorem dX8_digest_111 : decode cX8_digest 111 = .ok (.getfield 19, 3) := by decide +kernel
theorem dX8_digest_114 : decode cX8_digest 114 = .ok (.iload 4, 2) := by decide +kernel
theorem dX8_digest_116 : decode cX8_digest 116 = .ok (.iaload, 1) := by decide +kernel
theorem dX8_digest_117 : decode cX8_digest 117 = .ok (.i2l, 1) := by decide +kernel
theorem dX8_digest_118 : decode cX8_digest 118 = .ok (.ladd, 1) := by decide +kernel
theorem dX8_digest_119 : decode cX8_digest 119 = .ok (.lstore_n 1, 1) := by decide +kernel
theorem dX8_digest_120 : decode cX8_digest 120 = .ok (.iconst 0, 1) := by decide +kernel
theorem dX8_digest_121 : decode cX8_digest 121 = .ok (.istore 5, 2) := by decide +kernel
theorem dX8_digest_123 : decode cX8_digest 123 = .ok (.iload 5, 2) := by decide +kernel
theorem dX8_digest_125 : decode cX8_digest 125 = .ok (.aload_n 0, 1) := by decide +kernel
theorem dX8_digest_126 : decode cX8_digest 126 = .ok (.getfield 7, 3) := by decide +kernel
theorem dX8_digest_129 : decode cX8_digest 129 = .ok (.iconst 0, 1) := by decide +kernel
theorem dX8_digest_130 : decode cX8_digest 130 = .ok (.iaload, 1) := by decide +kernel
theorem dX8_digest_131 : decode cX8_digest 131 = .ok (.if_icmp .ge 25, 3) := by decide +kernel
theorem dX8_digest_134 : decode cX8_digest 134 = .ok (.ldc2_w 235, 3) := by decide +kernel
theorem dX8_digest_137 : decode cX8_digest 137 = .ok (.lload_n 1, 1) := by decide +kernel
theorem dX8_digest_138 : decode cX8_digest 138 = .ok (.lmul, 1) := by decide +kernel
theorem dX8_digest_139 : decode cX8_digest 139 = .ok (.aload_n 0, 1) := by decide +kernel
theorem dX8_digest_140 : decode cX8_digest 140 = .ok (.iload 4, 2) := by decide +kernel
theorem dX8_digest_142 : decode cX8_digest 142 = .ok (.iload 5, 2) := by decide +kernel
theorem dX8_digest_144 : decode cX8_digest 144 = .ok (.invokevirtual 65, 3) := by decide +kernel
theorem dX8_digest_147 : decode cX8_digest 147 = .ok (.i2l, 1) := by decide +kernel
theorem dX8_digest_148 : decode cX8_digest 148 = .ok (.ladd, 1) := by decide +kernel
theorem dX8_digest_149 : decode cX8_digest 149 = .ok (.lstore_n 1, 1) := by decide +kernel
theorem dX8_digest_150 : decode cX8_digest 150 = .ok (.iinc 5 1, 3) := by decide +kernel
theorem dX8_digest_153 : decode cX8_digest 153 = .ok (.goto (-30), 3) := by decide +kernel
theorem dX8_digest_156 : decode cX8_digest 156 = .ok (.ldc2_w 235, 3) := by decide +kernel
theorem dX8_digest_159 : decode cX8_digest 159 = .ok (.lload_n 1, 1) := by decide +kernel
theorem dX8_digest_160 : decode cX8_digest 160 = .ok (.lmul, 1) := by decide +kernel
theorem dX8_digest_161 : decode cX8_digest 161 = .ok (.aload_n 0, 1) := by decide +kernel
theorem dX8_digest_162 : decode cX8_digest 162 = .ok (.iload 4, 2) := by decide +kernel
theorem dX8_digest_164 : decode cX8_digest 164 = .ok (.invokevirtual 62, 3) := by decide +kernel
theorem dX8_digest_167 : decode cX8_digest 167 = .ok (.i2l, 1) := by decide +kernel
theorem dX8_digest_168 : decode cX8_digest 168 = .ok (.ladd, 1) := by decide +kernel
theorem dX8_digest_169 : decode cX8_digest 169 = .ok (.lstore_n 1, 1) := by decide +kernel
theorem dX8_digest_170 : decode cX8_digest 170 = .ok (.ldc2_w 235, 3) := by decide +kernel
theorem dX8_digest_173 : decode cX8_digest 173 = .ok (.lload_n 1, 1) := by decide +kernel
theorem dX8_digest_174 : decode cX8_digest 174 = .ok (.lmul, 1) := by decide +kernel
theorem dX8_digest_175 : decode cX8_digest 175 = .ok (.aload_n 0, 1) := by decide +kernel
theorem dX8_digest_176 : decode cX8_digest 176 = .ok (.iload 4, 2) := by decide +kernel
theorem dX8_digest_178 : decode cX8_digest 178 = .ok (.invokevirtual 163, 3) := by decide +kernel
theorem dX8_digest_181 : decode cX8_digest 181 = .ok (.i2l, 1) := by decide +kernel
theorem dX8_digest_182 : decode cX8_digest 182 = .ok (.ladd, 1) := by decide +kernel
theorem dX8_digest_183 : decode cX8_digest 183 = .ok (.lstore_n 1, 1) := by decide +kernel
theorem dX8_digest_184 : decode cX8_digest 184 = .ok (.ldc2_w 235, 3) := by decide +kernel
theorem dX8_digest_187 : decode cX8_digest 187 = .ok (.lload_n 1, 1) := by decide +kernel
theorem dX8_digest_188 : decode cX8_digest 188 = .ok (.lmul, 1) := by decide +kernel
theorem dX8_digest_189 : decode cX8_digest 189 = .ok (.aload_n 0, 1) := by decide +kernel
theorem dX8_digest_190 : decode cX8_digest 190 = .ok (.getfield 22, 3) := by decide +kernel
theorem dX8_digest_193 : decode cX8_digest 193 = .ok (.iload 4, 2) := by decide +kernel
theorem dX8_digest_195 : decode cX8_digest 195 = .ok (.iaload, 1) := by decide +kernel
theorem dX8_digest_196 : decode cX8_digest 196 = .ok (.i2l, 1) := by decide +kernel
theorem dX8_digest_197 : decode cX8_digest 197 = .ok (.ladd, 1) := by decide +kernel
theorem dX8_digest_198 : decode cX8_digest 198 = .ok (.lstore_n 1, 1) := by decide +kernel
theorem dX8_digest_199 : decode cX8_digest 199 = .ok (.iinc 3 1, 3) := by decide +kernel
theorem dX8_digest_202 : decode cX8_digest 202 = .ok (.goto (-130), 3) := by decide +kernel
theorem dX8_digest_205 : decode cX8_digest 205 = .ok (.lload_n 1, 1) := by decide +kernel
theorem dX8_digest_206 : decode cX8_digest 206 = .ok (.lreturn, 1) := by decide +kernel
