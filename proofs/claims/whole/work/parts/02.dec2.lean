theorem dX5_takesWorth_36 : decode cX5_takesWorth 36 = .ok (.iconst 2, 1) := by decide +kernel
theorem dX5_takesWorth_37 : decode cX5_takesWorth 37 = .ok (.putfield 26, 3) := by decide +kernel
theorem dX5_takesWorth_40 : decode cX5_takesWorth 40 = .ok (.iconst 1, 1) := by decide +kernel
theorem dX5_takesWorth_41 : decode cX5_takesWorth 41 = .ok (.ireturn, 1) := by decide +kernel
theorem dX5_takesColon_0 : decode cX5_takesColon 0 = .ok (.iload_n 1, 1) := by decide +kernel
theorem dX5_takesColon_1 : decode cX5_takesColon 1 = .ok (.bipush 58, 2) := by decide +kernel
theorem dX5_takesColon_3 : decode cX5_takesColon 3 = .ok (.if_icmp .eq 5, 3) := by decide +kernel
theorem dX5_takesColon_6 : decode cX5_takesColon 6 = .ok (.iconst 0, 1) := by decide +kernel
theorem dX5_takesColon_7 : decode cX5_takesColon 7 = .ok (.ireturn, 1) := by decide +kernel
theorem dX5_takesColon_8 : decode cX5_takesColon 8 = .ok (.aload_n 0, 1) := by decide +kernel
theorem dX5_takesColon_9 : decode cX5_takesColon 9 = .ok (.iconst 3, 1) := by decide +kernel
theorem dX5_takesColon_10 : decode cX5_takesColon 10 = .ok (.putfield 26, 3) := by decide +kernel
theorem dX5_takesColon_13 : decode cX5_takesColon 13 = .ok (.iconst 1, 1) := by decide +kernel
theorem dX5_takesColon_14 : decode cX5_takesColon 14 = .ok (.ireturn, 1) := by decide +kernel
theorem dX5_takesSort_0 : decode cX5_takesSort 0 = .ok (.iload_n 1, 1) := by decide +kernel
theorem dX5_takesSort_1 : decode cX5_takesSort 1 = .ok (.ifCond .lt 37, 3) := by decide +kernel
theorem dX5_takesSort_4 : decode cX5_takesSort 4 = .ok (.iload_n 1, 1) := by decide +kernel
theorem dX5_takesSort_5 : decode cX5_takesSort 5 = .ok (.iconst 3, 1) := by decide +kernel
theorem dX5_takesSort_6 : decode cX5_takesSort 6 = .ok (.if_icmp .ge 32, 3) := by decide +kernel
theorem dX5_takesSort_9 : decode cX5_takesSort 9 = .ok (.aload_n 0, 1) := by decide +kernel
theorem dX5_takesSort_10 : decode cX5_takesSort 10 = .ok (.getfield 29, 3) := by decide +kernel
theorem dX5_takesSort_13 : decode cX5_takesSort 13 = .ok (.invokestatic 62, 3) := by decide +kernel
theorem dX5_takesSort_16 : decode cX5_takesSort 16 = .ok (.ifCond .eq 22, 3) := by decide +kernel
theorem dX5_takesSort_19 : decode cX5_takesSort 19 = .ok (.aload_n 0, 1) := by decide +kernel
theorem dX5_takesSort_20 : decode cX5_takesSort 20 = .ok (.getfield 18, 3) := by decide +kernel
theorem dX5_takesSort_23 : decode cX5_takesSort 23 = .ok (.getfield 68, 3) := by decide +kernel
theorem dX5_takesSort_26 : decode cX5_takesSort 26 = .ok (.aload_n 0, 1) := by decide +kernel
theorem dX5_takesSort_27 : decode cX5_takesSort 27 = .ok (.getfield 29, 3) := by decide +kernel
theorem dX5_takesSort_30 : decode cX5_takesSort 30 = .ok (.iaload, 1) := by decide +kernel
theorem dX5_takesSort_31 : decode cX5_takesSort 31 = .ok (.iconst 1, 1) := by decide +kernel
theorem dX5_takesSort_32 : decode cX5_takesSort 32 = .ok (.iload_n 1, 1) := by decide +kernel
theorem dX5_takesSort_33 : decode cX5_takesSort 33 = .ok (.ishl, 1) := by decide +kernel
theorem dX5_takesSort_34 : decode cX5_takesSort 34 = .ok (.iand, 1) := by decide +kernel
theorem dX5_takesSort_35 : decode cX5_takesSort 35 = .ok (.ifCond .eq 5, 3) := by decide +kernel
theorem dX5_takesSort_38 : decode cX5_takesSort 38 = .ok (.iconst 0, 1) := by decide +kernel
theorem dX5_takesSort_39 : decode cX5_takesSort 39 = .ok (.ireturn, 1) := by decide +kernel
theorem dX5_takesSort_40 : decode cX5_takesSort 40 = .ok (.aload_n 0, 1) := by decide +kernel
theorem dX5_takesSort_41 : decode cX5_takesSort 41 = .ok (.getfield 18, 3) := by decide +kernel
theorem dX5_takesSort_44 : decode cX5_takesSort 44 = .ok (.getfield 68, 3) := by decide +kernel
theorem dX5_takesSort_47 : decode cX5_takesSort 47 = .ok (.aload_n 0, 1) := by decide +kernel
theorem dX5_takesSort_48 : decode cX5_takesSort 48 = .ok (.getfield 29, 3) := by decide +kernel
theorem dX5_takesSort_51 : decode cX5_takesSort 51 = .ok (.dup2, 1) := by decide +kernel
theorem dX5_takesSort_52 : decode cX5_takesSort 52 = .ok (.iaload, 1) := by decide +kernel
theorem dX5_takesSort_53 : decode cX5_takesSort 53 = .ok (.iconst 1, 1) := by decide +kernel
theorem dX5_takesSort_54 : decode cX5_takesSort 54 = .ok (.iload_n 1, 1) := by decide +kernel
theorem dX5_takesSort_55 : decode cX5_takesSort 55 = .ok (.ishl, 1) := by decide +kernel
theorem dX5_takesSort_56 : decode cX5_takesSort 56 = .ok (.ior, 1) := by decide +kernel
theorem dX5_takesSort_57 : decode cX5_takesSort 57 = .ok (.iastore, 1) := by decide +kernel
theorem dX5_takesSort_58 : decode cX5_takesSort 58 = .ok (.aload_n 0, 1) := by decide +kernel
theorem dX5_takesSort_59 : decode cX5_takesSort 59 = .ok (.iconst 4, 1) := by decide +kernel
theorem dX5_takesSort_60 : decode cX5_takesSort 60 = .ok (.putfield 26, 3) := by decide +kernel
theorem dX5_takesSort_63 : decode cX5_takesSort 63 = .ok (.iconst 1, 1) := by decide +kernel
theorem dX5_takesSort_64 : decode cX5_takesSort 64 = .ok (.ireturn, 1) := by decide +kernel
theorem dX5_takesEndOfDeed_0 : decode cX5_takesEndOfDeed 0 = .ok (.aload_n 0, 1) := by decide +kernel
theorem dX5_takesEndOfDeed_1 : decode cX5_takesEndOfDeed 1 = .ok (.getfield 29, 3) := by decide +kernel
theorem dX5_takesEndOfDeed_4 : decode cX5_takesEndOfDeed 4 = .ok (.iconst 3, 1) := by decide +kernel
theorem dX5_takesEndOfDeed_5 : decode cX5_takesEndOfDeed 5 = .ok (.if_icmp .ne 7, 3) := by decide +kernel
theorem dX5_takesEndOfDeed_8 : decode cX5_takesEndOfDeed 8 = .ok (.iconst 1, 1) := by decide +kernel
theorem dX5_takesEndOfDeed_9 : decode cX5_takesEndOfDeed 9 = .ok (.goto 4, 3) := by decide +kernel
theorem dX5_takesEndOfDeed_12 : decode cX5_takesEndOfDeed 12 = .ok (.iconst 0, 1) := by decide +kernel
theorem dX5_takesEndOfDeed_13 : decode cX5_takesEndOfDeed 13 = .ok (.istore_n 2, 1) := by decide +kernel
theorem dX5_takesEndOfDeed_14 : decode cX5_takesEndOfDeed 14 = .ok (.iload_n 1, 1) := by decide +kernel
theorem dX5_takesEndOfDeed_15 : decode cX5_takesEndOfDeed 15 = .ok (.iload_n 2, 1) := by decide +kernel
theorem dX5_takesEndOfDeed_16 : decode cX5_takesEndOfDeed 16 = .ok (.ifCond .eq 8, 3) := by decide +kernel
theorem dX5_takesEndOfDeed_19 : decode cX5_takesEndOfDeed 19 = .ok (.bipush 59, 2) := by decide +kernel
theorem dX5_takesEndOfDeed_21 : decode cX5_takesEndOfDeed 21 = .ok (.goto 5, 3) := by decide +kernel
theorem dX5_takesEndOfDeed_24 : decode cX5_takesEndOfDeed 24 = .ok (.bipush 47, 2) := by decide +kernel
theorem dX5_takesEndOfDeed_26 : decode cX5_takesEndOfDeed 26 = .ok (.if_icmp .eq 5, 3) := by decide +kernel
theorem dX5_takesEndOfDeed_29 : decode cX5_takesEndOfDeed 29 = .ok (.iconst 0, 1) := by decide +kernel
theorem dX5_takesEndOfDeed_30 : decode cX5_takesEndOfDeed 30 = .ok (.ireturn, 1) := by decide +kernel
theorem dX5_takesEndOfDeed_31 : decode cX5_takesEndOfDeed 31 = .ok (.aload_n 0, 1) := by decide +kernel
theorem dX5_takesEndOfDeed_32 : decode cX5_takesEndOfDeed 32 = .ok (.iload_n 2, 1) := by decide +kernel
theorem dX5_takesEndOfDeed_33 : decode cX5_takesEndOfDeed 33 = .ok (.ifCond .eq 7, 3) := by decide +kernel
theorem dX5_takesEndOfDeed_36 : decode cX5_takesEndOfDeed 36 = .ok (.iconst 5, 1) := by decide +kernel
theorem dX5_takesEndOfDeed_37 : decode cX5_takesEndOfDeed 37 = .ok (.goto 4, 3) := by decide +kernel
theorem dX5_takesEndOfDeed_40 : decode cX5_takesEndOfDeed 40 = .ok (.iconst 0, 1) := by decide +kernel
theorem dX5_takesEndOfDeed_41 : decode cX5_takesEndOfDeed 41 = .ok (.putfield 26, 3) := by decide +kernel
theorem dX5_takesEndOfDeed_44 : decode cX5_takesEndOfDeed 44 = .ok (.aload_n 0, 1) := by decide +kernel
theorem dX5_takesEndOfDeed_45 : decode cX5_takesEndOfDeed 45 = .ok (.iload_n 2, 1) := by decide +kernel
theorem dX5_takesEndOfDeed_46 : decode cX5_takesEndOfDeed 46 = .ok (.ifCond .eq 10, 3) := by decide +kernel
theorem dX5_takesEndOfDeed_49 : decode cX5_takesEndOfDeed 49 = .ok (.aload_n 0, 1) := by decide +kernel
theorem dX5_takesEndOfDeed_50 : decode cX5_takesEndOfDeed 50 = .ok (.getfield 29, 3) := by decide +kernel
theorem dX5_takesEndOfDeed_53 : decode cX5_takesEndOfDeed 53 = .ok (.goto 9, 3) := by decide +kernel
theorem dX5_takesEndOfDeed_56 : decode cX5_takesEndOfDeed 56 = .ok (.aload_n 0, 1) := by decide +kernel
theorem dX5_takesEndOfDeed_57 : decode cX5_takesEndOfDeed 57 = .ok (.getfield 29, 3) := by decide +kernel
theorem dX5_takesEndOfDeed_60 : decode cX5_takesEndOfDeed 60 = .ok (.iconst 1, 1) := by decide +kernel
theorem dX5_takesEndOfDeed_61 : decode cX5_takesEndOfDeed 61 = .ok (.iadd, 1) := by decide +kernel
theorem dX5_takesEndOfDeed_62 : decode cX5_takesEndOfDeed 62 = .ok (.putfield 29, 3) := by decide +kernel
theorem dX5_takesEndOfDeed_65 : decode cX5_takesEndOfDeed 65 = .ok (.iconst 1, 1) := by decide +kernel
theorem dX5_takesEndOfDeed_66 : decode cX5_takesEndOfDeed 66 = .ok (.ireturn, 1) := by decide +kernel
theorem dX5_takesLapse_0 : decode cX5_takesLapse 0 = .ok (.iload_n 1, 1) := by decide +kernel
theorem dX5_takesLapse_1 : decode cX5_takesLapse 1 = .ok (.iconst 1, 1) := by decide +kernel
theorem dX5_takesLapse_2 : decode cX5_takesLapse 2 = .ok (.if_icmp .lt 9, 3) := by decide +kernel
theorem dX5_takesLapse_5 : decode cX5_takesLapse 5 = .ok (.iload_n 1, 1) := by decide +kernel
theorem dX5_takesLapse_6 : decode cX5_takesLapse 6 = .ok (.bipush 9, 2) := by decide +kernel
theorem dX5_takesLapse_8 : decode cX5_takesLapse 8 = .ok (.if_icmp .le 5, 3) := by decide +kernel
theorem dX5_takesLapse_11 : decode cX5_takesLapse 11 = .ok (.iconst 0, 1) := by decide +kernel
theorem dX5_takesLapse_12 : decode cX5_takesLapse 12 = .ok (.ireturn, 1) := by decide +kernel
theorem dX5_takesLapse_13 : decode cX5_takesLapse 13 = .ok (.aload_n 0, 1) := by decide +kernel
theorem dX5_takesLapse_14 : decode cX5_takesLapse 14 = .ok (.getfield 18, 3) := by decide +kernel
theorem dX5_takesLapse_17 : decode cX5_takesLapse 17 = .ok (.iload_n 1, 1) := by decide +kernel
theorem dX5_takesLapse_18 : decode cX5_takesLapse 18 = .ok (.putfield 74, 3) := by decide +kernel
theorem dX5_takesLapse_21 : decode cX5_takesLapse 21 = .ok (.aload_n 0, 1) := by decide +kernel
theorem dX5_takesLapse_22 : decode cX5_takesLapse 22 = .ok (.bipush 6, 2) := by decide +kernel
theorem dX5_takesLapse_24 : decode cX5_takesLapse 24 = .ok (.putfield 26, 3) := by decide +kernel
theorem dX5_takesLapse_27 : decode cX5_takesLapse 27 = .ok (.iconst 1, 1) := by decide +kernel
theorem dX5_takesLapse_28 : decode cX5_takesLapse 28 = .ok (.ireturn, 1) := by decide +kernel
theorem dX6_init_0 : decode cX6_init 0 = .ok (.aload_n 0, 1) := by decide +kernel
theorem dX6_init_1 : decode cX6_init 1 = .ok (.invokespecial 3, 3) := by decide +kernel
theorem dX6_init_4 : decode cX6_init 4 = .ok (.aload_n 0, 1) := by decide +kernel
theorem dX6_init_5 : decode cX6_init 5 = .ok (.new 9, 3) := by decide +kernel
theorem dX6_init_8 : decode cX6_init 8 = .ok (.dup, 1) := by decide +kernel
theorem dX6_init_9 : decode cX6_init 9 = .ok (.invokespecial 11, 3) := by decide +kernel
theorem dX6_init_12 : decode cX6_init 12 = .ok (.putfield 12, 3) := by decide +kernel
theorem dX6_init_15 : decode cX6_init 15 = .ok (.aload_n 0, 1) := by decide +kernel
theorem dX6_init_16 : decode cX6_init 16 = .ok (.getstatic 18, 3) := by decide +kernel
theorem dX6_init_19 : decode cX6_init 19 = .ok (.putfield 24, 3) := by decide +kernel
theorem dX6_init_22 : decode cX6_init 22 = .ok (.return_, 1) := by decide +kernel
theorem dX6_begin_0 : decode cX6_begin 0 = .ok (.aload_n 0, 1) := by decide +kernel
theorem dX6_begin_1 : decode cX6_begin 1 = .ok (.aload_n 1, 1) := by decide +kernel
theorem dX6_begin_2 : decode cX6_begin 2 = .ok (.putfield 24, 3) := by decide +kernel
theorem dX6_begin_5 : decode cX6_begin 5 = .ok (.aload_n 0, 1) := by decide +kernel
theorem dX6_begin_6 : decode cX6_begin 6 = .ok (.iconst 0, 1) := by decide +kernel
theorem dX6_begin_7 : decode cX6_begin 7 = .ok (.putfield 27, 3) := by decide +kernel
theorem dX6_begin_10 : decode cX6_begin 10 = .ok (.aload_n 0, 1) := by decide +kernel
theorem dX6_begin_11 : decode cX6_begin 11 = .ok (.iconst 0, 1) := by decide +kernel
theorem dX6_begin_12 : decode cX6_begin 12 = .ok (.putfield 31, 3) := by decide +kernel
theorem dX6_begin_15 : decode cX6_begin 15 = .ok (.aload_n 0, 1) := by decide +kernel
theorem dX6_begin_16 : decode cX6_begin 16 = .ok (.iconst 0, 1) := by decide +kernel
theorem dX6_begin_17 : decode cX6_begin 17 = .ok (.putfield 34, 3) := by decide +kernel
theorem dX6_begin_20 : decode cX6_begin 20 = .ok (.aload_n 0, 1) := by decide +kernel
theorem dX6_begin_21 : decode cX6_begin 21 = .ok (.iconst 0, 1) := by decide +kernel
theorem dX6_begin_22 : decode cX6_begin 22 = .ok (.putfield 38, 3) := by decide +kernel
theorem dX6_begin_25 : decode cX6_begin 25 = .ok (.aload_n 0, 1) := by decide +kernel
theorem dX6_begin_26 : decode cX6_begin 26 = .ok (.getfield 12, 3) := by decide +kernel
theorem dX6_begin_29 : decode cX6_begin 29 = .ok (.iconst 0, 1) := by decide +kernel
theorem dX6_begin_30 : decode cX6_begin 30 = .ok (.putfield 41, 3) := by decide +kernel
theorem dX6_begin_33 : decode cX6_begin 33 = .ok (.return_, 1) := by decide +kernel
theorem dX6_copy_0 : decode cX6_copy 0 = .ok (.aload_n 0, 1) := by decide +kernel
theorem dX6_copy_1 : decode cX6_copy 1 = .ok (.aload_n 1, 1) := by decide +kernel
theorem dX6_copy_2 : decode cX6_copy 2 = .ok (.getfield 24, 3) := by decide +kernel
theorem dX6_copy_5 : decode cX6_copy 5 = .ok (.putfield 24, 3) := by decide +kernel
theorem dX6_copy_8 : decode cX6_copy 8 = .ok (.aload_n 0, 1) := by decide +kernel
theorem dX6_copy_9 : decode cX6_copy 9 = .ok (.aload_n 1, 1) := by decide +kernel
theorem dX6_copy_10 : decode cX6_copy 10 = .ok (.getfield 27, 3) := by decide +kernel
theorem dX6_copy_13 : decode cX6_copy 13 = .ok (.putfield 27, 3) := by decide +kernel
theorem dX6_copy_16 : decode cX6_copy 16 = .ok (.aload_n 0, 1) := by decide +kernel
theorem dX6_copy_17 : decode cX6_copy 17 = .ok (.aload_n 1, 1) := by decide +kernel
theorem dX6_copy_18 : decode cX6_copy 18 = .ok (.getfield 31, 3) := by decide +kernel
theorem dX6_copy_21 : decode cX6_copy 21 = .ok (.putfield 31, 3) := by decide +kernel
theorem dX6_copy_24 : decode cX6_copy 24 = .ok (.aload_n 0, 1) := by decide +kernel
theorem dX6_copy_25 : decode cX6_copy 25 = .ok (.aload_n 1, 1) := by decide +kernel
theorem dX6_copy_26 : decode cX6_copy 26 = .ok (.getfield 34, 3) := by decide +kernel
theorem dX6_copy_29 : decode cX6_copy 29 = .ok (.putfield 34, 3) := by decide +kernel
theorem dX6_copy_32 : decode cX6_copy 32 = .ok (.aload_n 0, 1) := by decide +kernel
theorem dX6_copy_33 : decode cX6_copy 33 = .ok (.aload_n 1, 1) := by decide +kernel
theorem dX6_copy_34 : decode cX6_copy 34 = .ok (.getfield 38, 3) := by decide +kernel
theorem dX6_copy_37 : decode cX6_copy 37 = .ok (.putfield 38, 3) := by decide +kernel
theorem dX6_copy_40 : decode cX6_copy 40 = .ok (.aload_n 0, 1) := by decide +kernel
theorem dX6_copy_41 : decode cX6_copy 41 = .ok (.getfield 12, 3) := by decide +kernel
theorem dX6_copy_44 : decode cX6_copy 44 = .ok (.aload_n 1, 1) := by decide +kernel
theorem dX6_copy_45 : decode cX6_copy 45 = .ok (.getfield 12, 3) := by decide +kernel
theorem dX6_copy_48 : decode cX6_copy 48 = .ok (.invokevirtual 44, 3) := by decide +kernel
theorem dX6_copy_51 : decode cX6_copy 51 = .ok (.return_, 1) := by decide +kernel
theorem dX6_told_0 : decode cX6_told 0 = .ok (.iload_n 1, 1) := by decide +kernel
theorem dX6_told_1 : decode cX6_told 1 = .ok (.tableswitch 130 0 8 #[51, 59, 64, 69, 77, 87, 97, 107, 117], 51) := by decide +kernel
theorem dX6_told_52 : decode cX6_told 52 = .ok (.aload_n 0, 1) := by decide +kernel
theorem dX6_told_53 : decode cX6_told 53 = .ok (.getfield 24, 3) := by decide +kernel
theorem dX6_told_56 : decode cX6_told 56 = .ok (.getfield 48, 3) := by decide +kernel
theorem dX6_told_59 : decode cX6_told 59 = .ok (.ireturn, 1) := by decide +kernel
theorem dX6_told_60 : decode cX6_told 60 = .ok (.aload_n 0, 1) := by decide +kernel
theorem dX6_told_61 : decode cX6_told 61 = .ok (.getfield 27, 3) := by decide +kernel
theorem dX6_told_64 : decode cX6_told 64 = .ok (.ireturn, 1) := by decide +kernel
theorem dX6_told_65 : decode cX6_told 65 = .ok (.aload_n 0, 1) := by decide +kernel
theorem dX6_told_66 : decode cX6_told 66 = .ok (.getfield 31, 3) := by decide +kernel
theorem dX6_told_69 : decode cX6_told 69 = .ok (.ireturn, 1) := by decide +kernel
theorem dX6_told_70 : decode cX6_told 70 = .ok (.aload_n 0, 1) := by decide +kernel
theorem dX6_told_71 : decode cX6_told 71 = .ok (.getfield 12, 3) := by decide +kernel
theorem dX6_told_74 : decode cX6_told 74 = .ok (.getfield 41, 3) := by decide +kernel
theorem dX6_told_77 : decode cX6_told 77 = .ok (.ireturn, 1) := by decide +kernel
theorem dX6_told_78 : decode cX6_told 78 = .ok (.aload_n 0, 1) := by decide +kernel
theorem dX6_told_79 : decode cX6_told 79 = .ok (.getfield 12, 3) := by decide +kernel
theorem dX6_told_82 : decode cX6_told 82 = .ok (.iconst 1, 1) := by decide +kernel
theorem dX6_told_83 : decode cX6_told 83 = .ok (.iconst 0, 1) := by decide +kernel
theorem dX6_told_84 : decode cX6_told 84 = .ok (.invokevirtual 51, 3) := by decide +kernel
theorem dX6_told_87 : decode cX6_told 87 = .ok (.ireturn, 1) := by decide +kernel
theorem dX6_told_88 : decode cX6_told 88 = .ok (.aload_n 0, 1) := by decide +kernel
theorem dX6_told_89 : decode cX6_told 89 = .ok (.getfield 12, 3) := by decide +kernel
theorem dX6_told_92 : decode cX6_told 92 = .ok (.iconst 2, 1) := by decide +kernel
theorem dX6_told_93 : decode cX6_told 93 = .ok (.iconst 0, 1) := by decide +kernel
theorem dX6_told_94 : decode cX6_told 94 = .ok (.invokevirtual 51, 3) := by decide +kernel
theorem dX6_told_97 : decode cX6_told 97 = .ok (.ireturn, 1) := by decide +kernel
theorem dX6_told_98 : decode cX6_told 98 = .ok (.aload_n 0, 1) := by decide +kernel
theorem dX6_told_99 : decode cX6_told 99 = .ok (.getfield 12, 3) := by decide +kernel
theorem dX6_told_102 : decode cX6_told 102 = .ok (.iconst 4, 1) := by decide +kernel
theorem dX6_told_103 : decode cX6_told 103 = .ok (.iconst 0, 1) := by decide +kernel
theorem dX6_told_104 : decode cX6_told 104 = .ok (.invokevirtual 51, 3) := by decide +kernel
theorem dX6_told_107 : decode cX6_told 107 = .ok (.ireturn, 1) := by decide +kernel
theorem dX6_told_108 : decode cX6_told 108 = .ok (.aload_n 0, 1) := by decide +kernel
theorem dX6_told_109 : decode cX6_told 109 = .ok (.getfield 12, 3) := by decide +kernel
theorem dX6_told_112 : decode cX6_told 112 = .ok (.bipush 7, 2) := by decide +kernel
theorem dX6_told_114 : decode cX6_told 114 = .ok (.invokevirtual 55, 3) := by decide +kernel
theorem dX6_told_117 : decode cX6_told 117 = .ok (.ireturn, 1) := by decide +kernel
theorem dX6_told_118 : decode cX6_told 118 = .ok (.aload_n 0, 1) := by decide +kernel
theorem dX6_told_119 : decode cX6_told 119 = .ok (.getfield 34, 3) := by decide +kernel
theorem dX6_told_122 : decode cX6_told 122 = .ok (.ifCond .eq 7, 3) := by decide +kernel
theorem dX6_told_125 : decode cX6_told 125 = .ok (.iconst 1, 1) := by decide +kernel
theorem dX6_told_126 : decode cX6_told 126 = .ok (.goto 4, 3) := by decide +kernel
theorem dX6_told_129 : decode cX6_told 129 = .ok (.iconst 0, 1) := by decide +kernel
theorem dX6_told_130 : decode cX6_told 130 = .ok (.ireturn, 1) := by decide +kernel
theorem dX6_told_131 : decode cX6_told 131 = .ok (.aload_n 0, 1) := by decide +kernel
theorem dX6_told_132 : decode cX6_told 132 = .ok (.getfield 38, 3) := by decide +kernel
theorem dX6_told_135 : decode cX6_told 135 = .ok (.ifCond .eq 7, 3) := by decide +kernel
theorem dX6_told_138 : decode cX6_told 138 = .ok (.iconst 1, 1) := by decide +kernel
theorem dX6_told_139 : decode cX6_told 139 = .ok (.goto 4, 3) := by decide +kernel
theorem dX6_told_142 : decode cX6_told 142 = .ok (.iconst 0, 1) := by decide +kernel
theorem dX6_told_143 : decode cX6_told 143 = .ok (.ireturn, 1) := by decide +kernel
theorem dX6_enter_0 : decode cX6_enter 0 = .ok (.aload_n 0, 1) := by decide +kernel
theorem dX6_enter_1 : decode cX6_enter 1 = .ok (.iconst 0, 1) := by decide +kernel
theorem dX6_enter_2 : decode cX6_enter 2 = .ok (.putfield 34, 3) := by decide +kernel
theorem dX6_enter_5 : decode cX6_enter 5 = .ok (.aload_n 0, 1) := by decide +kernel
theorem dX6_enter_6 : decode cX6_enter 6 = .ok (.iload_n 1, 1) := by decide +kernel
theorem dX6_enter_7 : decode cX6_enter 7 = .ok (.aload_n 2, 1) := by decide +kernel
theorem dX6_enter_8 : decode cX6_enter 8 = .ok (.invokevirtual 59, 3) := by decide +kernel
theorem dX6_enter_11 : decode cX6_enter 11 = .ok (.return_, 1) := by decide +kernel
theorem dX6_dropLapsed_0 : decode cX6_dropLapsed 0 = .ok (.aload_n 0, 1) := by decide +kernel
theorem dX6_dropLapsed_1 : decode cX6_dropLapsed 1 = .ok (.getfield 12, 3) := by decide +kernel
theorem dX6_dropLapsed_4 : decode cX6_dropLapsed 4 = .ok (.aload_n 2, 1) := by decide +kernel
theorem dX6_dropLapsed_5 : decode cX6_dropLapsed 5 = .ok (.iload_n 1, 1) := by decide +kernel
theorem dX6_dropLapsed_6 : decode cX6_dropLapsed 6 = .ok (.invokevirtual 63, 3) := by decide +kernel
theorem dX6_dropLapsed_9 : decode cX6_dropLapsed 9 = .ok (.invokevirtual 68, 3) := by decide +kernel
theorem dX6_dropLapsed_12 : decode cX6_dropLapsed 12 = .ok (.return_, 1) := by decide +kernel
theorem dX6_isCovered_0 : decode cX6_isCovered 0 = .ok (.aload_n 0, 1) := by decide +kernel
theorem dX6_isCovered_1 : decode cX6_isCovered 1 = .ok (.getfield 31, 3) := by decide +kernel
theorem dX6_isCovered_4 : decode cX6_isCovered 4 = .ok (.ifCond .ne 32, 3) := by decide +kernel
theorem dX6_isCovered_7 : decode cX6_isCovered 7 = .ok (.aload_n 0, 1) := by decide +kernel
theorem dX6_isCovered_8 : decode cX6_isCovered 8 = .ok (.getfield 12, 3) := by decide +kernel
theorem dX6_isCovered_11 : decode cX6_isCovered 11 = .ok (.aload 4, 2) := by decide +kernel
theorem dX6_isCovered_13 : decode cX6_isCovered 13 = .ok (.iload_n 1, 1) := by decide +kernel
theorem dX6_isCovered_14 : decode cX6_isCovered 14 = .ok (.invokevirtual 72, 3) := by decide +kernel
theorem dX6_isCovered_17 : decode cX6_isCovered 17 = .ok (.iload_n 3, 1) := by decide +kernel
theorem dX6_isCovered_18 : decode cX6_isCovered 18 = .ok (.invokevirtual 51, 3) := by decide +kernel
theorem dX6_isCovered_21 : decode cX6_isCovered 21 = .ok (.aload_n 0, 1) := by decide +kernel
theorem dX6_isCovered_22 : decode cX6_isCovered 22 = .ok (.getfield 24, 3) := by decide +kernel
theorem dX6_isCovered_25 : decode cX6_isCovered 25 = .ok (.iload_n 2, 1) := by decide +kernel
theorem dX6_isCovered_26 : decode cX6_isCovered 26 = .ok (.invokevirtual 75, 3) := by decide +kernel
theorem dX6_isCovered_29 : decode cX6_isCovered 29 = .ok (.if_icmp .lt 7, 3) := by decide +kernel
theorem dX6_isCovered_32 : decode cX6_isCovered 32 = .ok (.iconst 1, 1) := by decide +kernel
theorem dX6_isCovered_33 : decode cX6_isCovered 33 = .ok (.goto 4, 3) := by decide +kernel
theorem dX6_isCovered_36 : decode cX6_isCovered 36 = .ok (.iconst 0, 1) := by decide +kernel
theorem dX6_isCovered_37 : decode cX6_isCovered 37 = .ok (.ireturn, 1) := by decide +kernel
theorem dX6_isFreeTo_0 : decode cX6_isFreeTo 0 = .ok (.aload_n 0, 1) := by decide +kernel
theorem dX6_isFreeTo_1 : decode cX6_isFreeTo 1 = .ok (.getfield 34, 3) := by decide +kernel
theorem dX6_isFreeTo_4 : decode cX6_isFreeTo 4 = .ok (.ifCond .eq 5, 3) := by decide +kernel
theorem dX6_isFreeTo_7 : decode cX6_isFreeTo 7 = .ok (.iconst 0, 1) := by decide +kernel
theorem dX6_isFreeTo_8 : decode cX6_isFreeTo 8 = .ok (.ireturn, 1) := by decide +kernel
theorem dX6_isFreeTo_9 : decode cX6_isFreeTo 9 = .ok (.iload_n 1, 1) := by decide +kernel
theorem dX6_isFreeTo_10 : decode cX6_isFreeTo 10 = .ok (.invokestatic 78, 3) := by decide +kernel
theorem dX6_isFreeTo_13 : decode cX6_isFreeTo 13 = .ok (.ifCond .eq 5, 3) := by decide +kernel
theorem dX6_isFreeTo_16 : decode cX6_isFreeTo 16 = .ok (.iconst 1, 1) := by decide +kernel
theorem dX6_isFreeTo_17 : decode cX6_isFreeTo 17 = .ok (.ireturn, 1) := by decide +kernel
theorem dX6_isFreeTo_18 : decode cX6_isFreeTo 18 = .ok (.iload_n 1, 1) := by decide +kernel
theorem dX6_isFreeTo_19 : decode cX6_isFreeTo 19 = .ok (.bipush 10, 2) := by decide +kernel
theorem dX6_isFreeTo_21 : decode cX6_isFreeTo 21 = .ok (.irem, 1) := by decide +kernel
theorem dX6_isFreeTo_22 : decode cX6_isFreeTo 22 = .ok (.istore_n 3, 1) := by decide +kernel
theorem dX6_isFreeTo_23 : decode cX6_isFreeTo 23 = .ok (.iload_n 1, 1) := by decide +kernel
theorem dX6_isFreeTo_24 : decode cX6_isFreeTo 24 = .ok (.invokestatic 82, 3) := by decide +kernel
theorem dX6_isFreeTo_27 : decode cX6_isFreeTo 27 = .ok (.ifCond .eq 18, 3) := by decide +kernel
theorem dX6_isFreeTo_30 : decode cX6_isFreeTo 30 = .ok (.aload_n 0, 1) := by decide +kernel
theorem dX6_isFreeTo_31 : decode cX6_isFreeTo 31 = .ok (.iload_n 3, 1) := by decide +kernel
theorem dX6_isFreeTo_32 : decode cX6_isFreeTo 32 = .ok (.aload_n 2, 1) := by decide +kernel
theorem dX6_isFreeTo_33 : decode cX6_isFreeTo 33 = .ok (.iload_n 3, 1) := by decide +kernel
theorem dX6_isFreeTo_34 : decode cX6_isFreeTo 34 = .ok (.invokevirtual 85, 3) := by decide +kernel
theorem dX6_isFreeTo_37 : decode cX6_isFreeTo 37 = .ok (.iconst 0, 1) := by decide +kernel
theorem dX6_isFreeTo_38 : decode cX6_isFreeTo 38 = .ok (.aload_n 2, 1) := by decide +kernel
theorem dX6_isFreeTo_39 : decode cX6_isFreeTo 39 = .ok (.invokevirtual 88, 3) := by decide +kernel
theorem dX6_isFreeTo_42 : decode cX6_isFreeTo 42 = .ok (.goto 15, 3) := by decide +kernel
theorem dX6_isFreeTo_45 : decode cX6_isFreeTo 45 = .ok (.aload_n 0, 1) := by decide +kernel
theorem dX6_isFreeTo_46 : decode cX6_isFreeTo 46 = .ok (.getfield 31, 3) := by decide +kernel
theorem dX6_isFreeTo_49 : decode cX6_isFreeTo 49 = .ok (.ifCond .ne 7, 3) := by decide +kernel
theorem dX6_isFreeTo_52 : decode cX6_isFreeTo 52 = .ok (.iconst 1, 1) := by decide +kernel
theorem dX6_isFreeTo_53 : decode cX6_isFreeTo 53 = .ok (.goto 4, 3) := by decide +kernel
theorem dX6_isFreeTo_56 : decode cX6_isFreeTo 56 = .ok (.iconst 0, 1) := by decide +kernel
theorem dX6_isFreeTo_57 : decode cX6_isFreeTo 57 = .ok (.ireturn, 1) := by decide +kernel
theorem dX6_does_0 : decode cX6_does 0 = .ok (.iload_n 1, 1) := by decide +kernel
theorem dX6_does_1 : decode cX6_does 1 = .ok (.bipush 9, 2) := by decide +kernel
theorem dX6_does_3 : decode cX6_does 3 = .ok (.if_icmp .ne 4, 3) := by decide +kernel
theorem dX6_does_6 : decode cX6_does 6 = .ok (.return_, 1) := by decide +kernel
theorem dX6_does_7 : decode cX6_does 7 = .ok (.iload_n 1, 1) := by decide +kernel
theorem dX6_does_8 : decode cX6_does 8 = .ok (.invokestatic 78, 3) := by decide +kernel
theorem dX6_does_11 : decode cX6_does 11 = .ok (.ifCond .eq 9, 3) := by decide +kernel
theorem dX6_does_14 : decode cX6_does 14 = .ok (.aload_n 0, 1) := by decide +kernel
theorem dX6_does_15 : decode cX6_does 15 = .ok (.iload_n 1, 1) := by decide +kernel
theorem dX6_does_16 : decode cX6_does 16 = .ok (.iload_n 3, 1) := by decide +kernel
theorem dX6_does_17 : decode cX6_does 17 = .ok (.invokevirtual 92, 3) := by decide +kernel
theorem dX6_does_20 : decode cX6_does 20 = .ok (.iload_n 1, 1) := by decide +kernel
theorem dX6_does_21 : decode cX6_does 21 = .ok (.invokestatic 82, 3) := by decide +kernel
theorem dX6_does_24 : decode cX6_does 24 = .ok (.ifCond .eq 33, 3) := by decide +kernel
theorem dX6_does_27 : decode cX6_does 27 = .ok (.aload_n 0, 1) := by decide +kernel
theorem dX6_does_28 : decode cX6_does 28 = .ok (.getfield 12, 3) := by decide +kernel
theorem dX6_does_31 : decode cX6_does 31 = .ok (.aload_n 2, 1) := by decide +kernel
theorem dX6_does_32 : decode cX6_does 32 = .ok (.iload_n 1, 1) := by decide +kernel
theorem dX6_does_33 : decode cX6_does 33 = .ok (.bipush 10, 2) := by decide +kernel
theorem dX6_does_35 : decode cX6_does 35 = .ok (.irem, 1) := by decide +kernel
theorem dX6_does_36 : decode cX6_does 36 = .ok (.invokevirtual 72, 3) := by decide +kernel
theorem dX6_does_39 : decode cX6_does 39 = .ok (.aload_n 0, 1) := by decide +kernel
theorem dX6_does_40 : decode cX6_does 40 = .ok (.getfield 24, 3) := by decide +kernel
theorem dX6_does_43 : decode cX6_does 43 = .ok (.aload_n 2, 1) := by decide +kernel
theorem dX6_does_44 : decode cX6_does 44 = .ok (.iload_n 1, 1) := by decide +kernel
theorem dX6_does_45 : decode cX6_does 45 = .ok (.bipush 10, 2) := by decide +kernel
theorem dX6_does_47 : decode cX6_does 47 = .ok (.irem, 1) := by decide +kernel
theorem dX6_does_48 : decode cX6_does 48 = .ok (.invokevirtual 85, 3) := by decide +kernel
theorem dX6_does_51 : decode cX6_does 51 = .ok (.invokevirtual 75, 3) := by decide +kernel
theorem dX6_does_54 : decode cX6_does 54 = .ok (.invokevirtual 96, 3) := by decide +kernel
theorem dX6_does_57 : decode cX6_does 57 = .ok (.aload_n 0, 1) := by decide +kernel
theorem dX6_does_58 : decode cX6_does 58 = .ok (.dup, 1) := by decide +kernel
theorem dX6_does_59 : decode cX6_does 59 = .ok (.getfield 27, 3) := by decide +kernel
theorem dX6_does_62 : decode cX6_does 62 = .ok (.aload_n 0, 1) := by decide +kernel
theorem dX6_does_63 : decode cX6_does 63 = .ok (.iload_n 1, 1) := by decide +kernel
theorem dX6_does_64 : decode cX6_does 64 = .ok (.aload_n 2, 1) := by decide +kernel
theorem dX6_does_65 : decode cX6_does 65 = .ok (.invokevirtual 99, 3) := by decide +kernel
theorem dX6_does_68 : decode cX6_does 68 = .ok (.iadd, 1) := by decide +kernel
theorem dX6_does_69 : decode cX6_does 69 = .ok (.putfield 27, 3) := by decide +kernel
theorem dX6_does_72 : decode cX6_does 72 = .ok (.aload_n 0, 1) := by decide +kernel
theorem dX6_does_73 : decode cX6_does 73 = .ok (.aload_n 0, 1) := by decide +kernel
theorem dX6_does_74 : decode cX6_does 74 = .ok (.iload_n 1, 1) := by decide +kernel
theorem dX6_does_75 : decode cX6_does 75 = .ok (.aload_n 2, 1) := by decide +kernel
theorem dX6_does_76 : decode cX6_does 76 = .ok (.invokevirtual 103, 3) := by decide +kernel
theorem dX6_does_79 : decode cX6_does 79 = .ok (.putfield 31, 3) := by decide +kernel
theorem dX6_does_82 : decode cX6_does 82 = .ok (.aload_n 0, 1) := by decide +kernel
theorem dX6_does_83 : decode cX6_does 83 = .ok (.iconst 1, 1) := by decide +kernel
theorem dX6_does_84 : decode cX6_does 84 = .ok (.putfield 34, 3) := by decide +kernel
theorem dX6_does_87 : decode cX6_does 87 = .ok (.return_, 1) := by decide +kernel
theorem dX6_earns_0 : decode cX6_earns 0 = .ok (.iconst 0, 1) := by decide +kernel
theorem dX6_earns_1 : decode cX6_earns 1 = .ok (.istore_n 3, 1) := by decide +kernel
theorem dX6_earns_2 : decode cX6_earns 2 = .ok (.aload_n 0, 1) := by decide +kernel
theorem dX6_earns_3 : decode cX6_earns 3 = .ok (.getfield 31, 3) := by decide +kernel
theorem dX6_earns_6 : decode cX6_earns 6 = .ok (.ifCond .ne 29, 3) := by decide +kernel
theorem dX6_earns_9 : decode cX6_earns 9 = .ok (.iload_n 3, 1) := by decide +kernel
theorem dX6_earns_10 : decode cX6_earns 10 = .ok (.aload_n 0, 1) := by decide +kernel
theorem dX6_earns_11 : decode cX6_earns 11 = .ok (.getfield 24, 3) := by decide +kernel
theorem dX6_earns_14 : decode cX6_earns 14 = .ok (.getfield 106, 3) := by decide +kernel
theorem dX6_earns_17 : decode cX6_earns 17 = .ok (.if_icmp .ge 18, 3) := by decide +kernel
theorem dX6_earns_20 : decode cX6_earns 20 = .ok (.aload_n 0, 1) := by decide +kernel
theorem dX6_earns_21 : decode cX6_earns 21 = .ok (.getfield 12, 3) := by decide +kernel
theorem dX6_earns_24 : decode cX6_earns 24 = .ok (.iload_n 1, 1) := by decide +kernel
theorem dX6_earns_25 : decode cX6_earns 25 = .ok (.iload_n 2, 1) := by decide +kernel
theorem dX6_earns_26 : decode cX6_earns 26 = .ok (.invokevirtual 109, 3) := by decide +kernel
theorem dX6_earns_29 : decode cX6_earns 29 = .ok (.iinc 3 1, 3) := by decide +kernel
theorem dX6_earns_32 : decode cX6_earns 32 = .ok (.goto (-30), 3) := by decide +kernel
theorem dX6_earns_35 : decode cX6_earns 35 = .ok (.return_, 1) := by decide +kernel
theorem dX6_getsBy_0 : decode cX6_getsBy 0 = .ok (.iload_n 1, 1) := by decide +kernel
theorem dX6_getsBy_1 : decode cX6_getsBy 1 = .ok (.invokestatic 82, 3) := by decide +kernel
theorem dX6_getsBy_4 : decode cX6_getsBy 4 = .ok (.ifCond .ne 10, 3) := by decide +kernel
theorem dX6_getsBy_7 : decode cX6_getsBy 7 = .ok (.iload_n 1, 1) := by decide +kernel
theorem dX6_getsBy_8 : decode cX6_getsBy 8 = .ok (.invokestatic 112, 3) := by decide +kernel
theorem dX6_getsBy_11 : decode cX6_getsBy 11 = .ok (.ifCond .eq 21, 3) := by decide +kernel
theorem dX6_getsBy_14 : decode cX6_getsBy 14 = .ok (.aload_n 0, 1) := by decide +kernel
theorem dX6_getsBy_15 : decode cX6_getsBy 15 = .ok (.getfield 24, 3) := by decide +kernel
theorem dX6_getsBy_18 : decode cX6_getsBy 18 = .ok (.aload_n 2, 1) := by decide +kernel
theorem dX6_getsBy_19 : decode cX6_getsBy 19 = .ok (.iload_n 1, 1) := by decide +kernel
theorem dX6_getsBy_20 : decode cX6_getsBy 20 = .ok (.bipush 10, 2) := by decide +kernel
theorem dX6_getsBy_22 : decode cX6_getsBy 22 = .ok (.irem, 1) := by decide +kernel
theorem dX6_getsBy_23 : decode cX6_getsBy 23 = .ok (.invokevirtual 115, 3) := by decide +kernel
theorem dX6_getsBy_26 : decode cX6_getsBy 26 = .ok (.invokevirtual 118, 3) := by decide +kernel
theorem dX6_getsBy_29 : decode cX6_getsBy 29 = .ok (.goto 4, 3) := by decide +kernel
theorem dX6_getsBy_32 : decode cX6_getsBy 32 = .ok (.iconst 0, 1) := by decide +kernel
theorem dX6_getsBy_33 : decode cX6_getsBy 33 = .ok (.ireturn, 1) := by decide +kernel
theorem dX6_owesAfter_0 : decode cX6_owesAfter 0 = .ok (.iload_n 1, 1) := by decide +kernel
theorem dX6_owesAfter_1 : decode cX6_owesAfter 1 = .ok (.invokestatic 78, 3) := by decide +kernel
theorem dX6_owesAfter_4 : decode cX6_owesAfter 4 = .ok (.ifCond .eq 14, 3) := by decide +kernel
theorem dX6_owesAfter_7 : decode cX6_owesAfter 7 = .ok (.iconst 0, 1) := by decide +kernel
theorem dX6_owesAfter_8 : decode cX6_owesAfter 8 = .ok (.aload_n 0, 1) := by decide +kernel
theorem dX6_owesAfter_9 : decode cX6_owesAfter 9 = .ok (.getfield 31, 3) := by decide +kernel
theorem dX6_owesAfter_12 : decode cX6_owesAfter 12 = .ok (.iconst 1, 1) := by decide +kernel
theorem dX6_owesAfter_13 : decode cX6_owesAfter 13 = .ok (.isub, 1) := by decide +kernel
theorem dX6_owesAfter_14 : decode cX6_owesAfter 14 = .ok (.invokestatic 121, 3) := by decide +kernel
theorem dX6_owesAfter_17 : decode cX6_owesAfter 17 = .ok (.ireturn, 1) := by decide +kernel
theorem dX6_owesAfter_18 : decode cX6_owesAfter 18 = .ok (.iload_n 1, 1) := by decide +kernel
theorem dX6_owesAfter_19 : decode cX6_owesAfter 19 = .ok (.invokestatic 112, 3) := by decide +kernel
theorem dX6_owesAfter_22 : decode cX6_owesAfter 22 = .ok (.ifCond .eq 21, 3) := by decide +kernel
theorem dX6_owesAfter_25 : decode cX6_owesAfter 25 = .ok (.aload_n 0, 1) := by decide +kernel
theorem dX6_owesAfter_26 : decode cX6_owesAfter 26 = .ok (.getfield 24, 3) := by decide +kernel
theorem dX6_owesAfter_29 : decode cX6_owesAfter 29 = .ok (.aload_n 2, 1) := by decide +kernel
theorem dX6_owesAfter_30 : decode cX6_owesAfter 30 = .ok (.iload_n 1, 1) := by decide +kernel
theorem dX6_owesAfter_31 : decode cX6_owesAfter 31 = .ok (.bipush 10, 2) := by decide +kernel
theorem dX6_owesAfter_33 : decode cX6_owesAfter 33 = .ok (.irem, 1) := by decide +kernel
theorem dX6_owesAfter_34 : decode cX6_owesAfter 34 = .ok (.invokevirtual 85, 3) := by decide +kernel
theorem dX6_owesAfter_37 : decode cX6_owesAfter 37 = .ok (.invokevirtual 126, 3) := by decide +kernel
theorem dX6_owesAfter_40 : decode cX6_owesAfter 40 = .ok (.goto 7, 3) := by decide +kernel
theorem dX6_owesAfter_43 : decode cX6_owesAfter 43 = .ok (.aload_n 0, 1) := by decide +kernel
theorem dX6_owesAfter_44 : decode cX6_owesAfter 44 = .ok (.getfield 31, 3) := by decide +kernel
theorem dX6_owesAfter_47 : decode cX6_owesAfter 47 = .ok (.ireturn, 1) := by decide +kernel
theorem dX7_init_0 : decode cX7_init 0 = .ok (.aload_n 0, 1) := by decide +kernel
theorem dX7_init_1 : decode cX7_init 1 = .ok (.invokespecial 3, 3) := by decide +kernel
theorem dX7_init_4 : decode cX7_init 4 = .ok (.aload_n 0, 1) := by decide +kernel
theorem dX7_init_5 : decode cX7_init 5 = .ok (.iconst 4, 1) := by decide +kernel
theorem dX7_init_6 : decode cX7_init 6 = .ok (.anewarray 9, 3) := by decide +kernel
theorem dX7_init_9 : decode cX7_init 9 = .ok (.putfield 11, 3) := by decide +kernel
theorem dX7_init_12 : decode cX7_init 12 = .ok (.iconst 0, 1) := by decide +kernel
theorem dX7_init_13 : decode cX7_init 13 = .ok (.istore_n 1, 1) := by decide +kernel
theorem dX7_init_14 : decode cX7_init 14 = .ok (.iload_n 1, 1) := by decide +kernel
theorem dX7_init_15 : decode cX7_init 15 = .ok (.iconst 4, 1) := by decide +kernel
theorem dX7_init_16 : decode cX7_init 16 = .ok (.if_icmp .ge 22, 3) := by decide +kernel
theorem dX7_init_19 : decode cX7_init 19 = .ok (.aload_n 0, 1) := by decide +kernel
theorem dX7_init_20 : decode cX7_init 20 = .ok (.getfield 11, 3) := by decide +kernel
theorem dX7_init_23 : decode cX7_init 23 = .ok (.iload_n 1, 1) := by decide +kernel
theorem dX7_init_24 : decode cX7_init 24 = .ok (.new 9, 3) := by decide +kernel
theorem dX7_init_27 : decode cX7_init 27 = .ok (.dup, 1) := by decide +kernel
theorem dX7_init_28 : decode cX7_init 28 = .ok (.invokespecial 17, 3) := by decide +kernel
theorem dX7_init_31 : decode cX7_init 31 = .ok (.aastore, 1) := by decide +kernel
theorem dX7_init_32 : decode cX7_init 32 = .ok (.iinc 1 1, 3) := by decide +kernel
theorem dX7_init_35 : decode cX7_init 35 = .ok (.goto (-21), 3) := by decide +kernel
theorem dX7_init_38 : decode cX7_init 38 = .ok (.return_, 1) := by decide +kernel
theorem dX7_copy_0 : decode cX7_copy 0 = .ok (.iconst 0, 1) := by decide +kernel
theorem dX7_copy_1 : decode cX7_copy 1 = .ok (.istore_n 2, 1) := by decide +kernel
theorem dX7_copy_2 : decode cX7_copy 2 = .ok (.iload_n 2, 1) := by decide +kernel
theorem dX7_copy_3 : decode cX7_copy 3 = .ok (.iconst 4, 1) := by decide +kernel
theorem dX7_copy_4 : decode cX7_copy 4 = .ok (.if_icmp .ge 24, 3) := by decide +kernel
theorem dX7_copy_7 : decode cX7_copy 7 = .ok (.aload_n 0, 1) := by decide +kernel
theorem dX7_copy_8 : decode cX7_copy 8 = .ok (.getfield 11, 3) := by decide +kernel
theorem dX7_copy_11 : decode cX7_copy 11 = .ok (.iload_n 2, 1) := by decide +kernel
theorem dX7_copy_12 : decode cX7_copy 12 = .ok (.aaload, 1) := by decide +kernel
theorem dX7_copy_13 : decode cX7_copy 13 = .ok (.aload_n 1, 1) := by decide +kernel
theorem dX7_copy_14 : decode cX7_copy 14 = .ok (.getfield 11, 3) := by decide +kernel
theorem dX7_copy_17 : decode cX7_copy 17 = .ok (.iload_n 2, 1) := by decide +kernel
theorem dX7_copy_18 : decode cX7_copy 18 = .ok (.aaload, 1) := by decide +kernel
theorem dX7_copy_19 : decode cX7_copy 19 = .ok (.invokevirtual 18, 3) := by decide +kernel
theorem dX7_copy_22 : decode cX7_copy 22 = .ok (.iinc 2 1, 3) := by decide +kernel
theorem dX7_copy_25 : decode cX7_copy 25 = .ok (.goto (-23), 3) := by decide +kernel
theorem dX7_copy_28 : decode cX7_copy 28 = .ok (.aload_n 0, 1) := by decide +kernel
theorem dX7_copy_29 : decode cX7_copy 29 = .ok (.aload_n 1, 1) := by decide +kernel
theorem dX7_copy_30 : decode cX7_copy 30 = .ok (.getfield 22, 3) := by decide +kernel
theorem dX7_copy_33 : decode cX7_copy 33 = .ok (.putfield 22, 3) := by decide +kernel
theorem dX7_copy_36 : decode cX7_copy 36 = .ok (.aload_n 0, 1) := by decide +kernel
theorem dX7_copy_37 : decode cX7_copy 37 = .ok (.aload_n 1, 1) := by decide +kernel
theorem dX7_copy_38 : decode cX7_copy 38 = .ok (.getfield 26, 3) := by decide +kernel
theorem dX7_copy_41 : decode cX7_copy 41 = .ok (.putfield 26, 3) := by decide +kernel
theorem dX7_copy_44 : decode cX7_copy 44 = .ok (.return_, 1) := by decide +kernel
theorem dX7_hasRoom_0 : decode cX7_hasRoom 0 = .ok (.aload_n 0, 1) := by decide +kernel
theorem dX7_hasRoom_1 : decode cX7_hasRoom 1 = .ok (.getfield 22, 3) := by decide +kernel
theorem dX7_hasRoom_4 : decode cX7_hasRoom 4 = .ok (.iconst 4, 1) := by decide +kernel
theorem dX7_hasRoom_5 : decode cX7_hasRoom 5 = .ok (.if_icmp .ge 7, 3) := by decide +kernel
theorem dX7_hasRoom_8 : decode cX7_hasRoom 8 = .ok (.iconst 1, 1) := by decide +kernel
theorem dX7_hasRoom_9 : decode cX7_hasRoom 9 = .ok (.goto 4, 3) := by decide +kernel
theorem dX7_hasRoom_12 : decode cX7_hasRoom 12 = .ok (.iconst 0, 1) := by decide +kernel
theorem dX7_hasRoom_13 : decode cX7_hasRoom 13 = .ok (.ireturn, 1) := by decide +kernel
theorem dX7_isKnown_0 : decode cX7_isKnown 0 = .ok (.iload_n 1, 1) := by decide +kernel
theorem dX7_isKnown_1 : decode cX7_isKnown 1 = .ok (.ifCond .lt 20, 3) := by decide +kernel
theorem dX7_isKnown_4 : decode cX7_isKnown 4 = .ok (.iload_n 1, 1) := by decide +kernel
theorem dX7_isKnown_5 : decode cX7_isKnown 5 = .ok (.aload_n 0, 1) := by decide +kernel
theorem dX7_isKnown_6 : decode cX7_isKnown 6 = .ok (.getfield 22, 3) := by decide +kernel
theorem dX7_isKnown_9 : decode cX7_isKnown 9 = .ok (.if_icmp .ge 12, 3) := by decide +kernel
theorem dX7_isKnown_12 : decode cX7_isKnown 12 = .ok (.iload_n 1, 1) := by decide +kernel
theorem dX7_isKnown_13 : decode cX7_isKnown 13 = .ok (.iconst 4, 1) := by decide +kernel
theorem dX7_isKnown_14 : decode cX7_isKnown 14 = .ok (.if_icmp .ge 7, 3) := by decide +kernel
theorem dX7_isKnown_17 : decode cX7_isKnown 17 = .ok (.iconst 1, 1) := by decide +kernel
theorem dX7_isKnown_18 : decode cX7_isKnown 18 = .ok (.goto 4, 3) := by decide +kernel
theorem dX7_isKnown_21 : decode cX7_isKnown 21 = .ok (.iconst 0, 1) := by decide +kernel
theorem dX7_isKnown_22 : decode cX7_isKnown 22 = .ok (.ireturn, 1) := by decide +kernel
theorem dX7_isHere_0 : decode cX7_isHere 0 = .ok (.aload_n 0, 1) := by decide +kernel
theorem dX7_isHere_1 : decode cX7_isHere 1 = .ok (.iload_n 1, 1) := by decide +kernel
theorem dX7_isHere_2 : decode cX7_isHere 2 = .ok (.invokevirtual 29, 3) := by decide +kernel
theorem dX7_isHere_5 : decode cX7_isHere 5 = .ok (.ifCond .eq 18, 3) := by decide +kernel
theorem dX7_isHere_8 : decode cX7_isHere 8 = .ok (.aload_n 0, 1) := by decide +kernel
theorem dX7_isHere_9 : decode cX7_isHere 9 = .ok (.iload_n 1, 1) := by decide +kernel
theorem dX7_isHere_10 : decode cX7_isHere 10 = .ok (.invokevirtual 33, 3) := by decide +kernel
theorem dX7_isHere_13 : decode cX7_isHere 13 = .ok (.getfield 37, 3) := by decide +kernel
theorem dX7_isHere_16 : decode cX7_isHere 16 = .ok (.ifCond .ne 7, 3) := by decide +kernel
theorem dX7_isHere_19 : decode cX7_isHere 19 = .ok (.iconst 1, 1) := by decide +kernel
theorem dX7_isHere_20 : decode cX7_isHere 20 = .ok (.goto 4, 3) := by decide +kernel
theorem dX7_isHere_23 : decode cX7_isHere 23 = .ok (.iconst 0, 1) := by decide +kernel
theorem dX7_isHere_24 : decode cX7_isHere 24 = .ok (.ireturn, 1) := by decide +kernel
theorem dX7_one_0 : decode cX7_one 0 = .ok (.iload_n 1, 1) := by decide +kernel
theorem dX7_one_1 : decode cX7_one 1 = .ok (.ifCond .lt 17, 3) := by decide +kernel
theorem dX7_one_4 : decode cX7_one 4 = .ok (.iload_n 1, 1) := by decide +kernel
theorem dX7_one_5 : decode cX7_one 5 = .ok (.iconst 4, 1) := by decide +kernel
theorem dX7_one_6 : decode cX7_one 6 = .ok (.if_icmp .ge 12, 3) := by decide +kernel
theorem dX7_one_9 : decode cX7_one 9 = .ok (.aload_n 0, 1) := by decide +kernel
theorem dX7_one_10 : decode cX7_one 10 = .ok (.getfield 11, 3) := by decide +kernel
theorem dX7_one_13 : decode cX7_one 13 = .ok (.iload_n 1, 1) := by decide +kernel
theorem dX7_one_14 : decode cX7_one 14 = .ok (.aaload, 1) := by decide +kernel
theorem dX7_one_15 : decode cX7_one 15 = .ok (.goto 9, 3) := by decide +kernel
theorem dX7_one_18 : decode cX7_one 18 = .ok (.aload_n 0, 1) := by decide +kernel
theorem dX7_one_19 : decode cX7_one 19 = .ok (.getfield 11, 3) := by decide +kernel
theorem dX7_one_22 : decode cX7_one 22 = .ok (.iconst 0, 1) := by decide +kernel
theorem dX7_one_23 : decode cX7_one 23 = .ok (.aaload, 1) := by decide +kernel
theorem dX7_one_24 : decode cX7_one 24 = .ok (.areturn, 1) := by decide +kernel
theorem dX7_welcome_0 : decode cX7_welcome 0 = .ok (.aload_n 0, 1) := by decide +kernel
theorem dX7_welcome_1 : decode cX7_welcome 1 = .ok (.getfield 22, 3) := by decide +kernel
theorem dX7_welcome_4 : decode cX7_welcome 4 = .ok (.istore_n 2, 1) := by decide +kernel
theorem dX7_welcome_5 : decode cX7_welcome 5 = .ok (.aload_n 0, 1) := by decide +kernel
theorem dX7_welcome_6 : decode cX7_welcome 6 = .ok (.iload_n 2, 1) := by decide +kernel
theorem dX7_welcome_7 : decode cX7_welcome 7 = .ok (.invokevirtual 33, 3) := by decide +kernel
theorem dX7_welcome_10 : decode cX7_welcome 10 = .ok (.aload_n 1, 1) := by decide +kernel
theorem dX7_welcome_11 : decode cX7_welcome 11 = .ok (.invokevirtual 41, 3) := by decide +kernel
theorem dX7_welcome_14 : decode cX7_welcome 14 = .ok (.aload_n 0, 1) := by decide +kernel
theorem dX7_welcome_15 : decode cX7_welcome 15 = .ok (.dup, 1) := by decide +kernel
theorem dX7_welcome_16 : decode cX7_welcome 16 = .ok (.getfield 22, 3) := by decide +kernel
theorem dX7_welcome_19 : decode cX7_welcome 19 = .ok (.iconst 1, 1) := by decide +kernel
theorem dX7_welcome_20 : decode cX7_welcome 20 = .ok (.iadd, 1) := by decide +kernel
theorem dX7_welcome_21 : decode cX7_welcome 21 = .ok (.putfield 22, 3) := by decide +kernel
theorem dX7_welcome_24 : decode cX7_welcome 24 = .ok (.iload_n 2, 1) := by decide +kernel
theorem dX7_welcome_25 : decode cX7_welcome 25 = .ok (.ireturn, 1) := by decide +kernel
theorem dX7_passWeek_0 : decode cX7_passWeek 0 = .ok (.aload_n 0, 1) := by decide +kernel
theorem dX7_passWeek_1 : decode cX7_passWeek 1 = .ok (.dup, 1) := by decide +kernel
theorem dX7_passWeek_2 : decode cX7_passWeek 2 = .ok (.getfield 26, 3) := by decide +kernel
theorem dX7_passWeek_5 : decode cX7_passWeek 5 = .ok (.iconst 1, 1) := by decide +kernel
theorem dX7_passWeek_6 : decode cX7_passWeek 6 = .ok (.iadd, 1) := by decide +kernel
theorem dX7_passWeek_7 : decode cX7_passWeek 7 = .ok (.putfield 26, 3) := by decide +kernel
theorem dX7_passWeek_10 : decode cX7_passWeek 10 = .ok (.iconst 0, 1) := by decide +kernel
theorem dX7_passWeek_11 : decode cX7_passWeek 11 = .ok (.istore_n 2, 1) := by decide +kernel
theorem dX7_passWeek_12 : decode cX7_passWeek 12 = .ok (.iload_n 2, 1) := by decide +kernel
theorem dX7_passWeek_13 : decode cX7_passWeek 13 = .ok (.aload_n 0, 1) := by decide +kernel
theorem dX7_passWeek_14 : decode cX7_passWeek 14 = .ok (.getfield 22, 3) := by decide +kernel
theorem dX7_passWeek_17 : decode cX7_passWeek 17 = .ok (.if_icmp .ge 22, 3) := by decide +kernel
theorem dX7_passWeek_20 : decode cX7_passWeek 20 = .ok (.aload_n 0, 1) := by decide +kernel
theorem dX7_passWeek_21 : decode cX7_passWeek 21 = .ok (.iload_n 2, 1) := by decide +kernel
theorem dX7_passWeek_22 : decode cX7_passWeek 22 = .ok (.invokevirtual 33, 3) := by decide +kernel
theorem dX7_passWeek_25 : decode cX7_passWeek 25 = .ok (.aload_n 0, 1) := by decide +kernel
theorem dX7_passWeek_26 : decode cX7_passWeek 26 = .ok (.getfield 26, 3) := by decide +kernel
theorem dX7_passWeek_29 : decode cX7_passWeek 29 = .ok (.aload_n 1, 1) := by decide +kernel
theorem dX7_passWeek_30 : decode cX7_passWeek 30 = .ok (.invokevirtual 45, 3) := by decide +kernel
theorem dX7_passWeek_33 : decode cX7_passWeek 33 = .ok (.iinc 2 1, 3) := by decide +kernel
theorem dX7_passWeek_36 : decode cX7_passWeek 36 = .ok (.goto (-24), 3) := by decide +kernel
theorem dX7_passWeek_39 : decode cX7_passWeek 39 = .ok (.return_, 1) := by decide +kernel
theorem dX7_dropLapsed_0 : decode cX7_dropLapsed 0 = .ok (.iconst 0, 1) := by decide +kernel
theorem dX7_dropLapsed_1 : decode cX7_dropLapsed 1 = .ok (.istore_n 2, 1) := by decide +kernel
theorem dX7_dropLapsed_2 : decode cX7_dropLapsed 2 = .ok (.iload_n 2, 1) := by decide +kernel
theorem dX7_dropLapsed_3 : decode cX7_dropLapsed 3 = .ok (.aload_n 0, 1) := by decide +kernel
theorem dX7_dropLapsed_4 : decode cX7_dropLapsed 4 = .ok (.getfield 22, 3) := by decide +kernel
theorem dX7_dropLapsed_7 : decode cX7_dropLapsed 7 = .ok (.if_icmp .ge 22, 3) := by decide +kernel
theorem dX7_dropLapsed_10 : decode cX7_dropLapsed 10 = .ok (.aload_n 0, 1) := by decide +kernel
theorem dX7_dropLapsed_11 : decode cX7_dropLapsed 11 = .ok (.iload_n 2, 1) := by decide +kernel
theorem dX7_dropLapsed_12 : decode cX7_dropLapsed 12 = .ok (.invokevirtual 33, 3) := by decide +kernel
theorem dX7_dropLapsed_15 : decode cX7_dropLapsed 15 = .ok (.aload_n 0, 1) := by decide +kernel
theorem dX7_dropLapsed_16 : decode cX7_dropLapsed 16 = .ok (.getfield 26, 3) := by decide +kernel
theorem dX7_dropLapsed_19 : decode cX7_dropLapsed 19 = .ok (.aload_n 1, 1) := by decide +kernel
theorem dX7_dropLapsed_20 : decode cX7_dropLapsed 20 = .ok (.invokevirtual 49, 3) := by decide +kernel
theorem dX7_dropLapsed_23 : decode cX7_dropLapsed 23 = .ok (.iinc 2 1, 3) := by decide +kernel
theorem dX7_dropLapsed_26 : decode cX7_dropLapsed 26 = .ok (.goto (-24), 3) := by decide +kernel
theorem dX7_dropLapsed_29 : decode cX7_dropLapsed 29 = .ok (.return_, 1) := by decide +kernel
theorem dX7_forgive_0 : decode cX7_forgive 0 = .ok (.aload_n 0, 1) := by decide +kernel
theorem dX7_forgive_1 : decode cX7_forgive 1 = .ok (.invokevirtual 52, 3) := by decide +kernel
theorem dX7_forgive_4 : decode cX7_forgive 4 = .ok (.istore_n 1, 1) := by decide +kernel
theorem dX7_forgive_5 : decode cX7_forgive 5 = .ok (.iconst 0, 1) := by decide +kernel
theorem dX7_forgive_6 : decode cX7_forgive 6 = .ok (.istore_n 2, 1) := by decide +kernel
theorem dX7_forgive_7 : decode cX7_forgive 7 = .ok (.iload_n 2, 1) := by decide +kernel
theorem dX7_forgive_8 : decode cX7_forgive 8 = .ok (.aload_n 0, 1) := by decide +kernel
theorem dX7_forgive_9 : decode cX7_forgive 9 = .ok (.getfield 22, 3) := by decide +kernel
theorem dX7_forgive_12 : decode cX7_forgive 12 = .ok (.if_icmp .ge 18, 3) := by decide +kernel
theorem dX7_forgive_15 : decode cX7_forgive 15 = .ok (.aload_n 0, 1) := by decide +kernel
theorem dX7_forgive_16 : decode cX7_forgive 16 = .ok (.iload_n 2, 1) := by decide +kernel
theorem dX7_forgive_17 : decode cX7_forgive 17 = .ok (.invokevirtual 33, 3) := by decide +kernel
theorem dX7_forgive_20 : decode cX7_forgive 20 = .ok (.iconst 0, 1) := by decide +kernel
theorem dX7_forgive_21 : decode cX7_forgive 21 = .ok (.putfield 56, 3) := by decide +kernel
theorem dX7_forgive_24 : decode cX7_forgive 24 = .ok (.iinc 2 1, 3) := by decide +kernel
theorem dX7_forgive_27 : decode cX7_forgive 27 = .ok (.goto (-20), 3) := by decide +kernel
theorem dX7_forgive_30 : decode cX7_forgive 30 = .ok (.iload_n 1, 1) := by decide +kernel
theorem dX7_forgive_31 : decode cX7_forgive 31 = .ok (.ireturn, 1) := by decide +kernel
theorem dX7_someoneCovered_0 : decode cX7_someoneCovered 0 = .ok (.iconst 0, 1) := by decide +kernel
theorem dX7_someoneCovered_1 : decode cX7_someoneCovered 1 = .ok (.istore 4, 2) := by decide +kernel
theorem dX7_someoneCovered_3 : decode cX7_someoneCovered 3 = .ok (.iload 4, 2) := by decide +kernel
theorem dX7_someoneCovered_5 : decode cX7_someoneCovered 5 = .ok (.aload_n 0, 1) := by decide +kernel
theorem dX7_someoneCovered_6 : decode cX7_someoneCovered 6 = .ok (.getfield 22, 3) := by decide +kernel
theorem dX7_someoneCovered_9 : decode cX7_someoneCovered 9 = .ok (.if_icmp .ge 67, 3) := by decide +kernel
theorem dX7_someoneCovered_12 : decode cX7_someoneCovered 12 = .ok (.aload_n 0, 1) := by decide +kernel
theorem dX7_someoneCovered_13 : decode cX7_someoneCovered 13 = .ok (.iload 4, 2) := by decide +kernel
theorem dX7_someoneCovered_15 : decode cX7_someoneCovered 15 = .ok (.invokevirtual 33, 3) := by decide +kernel
theorem dX7_someoneCovered_18 : decode cX7_someoneCovered 18 = .ok (.astore 5, 2) := by decide +kernel
theorem dX7_someoneCovered_20 : decode cX7_someoneCovered 20 = .ok (.aload_n 3, 1) := by decide +kernel
theorem dX7_someoneCovered_21 : decode cX7_someoneCovered 21 = .ok (.aload 5, 2) := by decide +kernel
theorem dX7_someoneCovered_23 : decode cX7_someoneCovered 23 = .ok (.getfield 59, 3) := by decide +kernel
theorem dX7_someoneCovered_26 : decode cX7_someoneCovered 26 = .ok (.ifCond .eq 12, 3) := by decide +kernel
theorem dX7_someoneCovered_29 : decode cX7_someoneCovered 29 = .ok (.aload_n 0, 1) := by decide +kernel
theorem dX7_someoneCovered_30 : decode cX7_someoneCovered 30 = .ok (.getfield 26, 3) := by decide +kernel
theorem dX7_someoneCovered_33 : decode cX7_someoneCovered 33 = .ok (.iconst 1, 1) := by decide +kernel
theorem dX7_someoneCovered_34 : decode cX7_someoneCovered 34 = .ok (.iadd, 1) := by decide +kernel
theorem dX7_someoneCovered_35 : decode cX7_someoneCovered 35 = .ok (.goto 7, 3) := by decide +kernel
theorem dX7_someoneCovered_38 : decode cX7_someoneCovered 38 = .ok (.aload_n 0, 1) := by decide +kernel
theorem dX7_someoneCovered_39 : decode cX7_someoneCovered 39 = .ok (.getfield 26, 3) := by decide +kernel
theorem dX7_someoneCovered_42 : decode cX7_someoneCovered 42 = .ok (.invokevirtual 62, 3) := by decide +kernel
theorem dX7_someoneCovered_45 : decode cX7_someoneCovered 45 = .ok (.istore 6, 2) := by decide +kernel
theorem dX7_someoneCovered_47 : decode cX7_someoneCovered 47 = .ok (.aload 5, 2) := by decide +kernel
theorem dX7_someoneCovered_49 : decode cX7_someoneCovered 49 = .ok (.getfield 37, 3) := by decide +kernel
theorem dX7_someoneCovered_52 : decode cX7_someoneCovered 52 = .ok (.ifCond .ne 18, 3) := by decide +kernel
theorem dX7_someoneCovered_55 : decode cX7_someoneCovered 55 = .ok (.aload 5, 2) := by decide +kernel
theorem dX7_someoneCovered_57 : decode cX7_someoneCovered 57 = .ok (.iload_n 1, 1) := by decide +kernel
theorem dX7_someoneCovered_58 : decode cX7_someoneCovered 58 = .ok (.iload_n 2, 1) := by decide +kernel
theorem dX7_someoneCovered_59 : decode cX7_someoneCovered 59 = .ok (.iload 6, 2) := by decide +kernel
theorem dX7_someoneCovered_61 : decode cX7_someoneCovered 61 = .ok (.aload_n 3, 1) := by decide +kernel
theorem dX7_someoneCovered_62 : decode cX7_someoneCovered 62 = .ok (.invokevirtual 68, 3) := by decide +kernel
theorem dX7_someoneCovered_65 : decode cX7_someoneCovered 65 = .ok (.ifCond .eq 5, 3) := by decide +kernel
theorem dX7_someoneCovered_68 : decode cX7_someoneCovered 68 = .ok (.iconst 1, 1) := by decide +kernel
theorem dX7_someoneCovered_69 : decode cX7_someoneCovered 69 = .ok (.ireturn, 1) := by decide +kernel
theorem dX7_someoneCovered_70 : decode cX7_someoneCovered 70 = .ok (.iinc 4 1, 3) := by decide +kernel
theorem dX7_someoneCovered_73 : decode cX7_someoneCovered 73 = .ok (.goto (-70), 3) := by decide +kernel
theorem dX7_someoneCovered_76 : decode cX7_someoneCovered 76 = .ok (.iconst 0, 1) := by decide +kernel
theorem dX7_someoneCovered_77 : decode cX7_someoneCovered 77 = .ok (.ireturn, 1) := by decide +kernel
theorem dX7_allGone_0 : decode cX7_allGone 0 = .ok (.iconst 0, 1) := by decide +kernel
theorem dX7_allGone_1 : decode cX7_allGone 1 = .ok (.istore_n 1, 1) := by decide +kernel
theorem dX7_allGone_2 : decode cX7_allGone 2 = .ok (.iconst 0, 1) := by decide +kernel
theorem dX7_allGone_3 : decode cX7_allGone 3 = .ok (.istore_n 2, 1) := by decide +kernel
theorem dX7_allGone_4 : decode cX7_allGone 4 = .ok (.iload_n 2, 1) := by decide +kernel
theorem dX7_allGone_5 : decode cX7_allGone 5 = .ok (.aload_n 0, 1) := by decide +kernel
theorem dX7_allGone_6 : decode cX7_allGone 6 = .ok (.getfield 22, 3) := by decide +kernel
theorem dX7_allGone_9 : decode cX7_allGone 9 = .ok (.if_icmp .ge 28, 3) := by decide +kernel
theorem dX7_allGone_12 : decode cX7_allGone 12 = .ok (.iload_n 1, 1) := by decide +kernel
theorem dX7_allGone_13 : decode cX7_allGone 13 = .ok (.aload_n 0, 1) := by decide +kernel
theorem dX7_allGone_14 : decode cX7_allGone 14 = .ok (.iload_n 2, 1) := by decide +kernel
theorem dX7_allGone_15 : decode cX7_allGone 15 = .ok (.invokevirtual 33, 3) := by decide +kernel
theorem dX7_allGone_18 : decode cX7_allGone 18 = .ok (.getfield 37, 3) := by decide +kernel
theorem dX7_allGone_21 : decode cX7_allGone 21 = .ok (.ifCond .eq 7, 3) := by decide +kernel
theorem dX7_allGone_24 : decode cX7_allGone 24 = .ok (.iconst 1, 1) := by decide +kernel
theorem dX7_allGone_25 : decode cX7_allGone 25 = .ok (.goto 4, 3) := by decide +kernel
theorem dX7_allGone_28 : decode cX7_allGone 28 = .ok (.iconst 0, 1) := by decide +kernel
theorem dX7_allGone_29 : decode cX7_allGone 29 = .ok (.iadd, 1) := by decide +kernel
theorem dX7_allGone_30 : decode cX7_allGone 30 = .ok (.istore_n 1, 1) := by decide +kernel
theorem dX7_allGone_31 : decode cX7_allGone 31 = .ok (.iinc 2 1, 3) := by decide +kernel
theorem dX7_allGone_34 : decode cX7_allGone 34 = .ok (.goto (-30), 3) := by decide +kernel
theorem dX7_allGone_37 : decode cX7_allGone 37 = .ok (.iload_n 1, 1) := by decide +kernel
theorem dX7_allGone_38 : decode cX7_allGone 38 = .ok (.ireturn, 1) := by decide +kernel
theorem dX7_allOwed_0 : decode cX7_allOwed 0 = .ok (.iconst 0, 1) := by decide +kernel
theorem dX7_allOwed_1 : decode cX7_allOwed 1 = .ok (.istore_n 1, 1) := by decide +kernel
theorem dX7_allOwed_2 : decode cX7_allOwed 2 = .ok (.iconst 0, 1) := by decide +kernel
theorem dX7_allOwed_3 : decode cX7_allOwed 3 = .ok (.istore_n 2, 1) := by decide +kernel
theorem dX7_allOwed_4 : decode cX7_allOwed 4 = .ok (.iload_n 2, 1) := by decide +kernel
theorem dX7_allOwed_5 : decode cX7_allOwed 5 = .ok (.aload_n 0, 1) := by decide +kernel
theorem dX7_allOwed_6 : decode cX7_allOwed 6 = .ok (.getfield 22, 3) := by decide +kernel
theorem dX7_allOwed_9 : decode cX7_allOwed 9 = .ok (.if_icmp .ge 20, 3) := by decide +kernel
theorem dX7_allOwed_12 : decode cX7_allOwed 12 = .ok (.iload_n 1, 1) := by decide +kernel
theorem dX7_allOwed_13 : decode cX7_allOwed 13 = .ok (.aload_n 0, 1) := by decide +kernel
theorem dX7_allOwed_14 : decode cX7_allOwed 14 = .ok (.iload_n 2, 1) := by decide +kernel
theorem dX7_allOwed_15 : decode cX7_allOwed 15 = .ok (.invokevirtual 33, 3) := by decide +kernel
theorem dX7_allOwed_18 : decode cX7_allOwed 18 = .ok (.getfield 56, 3) := by decide +kernel
theorem dX7_allOwed_21 : decode cX7_allOwed 21 = .ok (.iadd, 1) := by decide +kernel
theorem dX7_allOwed_22 : decode cX7_allOwed 22 = .ok (.istore_n 1, 1) := by decide +kernel
theorem dX7_allOwed_23 : decode cX7_allOwed 23 = .ok (.iinc 2 1, 3) := by decide +kernel
theorem dX7_allOwed_26 : decode cX7_allOwed 26 = .ok (.goto (-22), 3) := by decide +kernel
theorem dX7_allOwed_29 : decode cX7_allOwed 29 = .ok (.iload_n 1, 1) := by decide +kernel
theorem dX7_allOwed_30 : decode cX7_allOwed 30 = .ok (.ireturn, 1) := by decide +kernel
theorem dX7_allGot_0 : decode cX7_allGot 0 = .ok (.iconst 0, 1) := by decide +kernel
theorem dX7_allGot_1 : decode cX7_allGot 1 = .ok (.istore_n 1, 1) := by decide +kernel
theorem dX7_allGot_2 : decode cX7_allGot 2 = .ok (.iconst 0, 1) := by decide +kernel
theorem dX7_allGot_3 : decode cX7_allGot 3 = .ok (.istore_n 2, 1) := by decide +kernel
theorem dX7_allGot_4 : decode cX7_allGot 4 = .ok (.iload_n 2, 1) := by decide +kernel
theorem dX7_allGot_5 : decode cX7_allGot 5 = .ok (.aload_n 0, 1) := by decide +kernel
theorem dX7_allGot_6 : decode cX7_allGot 6 = .ok (.getfield 22, 3) := by decide +kernel
theorem dX7_allGot_9 : decode cX7_allGot 9 = .ok (.if_icmp .ge 20, 3) := by decide +kernel
theorem dX7_allGot_12 : decode cX7_allGot 12 = .ok (.iload_n 1, 1) := by decide +kernel
theorem dX7_allGot_13 : decode cX7_allGot 13 = .ok (.aload_n 0, 1) := by decide +kernel
theorem dX7_allGot_14 : decode cX7_allGot 14 = .ok (.iload_n 2, 1) := by decide +kernel
theorem dX7_allGot_15 : decode cX7_allGot 15 = .ok (.invokevirtual 33, 3) := by decide +kernel
theorem dX7_allGot_18 : decode cX7_allGot 18 = .ok (.getfield 72, 3) := by decide +kernel
theorem dX7_allGot_21 : decode cX7_allGot 21 = .ok (.iadd, 1) := by decide +kernel
theorem dX7_allGot_22 : decode cX7_allGot 22 = .ok (.istore_n 1, 1) := by decide +kernel
theorem dX7_allGot_23 : decode cX7_allGot 23 = .ok (.iinc 2 1, 3) := by decide +kernel
theorem dX7_allGot_26 : decode cX7_allGot 26 = .ok (.goto (-22), 3) := by decide +kernel
theorem dX7_allGot_29 : decode cX7_allGot 29 = .ok (.iload_n 1, 1) := by decide +kernel
theorem dX7_allGot_30 : decode cX7_allGot 30 = .ok (.ireturn, 1) := by decide +kernel
theorem dX7_allCredits_0 : decode cX7_allCredits 0 = .ok (.iconst 0, 1) := by decide +kernel
theorem dX7_allCredits_1 : decode cX7_allCredits 1 = .ok (.istore_n 1, 1) := by decide +kernel
theorem dX7_allCredits_2 : decode cX7_allCredits 2 = .ok (.iconst 0, 1) := by decide +kernel
theorem dX7_allCredits_3 : decode cX7_allCredits 3 = .ok (.istore_n 2, 1) := by decide +kernel
theorem dX7_allCredits_4 : decode cX7_allCredits 4 = .ok (.iload_n 2, 1) := by decide +kernel
theorem dX7_allCredits_5 : decode cX7_allCredits 5 = .ok (.aload_n 0, 1) := by decide +kernel
theorem dX7_allCredits_6 : decode cX7_allCredits 6 = .ok (.getfield 22, 3) := by decide +kernel
theorem dX7_allCredits_9 : decode cX7_allCredits 9 = .ok (.if_icmp .ge 23, 3) := by decide +kernel
theorem dX7_allCredits_12 : decode cX7_allCredits 12 = .ok (.iload_n 1, 1) := by decide +kernel
theorem dX7_allCredits_13 : decode cX7_allCredits 13 = .ok (.aload_n 0, 1) := by decide +kernel
theorem dX7_allCredits_14 : decode cX7_allCredits 14 = .ok (.iload_n 2, 1) := by decide +kernel
theorem dX7_allCredits_15 : decode cX7_allCredits 15 = .ok (.invokevirtual 33, 3) := by decide +kernel
theorem dX7_allCredits_18 : decode cX7_allCredits 18 = .ok (.getfield 75, 3) := by decide +kernel
theorem dX7_allCredits_21 : decode cX7_allCredits 21 = .ok (.getfield 79, 3) := by decide +kernel
theorem dX7_allCredits_24 : decode cX7_allCredits 24 = .ok (.iadd, 1) := by decide +kernel
theorem dX7_allCredits_25 : decode cX7_allCredits 25 = .ok (.istore_n 1, 1) := by decide +kernel
theorem dX7_allCredits_26 : decode cX7_allCredits 26 = .ok (.iinc 2 1, 3) := by decide +kernel
theorem dX7_allCredits_29 : decode cX7_allCredits 29 = .ok (.goto (-25), 3) := by decide +kernel
theorem dX7_allCredits_32 : decode cX7_allCredits 32 = .ok (.iload_n 1, 1) := by decide +kernel
theorem dX7_allCredits_33 : decode cX7_allCredits 33 = .ok (.ireturn, 1) := by decide +kernel
theorem dX7_live_0 : decode cX7_live 0 = .ok (.aload_n 0, 1) := by decide +kernel
theorem dX7_live_1 : decode cX7_live 1 = .ok (.iconst 0, 1) := by decide +kernel
theorem dX7_live_2 : decode cX7_live 2 = .ok (.putfield 82, 3) := by decide +kernel
theorem dX7_live_5 : decode cX7_live 5 = .ok (.aload_n 0, 1) := by decide +kernel
theorem dX7_live_6 : decode cX7_live 6 = .ok (.iload_n 2, 1) := by decide +kernel
theorem dX7_live_7 : decode cX7_live 7 = .ok (.putfield 85, 3) := by decide +kernel
theorem dX7_live_10 : decode cX7_live 10 = .ok (.iconst 0, 1) := by decide +kernel
theorem dX7_live_11 : decode cX7_live 11 = .ok (.istore 4, 2) := by decide +kernel
theorem dX7_live_13 : decode cX7_live 13 = .ok (.iload 4, 2) := by decide +kernel
theorem dX7_live_15 : decode cX7_live 15 = .ok (.iload_n 1, 1) := by decide +kernel
theorem dX7_live_16 : decode cX7_live 16 = .ok (.if_icmp .ge 55, 3) := by decide +kernel
theorem dX7_live_19 : decode cX7_live 19 = .ok (.iconst 0, 1) := by decide +kernel
theorem dX7_live_20 : decode cX7_live 20 = .ok (.istore 5, 2) := by decide +kernel
theorem dX7_live_22 : decode cX7_live 22 = .ok (.iload 5, 2) := by decide +kernel
theorem dX7_live_24 : decode cX7_live 24 = .ok (.aload_n 0, 1) := by decide +kernel
theorem dX7_live_25 : decode cX7_live 25 = .ok (.getfield 22, 3) := by decide +kernel
theorem dX7_live_28 : decode cX7_live 28 = .ok (.if_icmp .ge 32, 3) := by decide +kernel
theorem dX7_live_31 : decode cX7_live 31 = .ok (.aload_n 0, 1) := by decide +kernel
theorem dX7_live_32 : decode cX7_live 32 = .ok (.iload 5, 2) := by decide +kernel
theorem dX7_live_34 : decode cX7_live 34 = .ok (.invokevirtual 33, 3) := by decide +kernel
theorem dX7_live_37 : decode cX7_live 37 = .ok (.getfield 37, 3) := by decide +kernel
theorem dX7_live_40 : decode cX7_live 40 = .ok (.ifCond .ne 14, 3) := by decide +kernel
theorem dX7_live_43 : decode cX7_live 43 = .ok (.aload_n 0, 1) := by decide +kernel
theorem dX7_live_44 : decode cX7_live 44 = .ok (.aload_n 0, 1) := by decide +kernel
theorem dX7_live_45 : decode cX7_live 45 = .ok (.iload 5, 2) := by decide +kernel
theorem dX7_live_47 : decode cX7_live 47 = .ok (.invokevirtual 33, 3) := by decide +kernel
theorem dX7_live_50 : decode cX7_live 50 = .ok (.aload_n 3, 1) := by decide +kernel
theorem dX7_live_51 : decode cX7_live 51 = .ok (.invokevirtual 88, 3) := by decide +kernel
theorem dX7_live_54 : decode cX7_live 54 = .ok (.iinc 5 1, 3) := by decide +kernel
theorem dX7_live_57 : decode cX7_live 57 = .ok (.goto (-35), 3) := by decide +kernel
theorem dX7_live_60 : decode cX7_live 60 = .ok (.aload_n 0, 1) := by decide +kernel
theorem dX7_live_61 : decode cX7_live 61 = .ok (.aload_n 3, 1) := by decide +kernel
theorem dX7_live_62 : decode cX7_live 62 = .ok (.invokevirtual 92, 3) := by decide +kernel
theorem dX7_live_65 : decode cX7_live 65 = .ok (.iinc 4 1, 3) := by decide +kernel
theorem dX7_live_68 : decode cX7_live 68 = .ok (.goto (-55), 3) := by decide +kernel
theorem dX7_live_71 : decode cX7_live 71 = .ok (.return_, 1) := by decide +kernel
theorem dX7_actByDraw_0 : decode cX7_actByDraw 0 = .ok (.aload_n 0, 1) := by decide +kernel
theorem dX7_actByDraw_1 : decode cX7_actByDraw 1 = .ok (.invokevirtual 96, 3) := by decide +kernel
theorem dX7_actByDraw_4 : decode cX7_actByDraw 4 = .ok (.invokestatic 99, 3) := by decide +kernel
theorem dX7_actByDraw_7 : decode cX7_actByDraw 7 = .ok (.istore_n 3, 1) := by decide +kernel
theorem dX7_actByDraw_8 : decode cX7_actByDraw 8 = .ok (.iload_n 3, 1) := by decide +kernel
theorem dX7_actByDraw_9 : decode cX7_actByDraw 9 = .ok (.bipush 9, 2) := by decide +kernel
theorem dX7_actByDraw_11 : decode cX7_actByDraw 11 = .ok (.if_icmp .eq 43, 3) := by decide +kernel
theorem dX7_actByDraw_14 : decode cX7_actByDraw 14 = .ok (.aload_n 1, 1) := by decide +kernel
theorem dX7_actByDraw_15 : decode cX7_actByDraw 15 = .ok (.iload_n 3, 1) := by decide +kernel
theorem dX7_actByDraw_16 : decode cX7_actByDraw 16 = .ok (.aload_n 2, 1) := by decide +kernel
theorem dX7_actByDraw_17 : decode cX7_actByDraw 17 = .ok (.invokevirtual 102, 3) := by decide +kernel
theorem dX7_actByDraw_20 : decode cX7_actByDraw 20 = .ok (.ifCond .eq 34, 3) := by decide +kernel
theorem dX7_actByDraw_23 : decode cX7_actByDraw 23 = .ok (.aload_n 1, 1) := by decide +kernel
theorem dX7_actByDraw_24 : decode cX7_actByDraw 24 = .ok (.iload_n 3, 1) := by decide +kernel
theorem dX7_actByDraw_25 : decode cX7_actByDraw 25 = .ok (.aload_n 2, 1) := by decide +kernel
theorem dX7_actByDraw_26 : decode cX7_actByDraw 26 = .ok (.aload_n 0, 1) := by decide +kernel
theorem dX7_actByDraw_27 : decode cX7_actByDraw 27 = .ok (.getfield 26, 3) := by decide +kernel
theorem dX7_actByDraw_30 : decode cX7_actByDraw 30 = .ok (.invokevirtual 106, 3) := by decide +kernel
theorem dX7_actByDraw_33 : decode cX7_actByDraw 33 = .ok (.aload_n 0, 1) := by decide +kernel
theorem dX7_actByDraw_34 : decode cX7_actByDraw 34 = .ok (.dup, 1) := by decide +kernel
theorem dX7_actByDraw_35 : decode cX7_actByDraw 35 = .ok (.getfield 82, 3) := by decide +kernel
theorem dX7_actByDraw_38 : decode cX7_actByDraw 38 = .ok (.iload_n 3, 1) := by decide +kernel
theorem dX7_actByDraw_39 : decode cX7_actByDraw 39 = .ok (.invokestatic 110, 3) := by decide +kernel
theorem dX7_actByDraw_42 : decode cX7_actByDraw 42 = .ok (.ifCond .eq 7, 3) := by decide +kernel
theorem dX7_actByDraw_45 : decode cX7_actByDraw 45 = .ok (.iconst 0, 1) := by decide +kernel
theorem dX7_actByDraw_46 : decode cX7_actByDraw 46 = .ok (.goto 4, 3) := by decide +kernel
theorem dX7_actByDraw_49 : decode cX7_actByDraw 49 = .ok (.iconst 1, 1) := by decide +kernel
theorem dX7_actByDraw_50 : decode cX7_actByDraw 50 = .ok (.iadd, 1) := by decide +kernel
theorem dX7_actByDraw_51 : decode cX7_actByDraw 51 = .ok (.putfield 82, 3) := by decide +kernel
theorem dX7_actByDraw_54 : decode cX7_actByDraw 54 = .ok (.return_, 1) := by decide +kernel
theorem dX7_drawn_0 : decode cX7_drawn 0 = .ok (.aload_n 0, 1) := by decide +kernel
theorem dX7_drawn_1 : decode cX7_drawn 1 = .ok (.ldc 113, 2) := by decide +kernel
theorem dX7_drawn_3 : decode cX7_drawn 3 = .ok (.aload_n 0, 1) := by decide +kernel
theorem dX7_drawn_4 : decode cX7_drawn 4 = .ok (.getfield 85, 3) := by decide +kernel
theorem dX7_drawn_7 : decode cX7_drawn 7 = .ok (.imul, 1) := by decide +kernel
theorem dX7_drawn_8 : decode cX7_drawn 8 = .ok (.sipush 12345, 3) := by decide +kernel
theorem dX7_drawn_11 : decode cX7_drawn 11 = .ok (.iadd, 1) := by decide +kernel
theorem dX7_drawn_12 : decode cX7_drawn 12 = .ok (.ldc 114, 2) := by decide +kernel
theorem dX7_drawn_14 : decode cX7_drawn 14 = .ok (.iand, 1) := by decide +kernel
theorem dX7_drawn_15 : decode cX7_drawn 15 = .ok (.putfield 85, 3) := by decide +kernel
theorem dX7_drawn_18 : decode cX7_drawn 18 = .ok (.aload_n 0, 1) := by decide +kernel
theorem dX7_drawn_19 : decode cX7_drawn 19 = .ok (.getfield 85, 3) := by decide +kernel
theorem dX7_drawn_22 : decode cX7_drawn 22 = .ok (.ldc 115, 2) := by decide +kernel
theorem dX7_drawn_24 : decode cX7_drawn 24 = .ok (.idiv, 1) := by decide +kernel
theorem dX7_drawn_25 : decode cX7_drawn 25 = .ok (.bipush 12, 2) := by decide +kernel
theorem dX7_drawn_27 : decode cX7_drawn 27 = .ok (.irem, 1) := by decide +kernel
theorem dX7_drawn_28 : decode cX7_drawn 28 = .ok (.ireturn, 1) := by decide +kernel
theorem dX8_init_0 : decode cX8_init 0 = .ok (.aload_n 0, 1) := by decide +kernel
theorem dX8_init_1 : decode cX8_init 1 = .ok (.invokespecial 1, 3) := by decide +kernel
theorem dX8_init_4 : decode cX8_init 4 = .ok (.aload_n 0, 1) := by decide +kernel
theorem dX8_init_5 : decode cX8_init 5 = .ok (.new 7, 3) := by decide +kernel
theorem dX8_init_8 : decode cX8_init 8 = .ok (.dup, 1) := by decide +kernel
theorem dX8_init_9 : decode cX8_init 9 = .ok (.invokespecial 9, 3) := by decide +kernel
theorem dX8_init_12 : decode cX8_init 12 = .ok (.putfield 10, 3) := by decide +kernel
theorem dX8_init_15 : decode cX8_init 15 = .ok (.aload_n 0, 1) := by decide +kernel
theorem dX8_init_16 : decode cX8_init 16 = .ok (.new 16, 3) := by decide +kernel
theorem dX8_init_19 : decode cX8_init 19 = .ok (.dup, 1) := by decide +kernel
theorem dX8_init_20 : decode cX8_init 20 = .ok (.invokespecial 18, 3) := by decide +kernel
theorem dX8_init_23 : decode cX8_init 23 = .ok (.putfield 19, 3) := by decide +kernel
theorem dX8_init_26 : decode cX8_init 26 = .ok (.aload_n 0, 1) := by decide +kernel
theorem dX8_init_27 : decode cX8_init 27 = .ok (.new 23, 3) := by decide +kernel
theorem dX8_init_30 : decode cX8_init 30 = .ok (.dup, 1) := by decide +kernel
theorem dX8_init_31 : decode cX8_init 31 = .ok (.invokespecial 25, 3) := by decide +kernel
theorem dX8_init_34 : decode cX8_init 34 = .ok (.putfield 26, 3) := by decide +kernel
theorem dX8_init_37 : decode cX8_init 37 = .ok (.aload_n 0, 1) := by decide +kernel
theorem dX8_init_38 : decode cX8_init 38 = .ok (.new 23, 3) := by decide +kernel
theorem dX8_init_41 : decode cX8_init 41 = .ok (.dup, 1) := by decide +kernel
theorem dX8_init_42 : decode cX8_init 42 = .ok (.invokespecial 25, 3) := by decide +kernel
theorem dX8_init_45 : decode cX8_init 45 = .ok (.putfield 30, 3) := by decide +kernel
theorem dX8_init_48 : decode cX8_init 48 = .ok (.aload_n 0, 1) := by decide +kernel
theorem dX8_init_49 : decode cX8_init 49 = .ok (.new 23, 3) := by decide +kernel
theorem dX8_init_52 : decode cX8_init 52 = .ok (.dup, 1) := by decide +kernel
theorem dX8_init_53 : decode cX8_init 53 = .ok (.invokespecial 25, 3) := by decide +kernel
theorem dX8_init_56 : decode cX8_init 56 = .ok (.putfield 33, 3) := by decide +kernel
theorem dX8_init_59 : decode cX8_init 59 = .ok (.aload_n 0, 1) := by decide +kernel
theorem dX8_init_60 : decode cX8_init 60 = .ok (.new 36, 3) := by decide +kernel
theorem dX8_init_63 : decode cX8_init 63 = .ok (.dup, 1) := by decide +kernel
theorem dX8_init_64 : decode cX8_init 64 = .ok (.invokespecial 38, 3) := by decide +kernel
theorem dX8_init_67 : decode cX8_init 67 = .ok (.putfield 39, 3) := by decide +kernel
theorem dX8_init_70 : decode cX8_init 70 = .ok (.aload_n 0, 1) := by decide +kernel
theorem dX8_init_71 : decode cX8_init 71 = .ok (.new 43, 3) := by decide +kernel
theorem dX8_init_74 : decode cX8_init 74 = .ok (.dup, 1) := by decide +kernel
theorem dX8_init_75 : decode cX8_init 75 = .ok (.invokespecial 45, 3) := by decide +kernel
theorem dX8_init_78 : decode cX8_init 78 = .ok (.putfield 46, 3) := by decide +kernel
theorem dX8_init_81 : decode cX8_init 81 = .ok (.aload_n 0, 1) := by decide +kernel
theorem dX8_init_82 : decode cX8_init 82 = .ok (.new 50, 3) := by decide +kernel
theorem dX8_init_85 : decode cX8_init 85 = .ok (.dup, 1) := by decide +kernel
theorem dX8_init_86 : decode cX8_init 86 = .ok (.invokespecial 52, 3) := by decide +kernel
theorem dX8_init_89 : decode cX8_init 89 = .ok (.putfield 53, 3) := by decide +kernel
theorem dX8_init_92 : decode cX8_init 92 = .ok (.return_, 1) := by decide +kernel
theorem dX8_letter_0 : decode cX8_letter 0 = .ok (.iload_n 1, 1) := by decide +kernel
theorem dX8_letter_1 : decode cX8_letter 1 = .ok (.bipush 32, 2) := by decide +kernel
theorem dX8_letter_3 : decode cX8_letter 3 = .ok (.if_icmp .lt 9, 3) := by decide +kernel
theorem dX8_letter_6 : decode cX8_letter 6 = .ok (.iload_n 1, 1) := by decide +kernel
theorem dX8_letter_7 : decode cX8_letter 7 = .ok (.bipush 126, 2) := by decide +kernel
theorem dX8_letter_9 : decode cX8_letter 9 = .ok (.if_icmp .le 6, 3) := by decide +kernel
theorem dX8_letter_12 : decode cX8_letter 12 = .ok (.bipush (-102), 2) := by decide +kernel
theorem dX8_letter_14 : decode cX8_letter 14 = .ok (.ireturn, 1) := by decide +kernel
theorem dX8_letter_15 : decode cX8_letter 15 = .ok (.aload_n 0, 1) := by decide +kernel
theorem dX8_letter_16 : decode cX8_letter 16 = .ok (.getfield 10, 3) := by decide +kernel
theorem dX8_letter_19 : decode cX8_letter 19 = .ok (.invokevirtual 57, 3) := by decide +kernel
theorem dX8_letter_22 : decode cX8_letter 22 = .ok (.ifCond .ne 6, 3) := by decide +kernel
theorem dX8_letter_25 : decode cX8_letter 25 = .ok (.bipush (-104), 2) := by decide +kernel
theorem dX8_letter_27 : decode cX8_letter 27 = .ok (.ireturn, 1) := by decide +kernel
theorem dX8_letter_28 : decode cX8_letter 28 = .ok (.aload_n 0, 1) := by decide +kernel
theorem dX8_letter_29 : decode cX8_letter 29 = .ok (.getfield 10, 3) := by decide +kernel
theorem dX8_letter_32 : decode cX8_letter 32 = .ok (.iload_n 1, 1) := by decide +kernel
theorem dX8_letter_33 : decode cX8_letter 33 = .ok (.invokevirtual 61, 3) := by decide +kernel
theorem dX8_letter_36 : decode cX8_letter 36 = .ok (.aload_n 0, 1) := by decide +kernel
theorem dX8_letter_37 : decode cX8_letter 37 = .ok (.getfield 10, 3) := by decide +kernel
theorem dX8_letter_40 : decode cX8_letter 40 = .ok (.getfield 65, 3) := by decide +kernel
theorem dX8_letter_43 : decode cX8_letter 43 = .ok (.ireturn, 1) := by decide +kernel
theorem dX8_blank_0 : decode cX8_blank 0 = .ok (.aload_n 0, 1) := by decide +kernel
theorem dX8_blank_1 : decode cX8_blank 1 = .ok (.getfield 10, 3) := by decide +kernel
theorem dX8_blank_4 : decode cX8_blank 4 = .ok (.getfield 65, 3) := by decide +kernel
theorem dX8_blank_7 : decode cX8_blank 7 = .ok (.istore_n 1, 1) := by decide +kernel
theorem dX8_blank_8 : decode cX8_blank 8 = .ok (.aload_n 0, 1) := by decide +kernel
theorem dX8_blank_9 : decode cX8_blank 9 = .ok (.getfield 10, 3) := by decide +kernel
theorem dX8_blank_12 : decode cX8_blank 12 = .ok (.iconst 0, 1) := by decide +kernel
theorem dX8_blank_13 : decode cX8_blank 13 = .ok (.putfield 65, 3) := by decide +kernel
theorem dX8_blank_16 : decode cX8_blank 16 = .ok (.iload_n 1, 1) := by decide +kernel
theorem dX8_blank_17 : decode cX8_blank 17 = .ok (.ireturn, 1) := by decide +kernel
theorem dX8_fault_0 : decode cX8_fault 0 = .ok (.aload_n 0, 1) := by decide +kernel
theorem dX8_fault_1 : decode cX8_fault 1 = .ok (.getfield 10, 3) := by decide +kernel
theorem dX8_fault_4 : decode cX8_fault 4 = .ok (.invokevirtual 69, 3) := by decide +kernel
theorem dX8_fault_7 : decode cX8_fault 7 = .ok (.ireturn, 1) := by decide +kernel
theorem dX8_law_0 : decode cX8_law 0 = .ok (.aload_n 0, 1) := by decide +kernel
theorem dX8_law_1 : decode cX8_law 1 = .ok (.getfield 10, 3) := by decide +kernel
theorem dX8_law_4 : decode cX8_law 4 = .ok (.invokevirtual 73, 3) := by decide +kernel
theorem dX8_law_7 : decode cX8_law 7 = .ok (.ifCond .ne 6, 3) := by decide +kernel
theorem dX8_law_10 : decode cX8_law 10 = .ok (.bipush (-103), 2) := by decide +kernel
theorem dX8_law_12 : decode cX8_law 12 = .ok (.ireturn, 1) := by decide +kernel
theorem dX8_law_13 : decode cX8_law 13 = .ok (.aload_n 0, 1) := by decide +kernel
theorem dX8_law_14 : decode cX8_law 14 = .ok (.getfield 19, 3) := by decide +kernel
theorem dX8_law_17 : decode cX8_law 17 = .ok (.aload_n 0, 1) := by decide +kernel
theorem dX8_law_18 : decode cX8_law 18 = .ok (.getfield 10, 3) := by decide +kernel
theorem dX8_law_21 : decode cX8_law 21 = .ok (.getfield 76, 3) := by decide +kernel
theorem dX8_law_24 : decode cX8_law 24 = .ok (.invokevirtual 79, 3) := by decide +kernel
theorem dX8_law_27 : decode cX8_law 27 = .ok (.aload_n 0, 1) := by decide +kernel
theorem dX8_law_28 : decode cX8_law 28 = .ok (.dup, 1) := by decide +kernel
theorem dX8_law_29 : decode cX8_law 29 = .ok (.getfield 83, 3) := by decide +kernel
theorem dX8_law_32 : decode cX8_law 32 = .ok (.iconst 1, 1) := by decide +kernel
theorem dX8_law_33 : decode cX8_law 33 = .ok (.iadd, 1) := by decide +kernel
theorem dX8_law_34 : decode cX8_law 34 = .ok (.putfield 83, 3) := by decide +kernel
theorem dX8_law_37 : decode cX8_law 37 = .ok (.aload_n 0, 1) := by decide +kernel
theorem dX8_law_38 : decode cX8_law 38 = .ok (.getfield 10, 3) := by decide +kernel
theorem dX8_law_41 : decode cX8_law 41 = .ok (.iconst 0, 1) := by decide +kernel
theorem dX8_law_42 : decode cX8_law 42 = .ok (.putfield 65, 3) := by decide +kernel
theorem dX8_law_45 : decode cX8_law 45 = .ok (.aload_n 0, 1) := by decide +kernel
theorem dX8_law_46 : decode cX8_law 46 = .ok (.getfield 53, 3) := by decide +kernel
theorem dX8_law_49 : decode cX8_law 49 = .ok (.invokevirtual 86, 3) := by decide +kernel
theorem dX8_law_52 : decode cX8_law 52 = .ok (.aload_n 0, 1) := by decide +kernel
theorem dX8_law_53 : decode cX8_law 53 = .ok (.getfield 26, 3) := by decide +kernel
theorem dX8_law_56 : decode cX8_law 56 = .ok (.aload_n 0, 1) := by decide +kernel
theorem dX8_law_57 : decode cX8_law 57 = .ok (.getfield 19, 3) := by decide +kernel
theorem dX8_law_60 : decode cX8_law 60 = .ok (.invokevirtual 89, 3) := by decide +kernel
theorem dX8_law_63 : decode cX8_law 63 = .ok (.aload_n 0, 1) := by decide +kernel
theorem dX8_law_64 : decode cX8_law 64 = .ok (.getfield 19, 3) := by decide +kernel
theorem dX8_law_67 : decode cX8_law 67 = .ok (.invokevirtual 92, 3) := by decide +kernel
theorem dX8_law_70 : decode cX8_law 70 = .ok (.ireturn, 1) := by decide +kernel
theorem dX8_deed_0 : decode cX8_deed 0 = .ok (.iload_n 1, 1) := by decide +kernel
theorem dX8_deed_1 : decode cX8_deed 1 = .ok (.invokestatic 95, 3) := by decide +kernel
theorem dX8_deed_4 : decode cX8_deed 4 = .ok (.ifCond .ne 6, 3) := by decide +kernel
theorem dX8_deed_7 : decode cX8_deed 7 = .ok (.bipush (-101), 2) := by decide +kernel
theorem dX8_deed_9 : decode cX8_deed 9 = .ok (.ireturn, 1) := by decide +kernel
theorem dX8_deed_10 : decode cX8_deed 10 = .ok (.iload_n 2, 1) := by decide +kernel
theorem dX8_deed_11 : decode cX8_deed 11 = .ok (.ifCond .lt 8, 3) := by decide +kernel
theorem dX8_deed_14 : decode cX8_deed 14 = .ok (.iload_n 2, 1) := by decide +kernel
theorem dX8_deed_15 : decode cX8_deed 15 = .ok (.iconst 3, 1) := by decide +kernel
theorem dX8_deed_16 : decode cX8_deed 16 = .ok (.if_icmp .lt 6, 3) := by decide +kernel
theorem dX8_deed_19 : decode cX8_deed 19 = .ok (.bipush (-102), 2) := by decide +kernel
theorem dX8_deed_21 : decode cX8_deed 21 = .ok (.ireturn, 1) := by decide +kernel
theorem dX8_deed_22 : decode cX8_deed 22 = .ok (.aload_n 0, 1) := by decide +kernel
theorem dX8_deed_23 : decode cX8_deed 23 = .ok (.getfield 83, 3) := by decide +kernel
theorem dX8_deed_26 : decode cX8_deed 26 = .ok (.ifCond .ne 6, 3) := by decide +kernel
theorem dX8_deed_29 : decode cX8_deed 29 = .ok (.bipush (-103), 2) := by decide +kernel
theorem dX8_deed_31 : decode cX8_deed 31 = .ok (.ireturn, 1) := by decide +kernel
theorem dX8_deed_32 : decode cX8_deed 32 = .ok (.iload_n 2, 1) := by decide +kernel
theorem dX8_deed_33 : decode cX8_deed 33 = .ok (.ifCond .ne 12, 3) := by decide +kernel
theorem dX8_deed_36 : decode cX8_deed 36 = .ok (.aload_n 0, 1) := by decide +kernel
theorem dX8_deed_37 : decode cX8_deed 37 = .ok (.getfield 19, 3) := by decide +kernel
theorem dX8_deed_40 : decode cX8_deed 40 = .ok (.iload_n 1, 1) := by decide +kernel
theorem dX8_deed_41 : decode cX8_deed 41 = .ok (.invokevirtual 99, 3) := by decide +kernel
theorem dX8_deed_44 : decode cX8_deed 44 = .ok (.ireturn, 1) := by decide +kernel
theorem dX8_deed_45 : decode cX8_deed 45 = .ok (.iload_n 2, 1) := by decide +kernel
theorem dX8_deed_46 : decode cX8_deed 46 = .ok (.iconst 1, 1) := by decide +kernel
theorem dX8_deed_47 : decode cX8_deed 47 = .ok (.if_icmp .ne 14, 3) := by decide +kernel
theorem dX8_deed_50 : decode cX8_deed 50 = .ok (.aload_n 0, 1) := by decide +kernel
theorem dX8_deed_51 : decode cX8_deed 51 = .ok (.getfield 19, 3) := by decide +kernel
theorem dX8_deed_54 : decode cX8_deed 54 = .ok (.iload_n 1, 1) := by decide +kernel
theorem dX8_deed_55 : decode cX8_deed 55 = .ok (.invokevirtual 103, 3) := by decide +kernel
theorem dX8_deed_58 : decode cX8_deed 58 = .ok (.goto 11, 3) := by decide +kernel
theorem dX8_deed_61 : decode cX8_deed 61 = .ok (.aload_n 0, 1) := by decide +kernel
theorem dX8_deed_62 : decode cX8_deed 62 = .ok (.getfield 19, 3) := by decide +kernel
theorem dX8_deed_65 : decode cX8_deed 65 = .ok (.iload_n 1, 1) := by decide +kernel
theorem dX8_deed_66 : decode cX8_deed 66 = .ok (.invokevirtual 106, 3) := by decide +kernel
theorem dX8_deed_69 : decode cX8_deed 69 = .ok (.ireturn, 1) := by decide +kernel
theorem dX8_person_0 : decode cX8_person 0 = .ok (.iload_n 1, 1) := by decide +kernel
theorem dX8_person_1 : decode cX8_person 1 = .ok (.invokestatic 109, 3) := by decide +kernel
theorem dX8_person_4 : decode cX8_person 4 = .ok (.ifCond .ne 6, 3) := by decide +kernel
theorem dX8_person_7 : decode cX8_person 7 = .ok (.bipush (-102), 2) := by decide +kernel
theorem dX8_person_9 : decode cX8_person 9 = .ok (.ireturn, 1) := by decide +kernel
theorem dX8_person_10 : decode cX8_person 10 = .ok (.aload_n 0, 1) := by decide +kernel
theorem dX8_person_11 : decode cX8_person 11 = .ok (.getfield 83, 3) := by decide +kernel
theorem dX8_person_14 : decode cX8_person 14 = .ok (.ifCond .ne 6, 3) := by decide +kernel
theorem dX8_person_17 : decode cX8_person 17 = .ok (.bipush (-103), 2) := by decide +kernel
theorem dX8_person_19 : decode cX8_person 19 = .ok (.ireturn, 1) := by decide +kernel
theorem dX8_person_20 : decode cX8_person 20 = .ok (.aload_n 0, 1) := by decide +kernel
theorem dX8_person_21 : decode cX8_person 21 = .ok (.getfield 26, 3) := by decide +kernel
theorem dX8_person_24 : decode cX8_person 24 = .ok (.invokevirtual 114, 3) := by decide +kernel
theorem dX8_person_27 : decode cX8_person 27 = .ok (.ifCond .ne 6, 3) := by decide +kernel
theorem dX8_person_30 : decode cX8_person 30 = .ok (.bipush (-104), 2) := by decide +kernel
theorem dX8_person_32 : decode cX8_person 32 = .ok (.ireturn, 1) := by decide +kernel
theorem dX8_person_33 : decode cX8_person 33 = .ok (.aload_n 0, 1) := by decide +kernel
theorem dX8_person_34 : decode cX8_person 34 = .ok (.getfield 26, 3) := by decide +kernel
theorem dX8_person_37 : decode cX8_person 37 = .ok (.iload_n 1, 1) := by decide +kernel
theorem dX8_person_38 : decode cX8_person 38 = .ok (.invokestatic 115, 3) := by decide +kernel
theorem dX8_person_41 : decode cX8_person 41 = .ok (.invokevirtual 119, 3) := by decide +kernel
theorem dX8_person_44 : decode cX8_person 44 = .ok (.ireturn, 1) := by decide +kernel
theorem dX8_about_0 : decode cX8_about 0 = .ok (.aload_n 0, 1) := by decide +kernel
theorem dX8_about_1 : decode cX8_about 1 = .ok (.getfield 26, 3) := by decide +kernel
theorem dX8_about_4 : decode cX8_about 4 = .ok (.iload_n 1, 1) := by decide +kernel
theorem dX8_about_5 : decode cX8_about 5 = .ok (.invokevirtual 123, 3) := by decide +kernel
theorem dX8_about_8 : decode cX8_about 8 = .ok (.ifCond .ne 6, 3) := by decide +kernel
theorem dX8_about_11 : decode cX8_about 11 = .ok (.bipush (-101), 2) := by decide +kernel
theorem dX8_about_13 : decode cX8_about 13 = .ok (.ireturn, 1) := by decide +kernel
theorem dX8_about_14 : decode cX8_about 14 = .ok (.iload_n 2, 1) := by decide +kernel
theorem dX8_about_15 : decode cX8_about 15 = .ok (.ifCond .lt 9, 3) := by decide +kernel
theorem dX8_about_18 : decode cX8_about 18 = .ok (.iload_n 2, 1) := by decide +kernel
theorem dX8_about_19 : decode cX8_about 19 = .ok (.bipush 10, 2) := by decide +kernel
theorem dX8_about_21 : decode cX8_about 21 = .ok (.if_icmp .lt 6, 3) := by decide +kernel
theorem dX8_about_24 : decode cX8_about 24 = .ok (.bipush (-102), 2) := by decide +kernel
theorem dX8_about_26 : decode cX8_about 26 = .ok (.ireturn, 1) := by decide +kernel
theorem dX8_about_27 : decode cX8_about 27 = .ok (.aload_n 0, 1) := by decide +kernel
theorem dX8_about_28 : decode cX8_about 28 = .ok (.getfield 26, 3) := by decide +kernel
theorem dX8_about_31 : decode cX8_about 31 = .ok (.iload_n 1, 1) := by decide +kernel
theorem dX8_about_32 : decode cX8_about 32 = .ok (.invokevirtual 126, 3) := by decide +kernel
theorem dX8_about_35 : decode cX8_about 35 = .ok (.iload_n 2, 1) := by decide +kernel
theorem dX8_about_36 : decode cX8_about 36 = .ok (.invokevirtual 130, 3) := by decide +kernel
theorem dX8_about_39 : decode cX8_about 39 = .ok (.ireturn, 1) := by decide +kernel
theorem dX8_as_0 : decode cX8_as 0 = .ok (.aload_n 0, 1) := by decide +kernel
theorem dX8_as_1 : decode cX8_as 1 = .ok (.getfield 26, 3) := by decide +kernel
theorem dX8_as_4 : decode cX8_as 4 = .ok (.iload_n 1, 1) := by decide +kernel
theorem dX8_as_5 : decode cX8_as 5 = .ok (.invokevirtual 123, 3) := by decide +kernel
theorem dX8_as_8 : decode cX8_as 8 = .ok (.ifCond .ne 6, 3) := by decide +kernel
theorem dX8_as_11 : decode cX8_as 11 = .ok (.bipush (-101), 2) := by decide +kernel
theorem dX8_as_13 : decode cX8_as 13 = .ok (.ireturn, 1) := by decide +kernel
theorem dX8_as_14 : decode cX8_as 14 = .ok (.iload_n 2, 1) := by decide +kernel
theorem dX8_as_15 : decode cX8_as 15 = .ok (.invokestatic 109, 3) := by decide +kernel
theorem dX8_as_18 : decode cX8_as 18 = .ok (.ifCond .ne 6, 3) := by decide +kernel
theorem dX8_as_21 : decode cX8_as 21 = .ok (.bipush (-102), 2) := by decide +kernel
theorem dX8_as_23 : decode cX8_as 23 = .ok (.ireturn, 1) := by decide +kernel
theorem dX8_as_24 : decode cX8_as 24 = .ok (.aload_n 0, 1) := by decide +kernel
theorem dX8_as_25 : decode cX8_as 25 = .ok (.getfield 26, 3) := by decide +kernel
theorem dX8_as_28 : decode cX8_as 28 = .ok (.iload_n 1, 1) := by decide +kernel
theorem dX8_as_29 : decode cX8_as 29 = .ok (.invokevirtual 126, 3) := by decide +kernel
theorem dX8_as_32 : decode cX8_as 32 = .ok (.getfield 133, 3) := by decide +kernel
theorem dX8_as_35 : decode cX8_as 35 = .ok (.iload_n 2, 1) := by decide +kernel
theorem dX8_as_36 : decode cX8_as 36 = .ok (.invokestatic 115, 3) := by decide +kernel
theorem dX8_as_39 : decode cX8_as 39 = .ok (.invokevirtual 137, 3) := by decide +kernel
theorem dX8_as_42 : decode cX8_as 42 = .ok (.ifCond .eq 7, 3) := by decide +kernel
theorem dX8_as_45 : decode cX8_as 45 = .ok (.iload_n 1, 1) := by decide +kernel
theorem dX8_as_46 : decode cX8_as 46 = .ok (.goto 4, 3) := by decide +kernel
theorem dX8_as_49 : decode cX8_as 49 = .ok (.iconst (-1), 1) := by decide +kernel
theorem dX8_as_50 : decode cX8_as 50 = .ok (.ireturn, 1) := by decide +kernel
theorem dX8_may_0 : decode cX8_may 0 = .ok (.aload_n 0, 1) := by decide +kernel
theorem dX8_may_1 : decode cX8_may 1 = .ok (.getfield 26, 3) := by decide +kernel
theorem dX8_may_4 : decode cX8_may 4 = .ok (.iload_n 1, 1) := by decide +kernel
theorem dX8_may_5 : decode cX8_may 5 = .ok (.invokevirtual 141, 3) := by decide +kernel
theorem dX8_may_8 : decode cX8_may 8 = .ok (.ifCond .eq 10, 3) := by decide +kernel
theorem dX8_may_11 : decode cX8_may 11 = .ok (.iload_n 2, 1) := by decide +kernel
theorem dX8_may_12 : decode cX8_may 12 = .ok (.invokestatic 144, 3) := by decide +kernel
theorem dX8_may_15 : decode cX8_may 15 = .ok (.ifCond .ne 6, 3) := by decide +kernel
theorem dX8_may_18 : decode cX8_may 18 = .ok (.bipush (-101), 2) := by decide +kernel
theorem dX8_may_20 : decode cX8_may 20 = .ok (.ireturn, 1) := by decide +kernel
theorem dX8_may_21 : decode cX8_may 21 = .ok (.aload_n 0, 1) := by decide +kernel
theorem dX8_may_22 : decode cX8_may 22 = .ok (.getfield 26, 3) := by decide +kernel
theorem dX8_may_25 : decode cX8_may 25 = .ok (.iload_n 1, 1) := by decide +kernel
theorem dX8_may_26 : decode cX8_may 26 = .ok (.invokevirtual 126, 3) := by decide +kernel
theorem dX8_may_29 : decode cX8_may 29 = .ok (.iload_n 2, 1) := by decide +kernel
theorem dX8_may_30 : decode cX8_may 30 = .ok (.aload_n 0, 1) := by decide +kernel
theorem dX8_may_31 : decode cX8_may 31 = .ok (.getfield 19, 3) := by decide +kernel
theorem dX8_may_34 : decode cX8_may 34 = .ok (.invokevirtual 147, 3) := by decide +kernel
theorem dX8_may_37 : decode cX8_may 37 = .ok (.ifCond .eq 7, 3) := by decide +kernel
theorem dX8_may_40 : decode cX8_may 40 = .ok (.iconst 1, 1) := by decide +kernel
theorem dX8_may_41 : decode cX8_may 41 = .ok (.goto 4, 3) := by decide +kernel
theorem dX8_may_44 : decode cX8_may 44 = .ok (.iconst 0, 1) := by decide +kernel
theorem dX8_may_45 : decode cX8_may 45 = .ok (.ireturn, 1) := by decide +kernel
theorem dX8_act_0 : decode cX8_act 0 = .ok (.aload_n 0, 1) := by decide +kernel
theorem dX8_act_1 : decode cX8_act 1 = .ok (.getfield 26, 3) := by decide +kernel
theorem dX8_act_4 : decode cX8_act 4 = .ok (.iload_n 1, 1) := by decide +kernel
theorem dX8_act_5 : decode cX8_act 5 = .ok (.invokevirtual 141, 3) := by decide +kernel
theorem dX8_act_8 : decode cX8_act 8 = .ok (.ifCond .eq 10, 3) := by decide +kernel
theorem dX8_act_11 : decode cX8_act 11 = .ok (.iload_n 2, 1) := by decide +kernel
theorem dX8_act_12 : decode cX8_act 12 = .ok (.invokestatic 144, 3) := by decide +kernel
theorem dX8_act_15 : decode cX8_act 15 = .ok (.ifCond .ne 6, 3) := by decide +kernel
theorem dX8_act_18 : decode cX8_act 18 = .ok (.bipush (-101), 2) := by decide +kernel
theorem dX8_act_20 : decode cX8_act 20 = .ok (.ireturn, 1) := by decide +kernel
theorem dX8_act_21 : decode cX8_act 21 = .ok (.aload_n 0, 1) := by decide +kernel
theorem dX8_act_22 : decode cX8_act 22 = .ok (.getfield 26, 3) := by decide +kernel
theorem dX8_act_25 : decode cX8_act 25 = .ok (.iload_n 1, 1) := by decide +kernel
theorem dX8_act_26 : decode cX8_act 26 = .ok (.invokevirtual 126, 3) := by decide +kernel
theorem dX8_act_29 : decode cX8_act 29 = .ok (.astore_n 3, 1) := by decide +kernel
theorem dX8_act_30 : decode cX8_act 30 = .ok (.aload_n 3, 1) := by decide +kernel
theorem dX8_act_31 : decode cX8_act 31 = .ok (.iload_n 2, 1) := by decide +kernel
theorem dX8_act_32 : decode cX8_act 32 = .ok (.aload_n 0, 1) := by decide +kernel
theorem dX8_act_33 : decode cX8_act 33 = .ok (.getfield 19, 3) := by decide +kernel
theorem dX8_act_36 : decode cX8_act 36 = .ok (.invokevirtual 147, 3) := by decide +kernel
theorem dX8_act_39 : decode cX8_act 39 = .ok (.ifCond .ne 6, 3) := by decide +kernel
theorem dX8_act_42 : decode cX8_act 42 = .ok (.bipush (-103), 2) := by decide +kernel
theorem dX8_act_44 : decode cX8_act 44 = .ok (.ireturn, 1) := by decide +kernel
theorem dX8_act_45 : decode cX8_act 45 = .ok (.aload_n 3, 1) := by decide +kernel
theorem dX8_act_46 : decode cX8_act 46 = .ok (.iload_n 2, 1) := by decide +kernel
theorem dX8_act_47 : decode cX8_act 47 = .ok (.aload_n 0, 1) := by decide +kernel
theorem dX8_act_48 : decode cX8_act 48 = .ok (.getfield 19, 3) := by decide +kernel
theorem dX8_act_51 : decode cX8_act 51 = .ok (.aload_n 0, 1) := by decide +kernel
theorem dX8_act_52 : decode cX8_act 52 = .ok (.getfield 26, 3) := by decide +kernel
theorem dX8_act_55 : decode cX8_act 55 = .ok (.getfield 151, 3) := by decide +kernel
theorem dX8_act_58 : decode cX8_act 58 = .ok (.invokevirtual 154, 3) := by decide +kernel
theorem dX8_act_61 : decode cX8_act 61 = .ok (.aload_n 3, 1) := by decide +kernel
theorem dX8_act_62 : decode cX8_act 62 = .ok (.getfield 158, 3) := by decide +kernel
theorem dX8_act_65 : decode cX8_act 65 = .ok (.ireturn, 1) := by decide +kernel
theorem dX8_week_0 : decode cX8_week 0 = .ok (.aload_n 0, 1) := by decide +kernel
theorem dX8_week_1 : decode cX8_week 1 = .ok (.getfield 26, 3) := by decide +kernel
theorem dX8_week_4 : decode cX8_week 4 = .ok (.aload_n 0, 1) := by decide +kernel
theorem dX8_week_5 : decode cX8_week 5 = .ok (.getfield 19, 3) := by decide +kernel
theorem dX8_week_8 : decode cX8_week 8 = .ok (.invokevirtual 161, 3) := by decide +kernel
theorem dX8_week_11 : decode cX8_week 11 = .ok (.aload_n 0, 1) := by decide +kernel
theorem dX8_week_12 : decode cX8_week 12 = .ok (.getfield 26, 3) := by decide +kernel
theorem dX8_week_15 : decode cX8_week 15 = .ok (.getfield 151, 3) := by decide +kernel
theorem dX8_week_18 : decode cX8_week 18 = .ok (.ireturn, 1) := by decide +kernel
theorem dX8_sell_0 : decode cX8_sell 0 = .ok (.aload_n 0, 1) := by decide +kernel
theorem dX8_sell_1 : decode cX8_sell 1 = .ok (.iload_n 1, 1) := by decide +kernel
theorem dX8_sell_2 : decode cX8_sell 2 = .ok (.iload_n 2, 1) := by decide +kernel
theorem dX8_sell_3 : decode cX8_sell 3 = .ok (.invokevirtual 164, 3) := by decide +kernel
theorem dX8_sell_6 : decode cX8_sell 6 = .ok (.ifCond .eq 12, 3) := by decide +kernel
theorem dX8_sell_9 : decode cX8_sell 9 = .ok (.iload_n 3, 1) := by decide +kernel
theorem dX8_sell_10 : decode cX8_sell 10 = .ok (.ifCond .lt 8, 3) := by decide +kernel
theorem dX8_sell_13 : decode cX8_sell 13 = .ok (.iload_n 3, 1) := by decide +kernel
theorem dX8_sell_14 : decode cX8_sell 14 = .ok (.iconst 3, 1) := by decide +kernel
theorem dX8_sell_15 : decode cX8_sell 15 = .ok (.if_icmp .lt 6, 3) := by decide +kernel
theorem dX8_sell_18 : decode cX8_sell 18 = .ok (.bipush (-101), 2) := by decide +kernel
theorem dX8_sell_20 : decode cX8_sell 20 = .ok (.ireturn, 1) := by decide +kernel
theorem dX8_sell_21 : decode cX8_sell 21 = .ok (.aload_n 0, 1) := by decide +kernel
theorem dX8_sell_22 : decode cX8_sell 22 = .ok (.getfield 26, 3) := by decide +kernel
theorem dX8_sell_25 : decode cX8_sell 25 = .ok (.iload_n 1, 1) := by decide +kernel
theorem dX8_sell_26 : decode cX8_sell 26 = .ok (.invokevirtual 126, 3) := by decide +kernel
theorem dX8_sell_29 : decode cX8_sell 29 = .ok (.getfield 168, 3) := by decide +kernel
theorem dX8_sell_32 : decode cX8_sell 32 = .ok (.astore 4, 2) := by decide +kernel
theorem dX8_sell_34 : decode cX8_sell 34 = .ok (.aload_n 0, 1) := by decide +kernel
theorem dX8_sell_35 : decode cX8_sell 35 = .ok (.getfield 26, 3) := by decide +kernel
theorem dX8_sell_38 : decode cX8_sell 38 = .ok (.iload_n 2, 1) := by decide +kernel
theorem dX8_sell_39 : decode cX8_sell 39 = .ok (.invokevirtual 126, 3) := by decide +kernel
theorem dX8_sell_42 : decode cX8_sell 42 = .ok (.getfield 168, 3) := by decide +kernel
theorem dX8_sell_45 : decode cX8_sell 45 = .ok (.astore 5, 2) := by decide +kernel
theorem dX8_sell_47 : decode cX8_sell 47 = .ok (.aload 4, 2) := by decide +kernel
theorem dX8_sell_49 : decode cX8_sell 49 = .ok (.iconst 1, 1) := by decide +kernel
theorem dX8_sell_50 : decode cX8_sell 50 = .ok (.iload_n 3, 1) := by decide +kernel
theorem dX8_sell_51 : decode cX8_sell 51 = .ok (.ishl, 1) := by decide +kernel
theorem dX8_sell_52 : decode cX8_sell 52 = .ok (.invokevirtual 172, 3) := by decide +kernel
theorem dX8_sell_55 : decode cX8_sell 55 = .ok (.istore 6, 2) := by decide +kernel
theorem dX8_sell_57 : decode cX8_sell 57 = .ok (.iload 6, 2) := by decide +kernel
theorem dX8_sell_59 : decode cX8_sell 59 = .ok (.iconst (-1), 1) := by decide +kernel
theorem dX8_sell_60 : decode cX8_sell 60 = .ok (.if_icmp .ne 6, 3) := by decide +kernel
theorem dX8_sell_63 : decode cX8_sell 63 = .ok (.bipush (-103), 2) := by decide +kernel
theorem dX8_sell_65 : decode cX8_sell 65 = .ok (.ireturn, 1) := by decide +kernel
theorem dX8_sell_66 : decode cX8_sell 66 = .ok (.aload 5, 2) := by decide +kernel
theorem dX8_sell_68 : decode cX8_sell 68 = .ok (.invokevirtual 177, 3) := by decide +kernel
theorem dX8_sell_71 : decode cX8_sell 71 = .ok (.ifCond .ne 6, 3) := by decide +kernel
theorem dX8_sell_74 : decode cX8_sell 74 = .ok (.bipush (-104), 2) := by decide +kernel
theorem dX8_sell_76 : decode cX8_sell 76 = .ok (.ireturn, 1) := by decide +kernel
theorem dX8_sell_77 : decode cX8_sell 77 = .ok (.aload 4, 2) := by decide +kernel
theorem dX8_sell_79 : decode cX8_sell 79 = .ok (.iconst 1, 1) := by decide +kernel
theorem dX8_sell_80 : decode cX8_sell 80 = .ok (.iload_n 3, 1) := by decide +kernel
theorem dX8_sell_81 : decode cX8_sell 81 = .ok (.ishl, 1) := by decide +kernel
theorem dX8_sell_82 : decode cX8_sell 82 = .ok (.iconst 1, 1) := by decide +kernel
theorem dX8_sell_83 : decode cX8_sell 83 = .ok (.invokevirtual 178, 3) := by decide +kernel
theorem dX8_sell_86 : decode cX8_sell 86 = .ok (.aload 5, 2) := by decide +kernel
theorem dX8_sell_88 : decode cX8_sell 88 = .ok (.iload_n 3, 1) := by decide +kernel
theorem dX8_sell_89 : decode cX8_sell 89 = .ok (.iload 6, 2) := by decide +kernel
theorem dX8_sell_91 : decode cX8_sell 91 = .ok (.invokevirtual 182, 3) := by decide +kernel
theorem dX8_sell_94 : decode cX8_sell 94 = .ok (.iload 6, 2) := by decide +kernel
theorem dX8_sell_96 : decode cX8_sell 96 = .ok (.ireturn, 1) := by decide +kernel
theorem dX8_leave_0 : decode cX8_leave 0 = .ok (.aload_n 0, 1) := by decide +kernel
