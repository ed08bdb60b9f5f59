theorem dX0_init_0 : decode cX0_init 0 = .ok (.aload_n 0, 1) := by decide +kernel
theorem dX0_init_1 : decode cX0_init 1 = .ok (.invokespecial 3, 3) := by decide +kernel
theorem dX0_init_4 : decode cX0_init 4 = .ok (.aload_n 0, 1) := by decide +kernel
theorem dX0_init_5 : decode cX0_init 5 = .ok (.bipush 12, 2) := by decide +kernel
theorem dX0_init_7 : decode cX0_init 7 = .ok (.newarray .int, 2) := by decide +kernel
theorem dX0_init_9 : decode cX0_init 9 = .ok (.putfield 9, 3) := by decide +kernel
theorem dX0_init_12 : decode cX0_init 12 = .ok (.return_, 1) := by decide +kernel
theorem dX0_copy_0 : decode cX0_copy 0 = .ok (.iconst 0, 1) := by decide +kernel
theorem dX0_copy_1 : decode cX0_copy 1 = .ok (.istore_n 2, 1) := by decide +kernel
theorem dX0_copy_2 : decode cX0_copy 2 = .ok (.iload_n 2, 1) := by decide +kernel
theorem dX0_copy_3 : decode cX0_copy 3 = .ok (.aload_n 1, 1) := by decide +kernel
theorem dX0_copy_4 : decode cX0_copy 4 = .ok (.getfield 15, 3) := by decide +kernel
theorem dX0_copy_7 : decode cX0_copy 7 = .ok (.if_icmp .ge 27, 3) := by decide +kernel
theorem dX0_copy_10 : decode cX0_copy 10 = .ok (.iload_n 2, 1) := by decide +kernel
theorem dX0_copy_11 : decode cX0_copy 11 = .ok (.bipush 12, 2) := by decide +kernel
theorem dX0_copy_13 : decode cX0_copy 13 = .ok (.if_icmp .ge 21, 3) := by decide +kernel
theorem dX0_copy_16 : decode cX0_copy 16 = .ok (.aload_n 0, 1) := by decide +kernel
theorem dX0_copy_17 : decode cX0_copy 17 = .ok (.getfield 9, 3) := by decide +kernel
theorem dX0_copy_20 : decode cX0_copy 20 = .ok (.iload_n 2, 1) := by decide +kernel
theorem dX0_copy_21 : decode cX0_copy 21 = .ok (.aload_n 1, 1) := by decide +kernel
theorem dX0_copy_22 : decode cX0_copy 22 = .ok (.getfield 9, 3) := by decide +kernel
theorem dX0_copy_25 : decode cX0_copy 25 = .ok (.iload_n 2, 1) := by decide +kernel
theorem dX0_copy_26 : decode cX0_copy 26 = .ok (.iaload, 1) := by decide +kernel
theorem dX0_copy_27 : decode cX0_copy 27 = .ok (.iastore, 1) := by decide +kernel
theorem dX0_copy_28 : decode cX0_copy 28 = .ok (.iinc 2 1, 3) := by decide +kernel
theorem dX0_copy_31 : decode cX0_copy 31 = .ok (.goto (-29), 3) := by decide +kernel
theorem dX0_copy_34 : decode cX0_copy 34 = .ok (.aload_n 0, 1) := by decide +kernel
theorem dX0_copy_35 : decode cX0_copy 35 = .ok (.aload_n 1, 1) := by decide +kernel
theorem dX0_copy_36 : decode cX0_copy 36 = .ok (.getfield 15, 3) := by decide +kernel
theorem dX0_copy_39 : decode cX0_copy 39 = .ok (.putfield 15, 3) := by decide +kernel
theorem dX0_copy_42 : decode cX0_copy 42 = .ok (.return_, 1) := by decide +kernel
theorem dX0_hasRoom_0 : decode cX0_hasRoom 0 = .ok (.aload_n 0, 1) := by decide +kernel
theorem dX0_hasRoom_1 : decode cX0_hasRoom 1 = .ok (.getfield 15, 3) := by decide +kernel
theorem dX0_hasRoom_4 : decode cX0_hasRoom 4 = .ok (.bipush 12, 2) := by decide +kernel
theorem dX0_hasRoom_6 : decode cX0_hasRoom 6 = .ok (.if_icmp .ge 7, 3) := by decide +kernel
theorem dX0_hasRoom_9 : decode cX0_hasRoom 9 = .ok (.iconst 1, 1) := by decide +kernel
theorem dX0_hasRoom_10 : decode cX0_hasRoom 10 = .ok (.goto 4, 3) := by decide +kernel
theorem dX0_hasRoom_13 : decode cX0_hasRoom 13 = .ok (.iconst 0, 1) := by decide +kernel
theorem dX0_hasRoom_14 : decode cX0_hasRoom 14 = .ok (.ireturn, 1) := by decide +kernel
theorem dX0_give_0 : decode cX0_give 0 = .ok (.aload_n 0, 1) := by decide +kernel
theorem dX0_give_1 : decode cX0_give 1 = .ok (.getfield 15, 3) := by decide +kernel
theorem dX0_give_4 : decode cX0_give 4 = .ok (.ifCond .lt 12, 3) := by decide +kernel
theorem dX0_give_7 : decode cX0_give 7 = .ok (.aload_n 0, 1) := by decide +kernel
theorem dX0_give_8 : decode cX0_give 8 = .ok (.getfield 15, 3) := by decide +kernel
theorem dX0_give_11 : decode cX0_give 11 = .ok (.bipush 12, 2) := by decide +kernel
theorem dX0_give_13 : decode cX0_give 13 = .ok (.if_icmp .lt 4, 3) := by decide +kernel
theorem dX0_give_16 : decode cX0_give 16 = .ok (.return_, 1) := by decide +kernel
theorem dX0_give_17 : decode cX0_give 17 = .ok (.iload_n 2, 1) := by decide +kernel
theorem dX0_give_18 : decode cX0_give 18 = .ok (.iconst 3, 1) := by decide +kernel
theorem dX0_give_19 : decode cX0_give 19 = .ok (.imul, 1) := by decide +kernel
theorem dX0_give_20 : decode cX0_give 20 = .ok (.iload_n 1, 1) := by decide +kernel
theorem dX0_give_21 : decode cX0_give 21 = .ok (.iadd, 1) := by decide +kernel
theorem dX0_give_22 : decode cX0_give 22 = .ok (.istore_n 3, 1) := by decide +kernel
theorem dX0_give_23 : decode cX0_give 23 = .ok (.aload_n 0, 1) := by decide +kernel
theorem dX0_give_24 : decode cX0_give 24 = .ok (.getfield 15, 3) := by decide +kernel
theorem dX0_give_27 : decode cX0_give 27 = .ok (.istore 4, 2) := by decide +kernel
theorem dX0_give_29 : decode cX0_give 29 = .ok (.iload 4, 2) := by decide +kernel
theorem dX0_give_31 : decode cX0_give 31 = .ok (.ifCond .le 38, 3) := by decide +kernel
theorem dX0_give_34 : decode cX0_give 34 = .ok (.aload_n 0, 1) := by decide +kernel
theorem dX0_give_35 : decode cX0_give 35 = .ok (.getfield 9, 3) := by decide +kernel
theorem dX0_give_38 : decode cX0_give 38 = .ok (.iload 4, 2) := by decide +kernel
theorem dX0_give_40 : decode cX0_give 40 = .ok (.iconst 1, 1) := by decide +kernel
theorem dX0_give_41 : decode cX0_give 41 = .ok (.isub, 1) := by decide +kernel
theorem dX0_give_42 : decode cX0_give 42 = .ok (.iaload, 1) := by decide +kernel
theorem dX0_give_43 : decode cX0_give 43 = .ok (.iload_n 3, 1) := by decide +kernel
theorem dX0_give_44 : decode cX0_give 44 = .ok (.if_icmp .le 25, 3) := by decide +kernel
theorem dX0_give_47 : decode cX0_give 47 = .ok (.aload_n 0, 1) := by decide +kernel
theorem dX0_give_48 : decode cX0_give 48 = .ok (.getfield 9, 3) := by decide +kernel
theorem dX0_give_51 : decode cX0_give 51 = .ok (.iload 4, 2) := by decide +kernel
theorem dX0_give_53 : decode cX0_give 53 = .ok (.aload_n 0, 1) := by decide +kernel
theorem dX0_give_54 : decode cX0_give 54 = .ok (.getfield 9, 3) := by decide +kernel
theorem dX0_give_57 : decode cX0_give 57 = .ok (.iload 4, 2) := by decide +kernel
theorem dX0_give_59 : decode cX0_give 59 = .ok (.iconst 1, 1) := by decide +kernel
theorem dX0_give_60 : decode cX0_give 60 = .ok (.isub, 1) := by decide +kernel
theorem dX0_give_61 : decode cX0_give 61 = .ok (.iaload, 1) := by decide +kernel
theorem dX0_give_62 : decode cX0_give 62 = .ok (.iastore, 1) := by decide +kernel
theorem dX0_give_63 : decode cX0_give 63 = .ok (.iinc 4 (-1), 3) := by decide +kernel
theorem dX0_give_66 : decode cX0_give 66 = .ok (.goto (-37), 3) := by decide +kernel
theorem dX0_give_69 : decode cX0_give 69 = .ok (.aload_n 0, 1) := by decide +kernel
theorem dX0_give_70 : decode cX0_give 70 = .ok (.getfield 9, 3) := by decide +kernel
theorem dX0_give_73 : decode cX0_give 73 = .ok (.iload 4, 2) := by decide +kernel
theorem dX0_give_75 : decode cX0_give 75 = .ok (.iload_n 3, 1) := by decide +kernel
theorem dX0_give_76 : decode cX0_give 76 = .ok (.iastore, 1) := by decide +kernel
theorem dX0_give_77 : decode cX0_give 77 = .ok (.aload_n 0, 1) := by decide +kernel
theorem dX0_give_78 : decode cX0_give 78 = .ok (.dup, 1) := by decide +kernel
theorem dX0_give_79 : decode cX0_give 79 = .ok (.getfield 15, 3) := by decide +kernel
theorem dX0_give_82 : decode cX0_give 82 = .ok (.iconst 1, 1) := by decide +kernel
theorem dX0_give_83 : decode cX0_give 83 = .ok (.iadd, 1) := by decide +kernel
theorem dX0_give_84 : decode cX0_give 84 = .ok (.putfield 15, 3) := by decide +kernel
theorem dX0_give_87 : decode cX0_give 87 = .ok (.return_, 1) := by decide +kernel
theorem dX0_howMany_0 : decode cX0_howMany 0 = .ok (.iconst 0, 1) := by decide +kernel
theorem dX0_howMany_1 : decode cX0_howMany 1 = .ok (.istore_n 3, 1) := by decide +kernel
theorem dX0_howMany_2 : decode cX0_howMany 2 = .ok (.iconst 0, 1) := by decide +kernel
theorem dX0_howMany_3 : decode cX0_howMany 3 = .ok (.istore 4, 2) := by decide +kernel
theorem dX0_howMany_5 : decode cX0_howMany 5 = .ok (.iload 4, 2) := by decide +kernel
theorem dX0_howMany_7 : decode cX0_howMany 7 = .ok (.aload_n 0, 1) := by decide +kernel
theorem dX0_howMany_8 : decode cX0_howMany 8 = .ok (.getfield 15, 3) := by decide +kernel
theorem dX0_howMany_11 : decode cX0_howMany 11 = .ok (.if_icmp .ge 46, 3) := by decide +kernel
theorem dX0_howMany_14 : decode cX0_howMany 14 = .ok (.iload 4, 2) := by decide +kernel
theorem dX0_howMany_16 : decode cX0_howMany 16 = .ok (.bipush 12, 2) := by decide +kernel
theorem dX0_howMany_18 : decode cX0_howMany 18 = .ok (.if_icmp .ge 39, 3) := by decide +kernel
theorem dX0_howMany_21 : decode cX0_howMany 21 = .ok (.aload_n 0, 1) := by decide +kernel
theorem dX0_howMany_22 : decode cX0_howMany 22 = .ok (.getfield 9, 3) := by decide +kernel
theorem dX0_howMany_25 : decode cX0_howMany 25 = .ok (.iload 4, 2) := by decide +kernel
theorem dX0_howMany_27 : decode cX0_howMany 27 = .ok (.iaload, 1) := by decide +kernel
theorem dX0_howMany_28 : decode cX0_howMany 28 = .ok (.iload_n 2, 1) := by decide +kernel
theorem dX0_howMany_29 : decode cX0_howMany 29 = .ok (.iconst 3, 1) := by decide +kernel
theorem dX0_howMany_30 : decode cX0_howMany 30 = .ok (.imul, 1) := by decide +kernel
theorem dX0_howMany_31 : decode cX0_howMany 31 = .ok (.if_icmp .lt 20, 3) := by decide +kernel
theorem dX0_howMany_34 : decode cX0_howMany 34 = .ok (.aload_n 0, 1) := by decide +kernel
theorem dX0_howMany_35 : decode cX0_howMany 35 = .ok (.getfield 9, 3) := by decide +kernel
theorem dX0_howMany_38 : decode cX0_howMany 38 = .ok (.iload 4, 2) := by decide +kernel
theorem dX0_howMany_40 : decode cX0_howMany 40 = .ok (.iaload, 1) := by decide +kernel
theorem dX0_howMany_41 : decode cX0_howMany 41 = .ok (.iload_n 1, 1) := by decide +kernel
theorem dX0_howMany_42 : decode cX0_howMany 42 = .ok (.invokestatic 19, 3) := by decide +kernel
theorem dX0_howMany_45 : decode cX0_howMany 45 = .ok (.ifCond .eq 6, 3) := by decide +kernel
theorem dX0_howMany_48 : decode cX0_howMany 48 = .ok (.iinc 3 1, 3) := by decide +kernel
theorem dX0_howMany_51 : decode cX0_howMany 51 = .ok (.iinc 4 1, 3) := by decide +kernel
theorem dX0_howMany_54 : decode cX0_howMany 54 = .ok (.goto (-49), 3) := by decide +kernel
theorem dX0_howMany_57 : decode cX0_howMany 57 = .ok (.iload_n 3, 1) := by decide +kernel
theorem dX0_howMany_58 : decode cX0_howMany 58 = .ok (.ireturn, 1) := by decide +kernel
theorem dX0_oldestWeek_0 : decode cX0_oldestWeek 0 = .ok (.iconst 0, 1) := by decide +kernel
theorem dX0_oldestWeek_1 : decode cX0_oldestWeek 1 = .ok (.istore_n 2, 1) := by decide +kernel
theorem dX0_oldestWeek_2 : decode cX0_oldestWeek 2 = .ok (.iload_n 2, 1) := by decide +kernel
theorem dX0_oldestWeek_3 : decode cX0_oldestWeek 3 = .ok (.aload_n 0, 1) := by decide +kernel
theorem dX0_oldestWeek_4 : decode cX0_oldestWeek 4 = .ok (.getfield 15, 3) := by decide +kernel
theorem dX0_oldestWeek_7 : decode cX0_oldestWeek 7 = .ok (.if_icmp .ge 37, 3) := by decide +kernel
theorem dX0_oldestWeek_10 : decode cX0_oldestWeek 10 = .ok (.iload_n 2, 1) := by decide +kernel
theorem dX0_oldestWeek_11 : decode cX0_oldestWeek 11 = .ok (.bipush 12, 2) := by decide +kernel
theorem dX0_oldestWeek_13 : decode cX0_oldestWeek 13 = .ok (.if_icmp .ge 31, 3) := by decide +kernel
theorem dX0_oldestWeek_16 : decode cX0_oldestWeek 16 = .ok (.aload_n 0, 1) := by decide +kernel
theorem dX0_oldestWeek_17 : decode cX0_oldestWeek 17 = .ok (.getfield 9, 3) := by decide +kernel
theorem dX0_oldestWeek_20 : decode cX0_oldestWeek 20 = .ok (.iload_n 2, 1) := by decide +kernel
theorem dX0_oldestWeek_21 : decode cX0_oldestWeek 21 = .ok (.iaload, 1) := by decide +kernel
theorem dX0_oldestWeek_22 : decode cX0_oldestWeek 22 = .ok (.iload_n 1, 1) := by decide +kernel
theorem dX0_oldestWeek_23 : decode cX0_oldestWeek 23 = .ok (.invokestatic 19, 3) := by decide +kernel
theorem dX0_oldestWeek_26 : decode cX0_oldestWeek 26 = .ok (.ifCond .eq 12, 3) := by decide +kernel
theorem dX0_oldestWeek_29 : decode cX0_oldestWeek 29 = .ok (.aload_n 0, 1) := by decide +kernel
theorem dX0_oldestWeek_30 : decode cX0_oldestWeek 30 = .ok (.getfield 9, 3) := by decide +kernel
theorem dX0_oldestWeek_33 : decode cX0_oldestWeek 33 = .ok (.iload_n 2, 1) := by decide +kernel
theorem dX0_oldestWeek_34 : decode cX0_oldestWeek 34 = .ok (.iaload, 1) := by decide +kernel
theorem dX0_oldestWeek_35 : decode cX0_oldestWeek 35 = .ok (.iconst 3, 1) := by decide +kernel
theorem dX0_oldestWeek_36 : decode cX0_oldestWeek 36 = .ok (.idiv, 1) := by decide +kernel
theorem dX0_oldestWeek_37 : decode cX0_oldestWeek 37 = .ok (.ireturn, 1) := by decide +kernel
theorem dX0_oldestWeek_38 : decode cX0_oldestWeek 38 = .ok (.iinc 2 1, 3) := by decide +kernel
theorem dX0_oldestWeek_41 : decode cX0_oldestWeek 41 = .ok (.goto (-39), 3) := by decide +kernel
theorem dX0_oldestWeek_44 : decode cX0_oldestWeek 44 = .ok (.iconst (-1), 1) := by decide +kernel
theorem dX0_oldestWeek_45 : decode cX0_oldestWeek 45 = .ok (.ireturn, 1) := by decide +kernel
theorem dX0_dropOldest_0 : decode cX0_dropOldest 0 = .ok (.iload_n 2, 1) := by decide +kernel
theorem dX0_dropOldest_1 : decode cX0_dropOldest 1 = .ok (.istore_n 3, 1) := by decide +kernel
theorem dX0_dropOldest_2 : decode cX0_dropOldest 2 = .ok (.iconst 0, 1) := by decide +kernel
theorem dX0_dropOldest_3 : decode cX0_dropOldest 3 = .ok (.istore 4, 2) := by decide +kernel
theorem dX0_dropOldest_5 : decode cX0_dropOldest 5 = .ok (.iconst 0, 1) := by decide +kernel
theorem dX0_dropOldest_6 : decode cX0_dropOldest 6 = .ok (.istore 5, 2) := by decide +kernel
theorem dX0_dropOldest_8 : decode cX0_dropOldest 8 = .ok (.iload 5, 2) := by decide +kernel
theorem dX0_dropOldest_10 : decode cX0_dropOldest 10 = .ok (.aload_n 0, 1) := by decide +kernel
theorem dX0_dropOldest_11 : decode cX0_dropOldest 11 = .ok (.getfield 15, 3) := by decide +kernel
theorem dX0_dropOldest_14 : decode cX0_dropOldest 14 = .ok (.if_icmp .ge 57, 3) := by decide +kernel
theorem dX0_dropOldest_17 : decode cX0_dropOldest 17 = .ok (.iload 5, 2) := by decide +kernel
theorem dX0_dropOldest_19 : decode cX0_dropOldest 19 = .ok (.bipush 12, 2) := by decide +kernel
theorem dX0_dropOldest_21 : decode cX0_dropOldest 21 = .ok (.if_icmp .ge 50, 3) := by decide +kernel
theorem dX0_dropOldest_24 : decode cX0_dropOldest 24 = .ok (.iload_n 3, 1) := by decide +kernel
theorem dX0_dropOldest_25 : decode cX0_dropOldest 25 = .ok (.ifCond .le 23, 3) := by decide +kernel
theorem dX0_dropOldest_28 : decode cX0_dropOldest 28 = .ok (.aload_n 0, 1) := by decide +kernel
theorem dX0_dropOldest_29 : decode cX0_dropOldest 29 = .ok (.getfield 9, 3) := by decide +kernel
theorem dX0_dropOldest_32 : decode cX0_dropOldest 32 = .ok (.iload 5, 2) := by decide +kernel
theorem dX0_dropOldest_34 : decode cX0_dropOldest 34 = .ok (.iaload, 1) := by decide +kernel
theorem dX0_dropOldest_35 : decode cX0_dropOldest 35 = .ok (.iload_n 1, 1) := by decide +kernel
theorem dX0_dropOldest_36 : decode cX0_dropOldest 36 = .ok (.invokestatic 19, 3) := by decide +kernel
theorem dX0_dropOldest_39 : decode cX0_dropOldest 39 = .ok (.ifCond .eq 9, 3) := by decide +kernel
theorem dX0_dropOldest_42 : decode cX0_dropOldest 42 = .ok (.iinc 3 (-1), 3) := by decide +kernel
theorem dX0_dropOldest_45 : decode cX0_dropOldest 45 = .ok (.goto 20, 3) := by decide +kernel
theorem dX0_dropOldest_48 : decode cX0_dropOldest 48 = .ok (.aload_n 0, 1) := by decide +kernel
theorem dX0_dropOldest_49 : decode cX0_dropOldest 49 = .ok (.getfield 9, 3) := by decide +kernel
theorem dX0_dropOldest_52 : decode cX0_dropOldest 52 = .ok (.iload 4, 2) := by decide +kernel
theorem dX0_dropOldest_54 : decode cX0_dropOldest 54 = .ok (.aload_n 0, 1) := by decide +kernel
theorem dX0_dropOldest_55 : decode cX0_dropOldest 55 = .ok (.getfield 9, 3) := by decide +kernel
theorem dX0_dropOldest_58 : decode cX0_dropOldest 58 = .ok (.iload 5, 2) := by decide +kernel
theorem dX0_dropOldest_60 : decode cX0_dropOldest 60 = .ok (.iaload, 1) := by decide +kernel
theorem dX0_dropOldest_61 : decode cX0_dropOldest 61 = .ok (.iastore, 1) := by decide +kernel
theorem dX0_dropOldest_62 : decode cX0_dropOldest 62 = .ok (.iinc 4 1, 3) := by decide +kernel
theorem dX0_dropOldest_65 : decode cX0_dropOldest 65 = .ok (.iinc 5 1, 3) := by decide +kernel
theorem dX0_dropOldest_68 : decode cX0_dropOldest 68 = .ok (.goto (-60), 3) := by decide +kernel
theorem dX0_dropOldest_71 : decode cX0_dropOldest 71 = .ok (.aload_n 0, 1) := by decide +kernel
theorem dX0_dropOldest_72 : decode cX0_dropOldest 72 = .ok (.iload 4, 2) := by decide +kernel
theorem dX0_dropOldest_74 : decode cX0_dropOldest 74 = .ok (.putfield 15, 3) := by decide +kernel
theorem dX0_dropOldest_77 : decode cX0_dropOldest 77 = .ok (.return_, 1) := by decide +kernel
theorem dX0_dropAheadOf_0 : decode cX0_dropAheadOf 0 = .ok (.iconst 0, 1) := by decide +kernel
theorem dX0_dropAheadOf_1 : decode cX0_dropAheadOf 1 = .ok (.istore_n 2, 1) := by decide +kernel
theorem dX0_dropAheadOf_2 : decode cX0_dropAheadOf 2 = .ok (.iconst 0, 1) := by decide +kernel
theorem dX0_dropAheadOf_3 : decode cX0_dropAheadOf 3 = .ok (.istore_n 3, 1) := by decide +kernel
theorem dX0_dropAheadOf_4 : decode cX0_dropAheadOf 4 = .ok (.iload_n 3, 1) := by decide +kernel
theorem dX0_dropAheadOf_5 : decode cX0_dropAheadOf 5 = .ok (.aload_n 0, 1) := by decide +kernel
theorem dX0_dropAheadOf_6 : decode cX0_dropAheadOf 6 = .ok (.getfield 15, 3) := by decide +kernel
theorem dX0_dropAheadOf_9 : decode cX0_dropAheadOf 9 = .ok (.if_icmp .ge 42, 3) := by decide +kernel
theorem dX0_dropAheadOf_12 : decode cX0_dropAheadOf 12 = .ok (.iload_n 3, 1) := by decide +kernel
theorem dX0_dropAheadOf_13 : decode cX0_dropAheadOf 13 = .ok (.bipush 12, 2) := by decide +kernel
theorem dX0_dropAheadOf_15 : decode cX0_dropAheadOf 15 = .ok (.if_icmp .ge 36, 3) := by decide +kernel
theorem dX0_dropAheadOf_18 : decode cX0_dropAheadOf 18 = .ok (.aload_n 0, 1) := by decide +kernel
theorem dX0_dropAheadOf_19 : decode cX0_dropAheadOf 19 = .ok (.getfield 9, 3) := by decide +kernel
theorem dX0_dropAheadOf_22 : decode cX0_dropAheadOf 22 = .ok (.iload_n 3, 1) := by decide +kernel
theorem dX0_dropAheadOf_23 : decode cX0_dropAheadOf 23 = .ok (.iaload, 1) := by decide +kernel
theorem dX0_dropAheadOf_24 : decode cX0_dropAheadOf 24 = .ok (.iload_n 1, 1) := by decide +kernel
theorem dX0_dropAheadOf_25 : decode cX0_dropAheadOf 25 = .ok (.iconst 3, 1) := by decide +kernel
theorem dX0_dropAheadOf_26 : decode cX0_dropAheadOf 26 = .ok (.imul, 1) := by decide +kernel
theorem dX0_dropAheadOf_27 : decode cX0_dropAheadOf 27 = .ok (.if_icmp .lt 18, 3) := by decide +kernel
theorem dX0_dropAheadOf_30 : decode cX0_dropAheadOf 30 = .ok (.aload_n 0, 1) := by decide +kernel
theorem dX0_dropAheadOf_31 : decode cX0_dropAheadOf 31 = .ok (.getfield 9, 3) := by decide +kernel
theorem dX0_dropAheadOf_34 : decode cX0_dropAheadOf 34 = .ok (.iload_n 2, 1) := by decide +kernel
theorem dX0_dropAheadOf_35 : decode cX0_dropAheadOf 35 = .ok (.aload_n 0, 1) := by decide +kernel
theorem dX0_dropAheadOf_36 : decode cX0_dropAheadOf 36 = .ok (.getfield 9, 3) := by decide +kernel
theorem dX0_dropAheadOf_39 : decode cX0_dropAheadOf 39 = .ok (.iload_n 3, 1) := by decide +kernel
theorem dX0_dropAheadOf_40 : decode cX0_dropAheadOf 40 = .ok (.iaload, 1) := by decide +kernel
theorem dX0_dropAheadOf_41 : decode cX0_dropAheadOf 41 = .ok (.iastore, 1) := by decide +kernel
theorem dX0_dropAheadOf_42 : decode cX0_dropAheadOf 42 = .ok (.iinc 2 1, 3) := by decide +kernel
theorem dX0_dropAheadOf_45 : decode cX0_dropAheadOf 45 = .ok (.iinc 3 1, 3) := by decide +kernel
theorem dX0_dropAheadOf_48 : decode cX0_dropAheadOf 48 = .ok (.goto (-44), 3) := by decide +kernel
theorem dX0_dropAheadOf_51 : decode cX0_dropAheadOf 51 = .ok (.aload_n 0, 1) := by decide +kernel
theorem dX0_dropAheadOf_52 : decode cX0_dropAheadOf 52 = .ok (.iload_n 2, 1) := by decide +kernel
theorem dX0_dropAheadOf_53 : decode cX0_dropAheadOf 53 = .ok (.putfield 15, 3) := by decide +kernel
theorem dX0_dropAheadOf_56 : decode cX0_dropAheadOf 56 = .ok (.return_, 1) := by decide +kernel
theorem dX0_moveTo_0 : decode cX0_moveTo 0 = .ok (.iconst 0, 1) := by decide +kernel
theorem dX0_moveTo_1 : decode cX0_moveTo 1 = .ok (.istore_n 2, 1) := by decide +kernel
theorem dX0_moveTo_2 : decode cX0_moveTo 2 = .ok (.iconst 0, 1) := by decide +kernel
theorem dX0_moveTo_3 : decode cX0_moveTo 3 = .ok (.istore_n 3, 1) := by decide +kernel
theorem dX0_moveTo_4 : decode cX0_moveTo 4 = .ok (.iload_n 3, 1) := by decide +kernel
theorem dX0_moveTo_5 : decode cX0_moveTo 5 = .ok (.aload_n 0, 1) := by decide +kernel
theorem dX0_moveTo_6 : decode cX0_moveTo 6 = .ok (.getfield 15, 3) := by decide +kernel
theorem dX0_moveTo_9 : decode cX0_moveTo 9 = .ok (.if_icmp .ge 45, 3) := by decide +kernel
theorem dX0_moveTo_12 : decode cX0_moveTo 12 = .ok (.iload_n 3, 1) := by decide +kernel
theorem dX0_moveTo_13 : decode cX0_moveTo 13 = .ok (.bipush 12, 2) := by decide +kernel
theorem dX0_moveTo_15 : decode cX0_moveTo 15 = .ok (.if_icmp .ge 39, 3) := by decide +kernel
theorem dX0_moveTo_18 : decode cX0_moveTo 18 = .ok (.aload_n 1, 1) := by decide +kernel
theorem dX0_moveTo_19 : decode cX0_moveTo 19 = .ok (.invokevirtual 23, 3) := by decide +kernel
theorem dX0_moveTo_22 : decode cX0_moveTo 22 = .ok (.ifCond .eq 32, 3) := by decide +kernel
theorem dX0_moveTo_25 : decode cX0_moveTo 25 = .ok (.aload_n 1, 1) := by decide +kernel
theorem dX0_moveTo_26 : decode cX0_moveTo 26 = .ok (.aload_n 0, 1) := by decide +kernel
theorem dX0_moveTo_27 : decode cX0_moveTo 27 = .ok (.getfield 9, 3) := by decide +kernel
theorem dX0_moveTo_30 : decode cX0_moveTo 30 = .ok (.iload_n 3, 1) := by decide +kernel
theorem dX0_moveTo_31 : decode cX0_moveTo 31 = .ok (.iaload, 1) := by decide +kernel
theorem dX0_moveTo_32 : decode cX0_moveTo 32 = .ok (.iconst 3, 1) := by decide +kernel
theorem dX0_moveTo_33 : decode cX0_moveTo 33 = .ok (.irem, 1) := by decide +kernel
theorem dX0_moveTo_34 : decode cX0_moveTo 34 = .ok (.aload_n 0, 1) := by decide +kernel
theorem dX0_moveTo_35 : decode cX0_moveTo 35 = .ok (.getfield 9, 3) := by decide +kernel
theorem dX0_moveTo_38 : decode cX0_moveTo 38 = .ok (.iload_n 3, 1) := by decide +kernel
theorem dX0_moveTo_39 : decode cX0_moveTo 39 = .ok (.iaload, 1) := by decide +kernel
theorem dX0_moveTo_40 : decode cX0_moveTo 40 = .ok (.iconst 3, 1) := by decide +kernel
theorem dX0_moveTo_41 : decode cX0_moveTo 41 = .ok (.idiv, 1) := by decide +kernel
theorem dX0_moveTo_42 : decode cX0_moveTo 42 = .ok (.invokevirtual 27, 3) := by decide +kernel
theorem dX0_moveTo_45 : decode cX0_moveTo 45 = .ok (.iinc 2 1, 3) := by decide +kernel
theorem dX0_moveTo_48 : decode cX0_moveTo 48 = .ok (.iinc 3 1, 3) := by decide +kernel
theorem dX0_moveTo_51 : decode cX0_moveTo 51 = .ok (.goto (-47), 3) := by decide +kernel
theorem dX0_moveTo_54 : decode cX0_moveTo 54 = .ok (.aload_n 0, 1) := by decide +kernel
theorem dX0_moveTo_55 : decode cX0_moveTo 55 = .ok (.iconst 0, 1) := by decide +kernel
theorem dX0_moveTo_56 : decode cX0_moveTo 56 = .ok (.putfield 15, 3) := by decide +kernel
theorem dX0_moveTo_59 : decode cX0_moveTo 59 = .ok (.iload_n 2, 1) := by decide +kernel
theorem dX0_moveTo_60 : decode cX0_moveTo 60 = .ok (.ireturn, 1) := by decide +kernel
theorem dX0_isOf_0 : decode cX0_isOf 0 = .ok (.iload_n 1, 1) := by decide +kernel
theorem dX0_isOf_1 : decode cX0_isOf 1 = .ok (.iconst 1, 1) := by decide +kernel
theorem dX0_isOf_2 : decode cX0_isOf 2 = .ok (.iload_n 0, 1) := by decide +kernel
theorem dX0_isOf_3 : decode cX0_isOf 3 = .ok (.iconst 3, 1) := by decide +kernel
theorem dX0_isOf_4 : decode cX0_isOf 4 = .ok (.irem, 1) := by decide +kernel
theorem dX0_isOf_5 : decode cX0_isOf 5 = .ok (.ishl, 1) := by decide +kernel
theorem dX0_isOf_6 : decode cX0_isOf 6 = .ok (.iand, 1) := by decide +kernel
theorem dX0_isOf_7 : decode cX0_isOf 7 = .ok (.ifCond .eq 7, 3) := by decide +kernel
theorem dX0_isOf_10 : decode cX0_isOf 10 = .ok (.iconst 1, 1) := by decide +kernel
theorem dX0_isOf_11 : decode cX0_isOf 11 = .ok (.goto 4, 3) := by decide +kernel
theorem dX0_isOf_14 : decode cX0_isOf 14 = .ok (.iconst 0, 1) := by decide +kernel
theorem dX0_isOf_15 : decode cX0_isOf 15 = .ok (.ireturn, 1) := by decide +kernel
theorem dX1_init_0 : decode cX1_init 0 = .ok (.aload_n 0, 1) := by decide +kernel
theorem dX1_init_1 : decode cX1_init 1 = .ok (.invokespecial 3, 3) := by decide +kernel
theorem dX1_init_4 : decode cX1_init 4 = .ok (.aload_n 0, 1) := by decide +kernel
theorem dX1_init_5 : decode cX1_init 5 = .ok (.bipush 7, 2) := by decide +kernel
theorem dX1_init_7 : decode cX1_init 7 = .ok (.anewarray 9, 3) := by decide +kernel
theorem dX1_init_10 : decode cX1_init 10 = .ok (.putfield 11, 3) := by decide +kernel
theorem dX1_init_13 : decode cX1_init 13 = .ok (.iconst 0, 1) := by decide +kernel
theorem dX1_init_14 : decode cX1_init 14 = .ok (.istore_n 1, 1) := by decide +kernel
theorem dX1_init_15 : decode cX1_init 15 = .ok (.iload_n 1, 1) := by decide +kernel
theorem dX1_init_16 : decode cX1_init 16 = .ok (.bipush 6, 2) := by decide +kernel
theorem dX1_init_18 : decode cX1_init 18 = .ok (.if_icmp .gt 22, 3) := by decide +kernel
theorem dX1_init_21 : decode cX1_init 21 = .ok (.aload_n 0, 1) := by decide +kernel
theorem dX1_init_22 : decode cX1_init 22 = .ok (.getfield 11, 3) := by decide +kernel
theorem dX1_init_25 : decode cX1_init 25 = .ok (.iload_n 1, 1) := by decide +kernel
theorem dX1_init_26 : decode cX1_init 26 = .ok (.new 9, 3) := by decide +kernel
theorem dX1_init_29 : decode cX1_init 29 = .ok (.dup, 1) := by decide +kernel
theorem dX1_init_30 : decode cX1_init 30 = .ok (.invokespecial 17, 3) := by decide +kernel
theorem dX1_init_33 : decode cX1_init 33 = .ok (.aastore, 1) := by decide +kernel
theorem dX1_init_34 : decode cX1_init 34 = .ok (.iinc 1 1, 3) := by decide +kernel
theorem dX1_init_37 : decode cX1_init 37 = .ok (.goto (-22), 3) := by decide +kernel
theorem dX1_init_40 : decode cX1_init 40 = .ok (.return_, 1) := by decide +kernel
theorem dX1_start_0 : decode cX1_start 0 = .ok (.aload_n 0, 1) := by decide +kernel
theorem dX1_start_1 : decode cX1_start 1 = .ok (.getfield 11, 3) := by decide +kernel
theorem dX1_start_4 : decode cX1_start 4 = .ok (.iconst 0, 1) := by decide +kernel
theorem dX1_start_5 : decode cX1_start 5 = .ok (.aaload, 1) := by decide +kernel
theorem dX1_start_6 : decode cX1_start 6 = .ok (.astore 5, 2) := by decide +kernel
theorem dX1_start_8 : decode cX1_start 8 = .ok (.aload 5, 2) := by decide +kernel
theorem dX1_start_10 : decode cX1_start 10 = .ok (.aload_n 1, 1) := by decide +kernel
theorem dX1_start_11 : decode cX1_start 11 = .ok (.invokevirtual 18, 3) := by decide +kernel
theorem dX1_start_14 : decode cX1_start 14 = .ok (.aload 5, 2) := by decide +kernel
theorem dX1_start_16 : decode cX1_start 16 = .ok (.iconst 0, 1) := by decide +kernel
theorem dX1_start_17 : decode cX1_start 17 = .ok (.putfield 22, 3) := by decide +kernel
theorem dX1_start_20 : decode cX1_start 20 = .ok (.aload_n 0, 1) := by decide +kernel
theorem dX1_start_21 : decode cX1_start 21 = .ok (.iload_n 3, 1) := by decide +kernel
theorem dX1_start_22 : decode cX1_start 22 = .ok (.putfield 26, 3) := by decide +kernel
theorem dX1_start_25 : decode cX1_start 25 = .ok (.aload_n 0, 1) := by decide +kernel
theorem dX1_start_26 : decode cX1_start 26 = .ok (.iload 4, 2) := by decide +kernel
theorem dX1_start_28 : decode cX1_start 28 = .ok (.putfield 29, 3) := by decide +kernel
theorem dX1_start_31 : decode cX1_start 31 = .ok (.aload 5, 2) := by decide +kernel
theorem dX1_start_33 : decode cX1_start 33 = .ok (.getfield 32, 3) := by decide +kernel
theorem dX1_start_36 : decode cX1_start 36 = .ok (.ifCond .eq 32, 3) := by decide +kernel
theorem dX1_start_39 : decode cX1_start 39 = .ok (.aload_n 0, 1) := by decide +kernel
theorem dX1_start_40 : decode cX1_start 40 = .ok (.iload_n 3, 1) := by decide +kernel
theorem dX1_start_41 : decode cX1_start 41 = .ok (.iconst 1, 1) := by decide +kernel
theorem dX1_start_42 : decode cX1_start 42 = .ok (.iadd, 1) := by decide +kernel
theorem dX1_start_43 : decode cX1_start 43 = .ok (.putfield 26, 3) := by decide +kernel
theorem dX1_start_46 : decode cX1_start 46 = .ok (.aload_n 0, 1) := by decide +kernel
theorem dX1_start_47 : decode cX1_start 47 = .ok (.iconst 0, 1) := by decide +kernel
theorem dX1_start_48 : decode cX1_start 48 = .ok (.iload 4, 2) := by decide +kernel
theorem dX1_start_50 : decode cX1_start 50 = .ok (.iconst 1, 1) := by decide +kernel
theorem dX1_start_51 : decode cX1_start 51 = .ok (.isub, 1) := by decide +kernel
theorem dX1_start_52 : decode cX1_start 52 = .ok (.invokestatic 36, 3) := by decide +kernel
theorem dX1_start_55 : decode cX1_start 55 = .ok (.putfield 29, 3) := by decide +kernel
theorem dX1_start_58 : decode cX1_start 58 = .ok (.aload 5, 2) := by decide +kernel
theorem dX1_start_60 : decode cX1_start 60 = .ok (.aload_n 0, 1) := by decide +kernel
theorem dX1_start_61 : decode cX1_start 61 = .ok (.getfield 26, 3) := by decide +kernel
theorem dX1_start_64 : decode cX1_start 64 = .ok (.aload_n 2, 1) := by decide +kernel
theorem dX1_start_65 : decode cX1_start 65 = .ok (.invokevirtual 42, 3) := by decide +kernel
theorem dX1_start_68 : decode cX1_start 68 = .ok (.aload_n 0, 1) := by decide +kernel
theorem dX1_start_69 : decode cX1_start 69 = .ok (.iconst (-1), 1) := by decide +kernel
theorem dX1_start_70 : decode cX1_start 70 = .ok (.putfield 46, 3) := by decide +kernel
theorem dX1_start_73 : decode cX1_start 73 = .ok (.aload_n 0, 1) := by decide +kernel
theorem dX1_start_74 : decode cX1_start 74 = .ok (.bipush 9, 2) := by decide +kernel
theorem dX1_start_76 : decode cX1_start 76 = .ok (.putfield 49, 3) := by decide +kernel
theorem dX1_start_79 : decode cX1_start 79 = .ok (.aload_n 0, 1) := by decide +kernel
theorem dX1_start_80 : decode cX1_start 80 = .ok (.bipush 9, 2) := by decide +kernel
theorem dX1_start_82 : decode cX1_start 82 = .ok (.putfield 52, 3) := by decide +kernel
theorem dX1_start_85 : decode cX1_start 85 = .ok (.aload_n 0, 1) := by decide +kernel
theorem dX1_start_86 : decode cX1_start 86 = .ok (.iconst 0, 1) := by decide +kernel
theorem dX1_start_87 : decode cX1_start 87 = .ok (.aload_n 2, 1) := by decide +kernel
theorem dX1_start_88 : decode cX1_start 88 = .ok (.invokevirtual 55, 3) := by decide +kernel
theorem dX1_start_91 : decode cX1_start 91 = .ok (.return_, 1) := by decide +kernel
theorem dX1_tryFrom_0 : decode cX1_tryFrom 0 = .ok (.iload_n 1, 1) := by decide +kernel
theorem dX1_tryFrom_1 : decode cX1_tryFrom 1 = .ok (.ifCond .lt 9, 3) := by decide +kernel
theorem dX1_tryFrom_4 : decode cX1_tryFrom 4 = .ok (.iload_n 1, 1) := by decide +kernel
theorem dX1_tryFrom_5 : decode cX1_tryFrom 5 = .ok (.bipush 6, 2) := by decide +kernel
theorem dX1_tryFrom_7 : decode cX1_tryFrom 7 = .ok (.if_icmp .le 4, 3) := by decide +kernel
theorem dX1_tryFrom_10 : decode cX1_tryFrom 10 = .ok (.return_, 1) := by decide +kernel
theorem dX1_tryFrom_11 : decode cX1_tryFrom 11 = .ok (.aload_n 0, 1) := by decide +kernel
theorem dX1_tryFrom_12 : decode cX1_tryFrom 12 = .ok (.getfield 11, 3) := by decide +kernel
theorem dX1_tryFrom_15 : decode cX1_tryFrom 15 = .ok (.iload_n 1, 1) := by decide +kernel
theorem dX1_tryFrom_16 : decode cX1_tryFrom 16 = .ok (.aaload, 1) := by decide +kernel
theorem dX1_tryFrom_17 : decode cX1_tryFrom 17 = .ok (.astore_n 3, 1) := by decide +kernel
theorem dX1_tryFrom_18 : decode cX1_tryFrom 18 = .ok (.iload_n 1, 1) := by decide +kernel
theorem dX1_tryFrom_19 : decode cX1_tryFrom 19 = .ok (.aload_n 0, 1) := by decide +kernel
theorem dX1_tryFrom_20 : decode cX1_tryFrom 20 = .ok (.getfield 29, 3) := by decide +kernel
theorem dX1_tryFrom_23 : decode cX1_tryFrom 23 = .ok (.if_icmp .ge 9, 3) := by decide +kernel
theorem dX1_tryFrom_26 : decode cX1_tryFrom 26 = .ok (.iload_n 1, 1) := by decide +kernel
theorem dX1_tryFrom_27 : decode cX1_tryFrom 27 = .ok (.bipush 6, 2) := by decide +kernel
theorem dX1_tryFrom_29 : decode cX1_tryFrom 29 = .ok (.if_icmp .ne 31, 3) := by decide +kernel
theorem dX1_tryFrom_32 : decode cX1_tryFrom 32 = .ok (.aload_n 3, 1) := by decide +kernel
theorem dX1_tryFrom_33 : decode cX1_tryFrom 33 = .ok (.getfield 22, 3) := by decide +kernel
theorem dX1_tryFrom_36 : decode cX1_tryFrom 36 = .ok (.aload_n 0, 1) := by decide +kernel
theorem dX1_tryFrom_37 : decode cX1_tryFrom 37 = .ok (.getfield 46, 3) := by decide +kernel
theorem dX1_tryFrom_40 : decode cX1_tryFrom 40 = .ok (.if_icmp .le 19, 3) := by decide +kernel
theorem dX1_tryFrom_43 : decode cX1_tryFrom 43 = .ok (.aload_n 0, 1) := by decide +kernel
theorem dX1_tryFrom_44 : decode cX1_tryFrom 44 = .ok (.aload_n 3, 1) := by decide +kernel
theorem dX1_tryFrom_45 : decode cX1_tryFrom 45 = .ok (.getfield 22, 3) := by decide +kernel
theorem dX1_tryFrom_48 : decode cX1_tryFrom 48 = .ok (.putfield 46, 3) := by decide +kernel
theorem dX1_tryFrom_51 : decode cX1_tryFrom 51 = .ok (.aload_n 0, 1) := by decide +kernel
theorem dX1_tryFrom_52 : decode cX1_tryFrom 52 = .ok (.aload_n 0, 1) := by decide +kernel
theorem dX1_tryFrom_53 : decode cX1_tryFrom 53 = .ok (.getfield 52, 3) := by decide +kernel
theorem dX1_tryFrom_56 : decode cX1_tryFrom 56 = .ok (.putfield 49, 3) := by decide +kernel
theorem dX1_tryFrom_59 : decode cX1_tryFrom 59 = .ok (.return_, 1) := by decide +kernel
theorem dX1_tryFrom_60 : decode cX1_tryFrom 60 = .ok (.aload_n 3, 1) := by decide +kernel
theorem dX1_tryFrom_61 : decode cX1_tryFrom 61 = .ok (.getfield 22, 3) := by decide +kernel
theorem dX1_tryFrom_64 : decode cX1_tryFrom 64 = .ok (.aload_n 3, 1) := by decide +kernel
theorem dX1_tryFrom_65 : decode cX1_tryFrom 65 = .ok (.aload_n 0, 1) := by decide +kernel
theorem dX1_tryFrom_66 : decode cX1_tryFrom 66 = .ok (.getfield 29, 3) := by decide +kernel
theorem dX1_tryFrom_69 : decode cX1_tryFrom 69 = .ok (.iload_n 1, 1) := by decide +kernel
theorem dX1_tryFrom_70 : decode cX1_tryFrom 70 = .ok (.isub, 1) := by decide +kernel
theorem dX1_tryFrom_71 : decode cX1_tryFrom 71 = .ok (.aload_n 2, 1) := by decide +kernel
theorem dX1_tryFrom_72 : decode cX1_tryFrom 72 = .ok (.invokestatic 58, 3) := by decide +kernel
theorem dX1_tryFrom_75 : decode cX1_tryFrom 75 = .ok (.iadd, 1) := by decide +kernel
theorem dX1_tryFrom_76 : decode cX1_tryFrom 76 = .ok (.aload_n 0, 1) := by decide +kernel
theorem dX1_tryFrom_77 : decode cX1_tryFrom 77 = .ok (.getfield 46, 3) := by decide +kernel
theorem dX1_tryFrom_80 : decode cX1_tryFrom 80 = .ok (.if_icmp .gt 4, 3) := by decide +kernel
theorem dX1_tryFrom_83 : decode cX1_tryFrom 83 = .ok (.return_, 1) := by decide +kernel
theorem dX1_tryFrom_84 : decode cX1_tryFrom 84 = .ok (.iconst 0, 1) := by decide +kernel
theorem dX1_tryFrom_85 : decode cX1_tryFrom 85 = .ok (.istore 4, 2) := by decide +kernel
theorem dX1_tryFrom_87 : decode cX1_tryFrom 87 = .ok (.iload 4, 2) := by decide +kernel
theorem dX1_tryFrom_89 : decode cX1_tryFrom 89 = .ok (.bipush 7, 2) := by decide +kernel
theorem dX1_tryFrom_91 : decode cX1_tryFrom 91 = .ok (.if_icmp .gt 107, 3) := by decide +kernel
theorem dX1_tryFrom_94 : decode cX1_tryFrom 94 = .ok (.iload 4, 2) := by decide +kernel
theorem dX1_tryFrom_96 : decode cX1_tryFrom 96 = .ok (.bipush 7, 2) := by decide +kernel
theorem dX1_tryFrom_98 : decode cX1_tryFrom 98 = .ok (.if_icmp .ge 11, 3) := by decide +kernel
theorem dX1_tryFrom_101 : decode cX1_tryFrom 101 = .ok (.iload 4, 2) := by decide +kernel
theorem dX1_tryFrom_103 : decode cX1_tryFrom 103 = .ok (.invokestatic 62, 3) := by decide +kernel
theorem dX1_tryFrom_106 : decode cX1_tryFrom 106 = .ok (.goto 5, 3) := by decide +kernel
theorem dX1_tryFrom_109 : decode cX1_tryFrom 109 = .ok (.bipush 9, 2) := by decide +kernel
theorem dX1_tryFrom_111 : decode cX1_tryFrom 111 = .ok (.istore 5, 2) := by decide +kernel
theorem dX1_tryFrom_113 : decode cX1_tryFrom 113 = .ok (.iload_n 1, 1) := by decide +kernel
theorem dX1_tryFrom_114 : decode cX1_tryFrom 114 = .ok (.ifCond .ne 9, 3) := by decide +kernel
theorem dX1_tryFrom_117 : decode cX1_tryFrom 117 = .ok (.aload_n 0, 1) := by decide +kernel
theorem dX1_tryFrom_118 : decode cX1_tryFrom 118 = .ok (.iload 5, 2) := by decide +kernel
theorem dX1_tryFrom_120 : decode cX1_tryFrom 120 = .ok (.putfield 52, 3) := by decide +kernel
theorem dX1_tryFrom_123 : decode cX1_tryFrom 123 = .ok (.iload 5, 2) := by decide +kernel
theorem dX1_tryFrom_125 : decode cX1_tryFrom 125 = .ok (.bipush 9, 2) := by decide +kernel
theorem dX1_tryFrom_127 : decode cX1_tryFrom 127 = .ok (.if_icmp .eq 13, 3) := by decide +kernel
theorem dX1_tryFrom_130 : decode cX1_tryFrom 130 = .ok (.aload_n 3, 1) := by decide +kernel
theorem dX1_tryFrom_131 : decode cX1_tryFrom 131 = .ok (.iload 5, 2) := by decide +kernel
theorem dX1_tryFrom_133 : decode cX1_tryFrom 133 = .ok (.aload_n 2, 1) := by decide +kernel
theorem dX1_tryFrom_134 : decode cX1_tryFrom 134 = .ok (.invokevirtual 66, 3) := by decide +kernel
theorem dX1_tryFrom_137 : decode cX1_tryFrom 137 = .ok (.ifCond .eq 55, 3) := by decide +kernel
theorem dX1_tryFrom_140 : decode cX1_tryFrom 140 = .ok (.aload_n 0, 1) := by decide +kernel
theorem dX1_tryFrom_141 : decode cX1_tryFrom 141 = .ok (.getfield 11, 3) := by decide +kernel
theorem dX1_tryFrom_144 : decode cX1_tryFrom 144 = .ok (.iload_n 1, 1) := by decide +kernel
theorem dX1_tryFrom_145 : decode cX1_tryFrom 145 = .ok (.iconst 1, 1) := by decide +kernel
theorem dX1_tryFrom_146 : decode cX1_tryFrom 146 = .ok (.iadd, 1) := by decide +kernel
theorem dX1_tryFrom_147 : decode cX1_tryFrom 147 = .ok (.aaload, 1) := by decide +kernel
theorem dX1_tryFrom_148 : decode cX1_tryFrom 148 = .ok (.astore 6, 2) := by decide +kernel
theorem dX1_tryFrom_150 : decode cX1_tryFrom 150 = .ok (.aload 6, 2) := by decide +kernel
theorem dX1_tryFrom_152 : decode cX1_tryFrom 152 = .ok (.aload_n 3, 1) := by decide +kernel
theorem dX1_tryFrom_153 : decode cX1_tryFrom 153 = .ok (.invokevirtual 18, 3) := by decide +kernel
theorem dX1_tryFrom_156 : decode cX1_tryFrom 156 = .ok (.aload 6, 2) := by decide +kernel
theorem dX1_tryFrom_158 : decode cX1_tryFrom 158 = .ok (.iload 5, 2) := by decide +kernel
theorem dX1_tryFrom_160 : decode cX1_tryFrom 160 = .ok (.aload_n 2, 1) := by decide +kernel
theorem dX1_tryFrom_161 : decode cX1_tryFrom 161 = .ok (.aload_n 0, 1) := by decide +kernel
theorem dX1_tryFrom_162 : decode cX1_tryFrom 162 = .ok (.getfield 26, 3) := by decide +kernel
theorem dX1_tryFrom_165 : decode cX1_tryFrom 165 = .ok (.iload_n 1, 1) := by decide +kernel
theorem dX1_tryFrom_166 : decode cX1_tryFrom 166 = .ok (.iadd, 1) := by decide +kernel
theorem dX1_tryFrom_167 : decode cX1_tryFrom 167 = .ok (.invokevirtual 70, 3) := by decide +kernel
theorem dX1_tryFrom_170 : decode cX1_tryFrom 170 = .ok (.aload 6, 2) := by decide +kernel
theorem dX1_tryFrom_172 : decode cX1_tryFrom 172 = .ok (.aload_n 0, 1) := by decide +kernel
theorem dX1_tryFrom_173 : decode cX1_tryFrom 173 = .ok (.getfield 26, 3) := by decide +kernel
theorem dX1_tryFrom_176 : decode cX1_tryFrom 176 = .ok (.iload_n 1, 1) := by decide +kernel
theorem dX1_tryFrom_177 : decode cX1_tryFrom 177 = .ok (.iadd, 1) := by decide +kernel
theorem dX1_tryFrom_178 : decode cX1_tryFrom 178 = .ok (.iconst 1, 1) := by decide +kernel
theorem dX1_tryFrom_179 : decode cX1_tryFrom 179 = .ok (.iadd, 1) := by decide +kernel
theorem dX1_tryFrom_180 : decode cX1_tryFrom 180 = .ok (.aload_n 2, 1) := by decide +kernel
theorem dX1_tryFrom_181 : decode cX1_tryFrom 181 = .ok (.invokevirtual 42, 3) := by decide +kernel
theorem dX1_tryFrom_184 : decode cX1_tryFrom 184 = .ok (.aload_n 0, 1) := by decide +kernel
theorem dX1_tryFrom_185 : decode cX1_tryFrom 185 = .ok (.iload_n 1, 1) := by decide +kernel
theorem dX1_tryFrom_186 : decode cX1_tryFrom 186 = .ok (.iconst 1, 1) := by decide +kernel
theorem dX1_tryFrom_187 : decode cX1_tryFrom 187 = .ok (.iadd, 1) := by decide +kernel
theorem dX1_tryFrom_188 : decode cX1_tryFrom 188 = .ok (.aload_n 2, 1) := by decide +kernel
theorem dX1_tryFrom_189 : decode cX1_tryFrom 189 = .ok (.invokevirtual 55, 3) := by decide +kernel
theorem dX1_tryFrom_192 : decode cX1_tryFrom 192 = .ok (.iinc 4 1, 3) := by decide +kernel
theorem dX1_tryFrom_195 : decode cX1_tryFrom 195 = .ok (.goto (-108), 3) := by decide +kernel
theorem dX1_tryFrom_198 : decode cX1_tryFrom 198 = .ok (.return_, 1) := by decide +kernel
theorem dX1_mostStill_0 : decode cX1_mostStill 0 = .ok (.iload_n 1, 1) := by decide +kernel
theorem dX1_mostStill_1 : decode cX1_mostStill 1 = .ok (.aload_n 0, 1) := by decide +kernel
theorem dX1_mostStill_2 : decode cX1_mostStill 2 = .ok (.getfield 74, 3) := by decide +kernel
theorem dX1_mostStill_5 : decode cX1_mostStill 5 = .ok (.isub, 1) := by decide +kernel
theorem dX1_mostStill_6 : decode cX1_mostStill 6 = .ok (.istore_n 3, 1) := by decide +kernel
theorem dX1_mostStill_7 : decode cX1_mostStill 7 = .ok (.iload_n 3, 1) := by decide +kernel
theorem dX1_mostStill_8 : decode cX1_mostStill 8 = .ok (.ifCond .gt 5, 3) := by decide +kernel
theorem dX1_mostStill_11 : decode cX1_mostStill 11 = .ok (.iconst 0, 1) := by decide +kernel
theorem dX1_mostStill_12 : decode cX1_mostStill 12 = .ok (.ireturn, 1) := by decide +kernel
theorem dX1_mostStill_13 : decode cX1_mostStill 13 = .ok (.aload_n 0, 1) := by decide +kernel
theorem dX1_mostStill_14 : decode cX1_mostStill 14 = .ok (.getfield 77, 3) := by decide +kernel
theorem dX1_mostStill_17 : decode cX1_mostStill 17 = .ok (.getfield 81, 3) := by decide +kernel
theorem dX1_mostStill_20 : decode cX1_mostStill 20 = .ok (.istore 4, 2) := by decide +kernel
theorem dX1_mostStill_22 : decode cX1_mostStill 22 = .ok (.aload_n 0, 1) := by decide +kernel
theorem dX1_mostStill_23 : decode cX1_mostStill 23 = .ok (.getfield 86, 3) := by decide +kernel
theorem dX1_mostStill_26 : decode cX1_mostStill 26 = .ok (.getfield 90, 3) := by decide +kernel
theorem dX1_mostStill_29 : decode cX1_mostStill 29 = .ok (.iload 4, 2) := by decide +kernel
theorem dX1_mostStill_31 : decode cX1_mostStill 31 = .ok (.iload_n 3, 1) := by decide +kernel
theorem dX1_mostStill_32 : decode cX1_mostStill 32 = .ok (.imul, 1) := by decide +kernel
theorem dX1_mostStill_33 : decode cX1_mostStill 33 = .ok (.iadd, 1) := by decide +kernel
theorem dX1_mostStill_34 : decode cX1_mostStill 34 = .ok (.istore 5, 2) := by decide +kernel
theorem dX1_mostStill_36 : decode cX1_mostStill 36 = .ok (.iconst 0, 1) := by decide +kernel
theorem dX1_mostStill_37 : decode cX1_mostStill 37 = .ok (.istore 6, 2) := by decide +kernel
theorem dX1_mostStill_39 : decode cX1_mostStill 39 = .ok (.iconst 0, 1) := by decide +kernel
theorem dX1_mostStill_40 : decode cX1_mostStill 40 = .ok (.istore 7, 2) := by decide +kernel
theorem dX1_mostStill_42 : decode cX1_mostStill 42 = .ok (.iconst 0, 1) := by decide +kernel
theorem dX1_mostStill_43 : decode cX1_mostStill 43 = .ok (.istore 8, 2) := by decide +kernel
theorem dX1_mostStill_45 : decode cX1_mostStill 45 = .ok (.iload 8, 2) := by decide +kernel
theorem dX1_mostStill_47 : decode cX1_mostStill 47 = .ok (.iconst 4, 1) := by decide +kernel
theorem dX1_mostStill_48 : decode cX1_mostStill 48 = .ok (.if_icmp .ge 101, 3) := by decide +kernel
theorem dX1_mostStill_51 : decode cX1_mostStill 51 = .ok (.aload_n 0, 1) := by decide +kernel
theorem dX1_mostStill_52 : decode cX1_mostStill 52 = .ok (.getfield 77, 3) := by decide +kernel
theorem dX1_mostStill_55 : decode cX1_mostStill 55 = .ok (.aload_n 2, 1) := by decide +kernel
theorem dX1_mostStill_56 : decode cX1_mostStill 56 = .ok (.iload 8, 2) := by decide +kernel
theorem dX1_mostStill_58 : decode cX1_mostStill 58 = .ok (.invokevirtual 95, 3) := by decide +kernel
theorem dX1_mostStill_61 : decode cX1_mostStill 61 = .ok (.invokevirtual 100, 3) := by decide +kernel
theorem dX1_mostStill_64 : decode cX1_mostStill 64 = .ok (.istore 9, 2) := by decide +kernel
theorem dX1_mostStill_66 : decode cX1_mostStill 66 = .ok (.aload_n 0, 1) := by decide +kernel
theorem dX1_mostStill_67 : decode cX1_mostStill 67 = .ok (.getfield 77, 3) := by decide +kernel
theorem dX1_mostStill_70 : decode cX1_mostStill 70 = .ok (.aload_n 2, 1) := by decide +kernel
theorem dX1_mostStill_71 : decode cX1_mostStill 71 = .ok (.iload 8, 2) := by decide +kernel
theorem dX1_mostStill_73 : decode cX1_mostStill 73 = .ok (.invokevirtual 103, 3) := by decide +kernel
theorem dX1_mostStill_76 : decode cX1_mostStill 76 = .ok (.invokevirtual 106, 3) := by decide +kernel
theorem dX1_mostStill_79 : decode cX1_mostStill 79 = .ok (.iload 4, 2) := by decide +kernel
theorem dX1_mostStill_81 : decode cX1_mostStill 81 = .ok (.iadd, 1) := by decide +kernel
theorem dX1_mostStill_82 : decode cX1_mostStill 82 = .ok (.istore 10, 2) := by decide +kernel
theorem dX1_mostStill_84 : decode cX1_mostStill 84 = .ok (.aload_n 0, 1) := by decide +kernel
theorem dX1_mostStill_85 : decode cX1_mostStill 85 = .ok (.getfield 86, 3) := by decide +kernel
theorem dX1_mostStill_88 : decode cX1_mostStill 88 = .ok (.aload_n 2, 1) := by decide +kernel
theorem dX1_mostStill_89 : decode cX1_mostStill 89 = .ok (.iload 8, 2) := by decide +kernel
theorem dX1_mostStill_91 : decode cX1_mostStill 91 = .ok (.invokevirtual 109, 3) := by decide +kernel
theorem dX1_mostStill_94 : decode cX1_mostStill 94 = .ok (.iconst 0, 1) := by decide +kernel
theorem dX1_mostStill_95 : decode cX1_mostStill 95 = .ok (.invokevirtual 112, 3) := by decide +kernel
theorem dX1_mostStill_98 : decode cX1_mostStill 98 = .ok (.iload 4, 2) := by decide +kernel
theorem dX1_mostStill_100 : decode cX1_mostStill 100 = .ok (.iload_n 3, 1) := by decide +kernel
theorem dX1_mostStill_101 : decode cX1_mostStill 101 = .ok (.imul, 1) := by decide +kernel
theorem dX1_mostStill_102 : decode cX1_mostStill 102 = .ok (.iadd, 1) := by decide +kernel
theorem dX1_mostStill_103 : decode cX1_mostStill 103 = .ok (.istore 11, 2) := by decide +kernel
theorem dX1_mostStill_105 : decode cX1_mostStill 105 = .ok (.iload 10, 2) := by decide +kernel
theorem dX1_mostStill_107 : decode cX1_mostStill 107 = .ok (.ifCond .le 36, 3) := by decide +kernel
theorem dX1_mostStill_110 : decode cX1_mostStill 110 = .ok (.iload 11, 2) := by decide +kernel
theorem dX1_mostStill_112 : decode cX1_mostStill 112 = .ok (.iload 10, 2) := by decide +kernel
theorem dX1_mostStill_114 : decode cX1_mostStill 114 = .ok (.if_icmp .lt 29, 3) := by decide +kernel
theorem dX1_mostStill_117 : decode cX1_mostStill 117 = .ok (.iload 6, 2) := by decide +kernel
theorem dX1_mostStill_119 : decode cX1_mostStill 119 = .ok (.iload 5, 2) := by decide +kernel
theorem dX1_mostStill_121 : decode cX1_mostStill 121 = .ok (.iload 9, 2) := by decide +kernel
theorem dX1_mostStill_123 : decode cX1_mostStill 123 = .ok (.imul, 1) := by decide +kernel
theorem dX1_mostStill_124 : decode cX1_mostStill 124 = .ok (.iload 10, 2) := by decide +kernel
theorem dX1_mostStill_126 : decode cX1_mostStill 126 = .ok (.idiv, 1) := by decide +kernel
theorem dX1_mostStill_127 : decode cX1_mostStill 127 = .ok (.invokestatic 36, 3) := by decide +kernel
theorem dX1_mostStill_130 : decode cX1_mostStill 130 = .ok (.istore 6, 2) := by decide +kernel
theorem dX1_mostStill_132 : decode cX1_mostStill 132 = .ok (.iload 7, 2) := by decide +kernel
theorem dX1_mostStill_134 : decode cX1_mostStill 134 = .ok (.iload 9, 2) := by decide +kernel
theorem dX1_mostStill_136 : decode cX1_mostStill 136 = .ok (.iload_n 3, 1) := by decide +kernel
theorem dX1_mostStill_137 : decode cX1_mostStill 137 = .ok (.imul, 1) := by decide +kernel
theorem dX1_mostStill_138 : decode cX1_mostStill 138 = .ok (.invokestatic 36, 3) := by decide +kernel
theorem dX1_mostStill_141 : decode cX1_mostStill 141 = .ok (.istore 7, 2) := by decide +kernel
theorem dX1_mostStill_143 : decode cX1_mostStill 143 = .ok (.iinc 8 1, 3) := by decide +kernel
theorem dX1_mostStill_146 : decode cX1_mostStill 146 = .ok (.goto (-101), 3) := by decide +kernel
theorem dX1_mostStill_149 : decode cX1_mostStill 149 = .ok (.iload 6, 2) := by decide +kernel
theorem dX1_mostStill_151 : decode cX1_mostStill 151 = .ok (.iload 7, 2) := by decide +kernel
theorem dX1_mostStill_153 : decode cX1_mostStill 153 = .ok (.invokestatic 115, 3) := by decide +kernel
theorem dX1_mostStill_156 : decode cX1_mostStill 156 = .ok (.ireturn, 1) := by decide +kernel
theorem dX2_isNumber_0 : decode cX2_isNumber 0 = .ok (.iload_n 0, 1) := by decide +kernel
theorem dX2_isNumber_1 : decode cX2_isNumber 1 = .ok (.ifCond .lt 15, 3) := by decide +kernel
theorem dX2_isNumber_4 : decode cX2_isNumber 4 = .ok (.iload_n 0, 1) := by decide +kernel
theorem dX2_isNumber_5 : decode cX2_isNumber 5 = .ok (.getstatic 54, 3) := by decide +kernel
theorem dX2_isNumber_8 : decode cX2_isNumber 8 = .ok (.arraylength, 1) := by decide +kernel
theorem dX2_isNumber_9 : decode cX2_isNumber 9 = .ok (.if_icmp .ge 7, 3) := by decide +kernel
theorem dX2_isNumber_12 : decode cX2_isNumber 12 = .ok (.iconst 1, 1) := by decide +kernel
theorem dX2_isNumber_13 : decode cX2_isNumber 13 = .ok (.goto 4, 3) := by decide +kernel
theorem dX2_isNumber_16 : decode cX2_isNumber 16 = .ok (.iconst 0, 1) := by decide +kernel
theorem dX2_isNumber_17 : decode cX2_isNumber 17 = .ok (.ireturn, 1) := by decide +kernel
theorem dX2_numbered_0 : decode cX2_numbered 0 = .ok (.iload_n 0, 1) := by decide +kernel
theorem dX2_numbered_1 : decode cX2_numbered 1 = .ok (.ifCond .lt 19, 3) := by decide +kernel
theorem dX2_numbered_4 : decode cX2_numbered 4 = .ok (.iload_n 0, 1) := by decide +kernel
theorem dX2_numbered_5 : decode cX2_numbered 5 = .ok (.getstatic 54, 3) := by decide +kernel
theorem dX2_numbered_8 : decode cX2_numbered 8 = .ok (.arraylength, 1) := by decide +kernel
theorem dX2_numbered_9 : decode cX2_numbered 9 = .ok (.if_icmp .ge 11, 3) := by decide +kernel
theorem dX2_numbered_12 : decode cX2_numbered 12 = .ok (.getstatic 54, 3) := by decide +kernel
theorem dX2_numbered_15 : decode cX2_numbered 15 = .ok (.iload_n 0, 1) := by decide +kernel
theorem dX2_numbered_16 : decode cX2_numbered 16 = .ok (.aaload, 1) := by decide +kernel
theorem dX2_numbered_17 : decode cX2_numbered 17 = .ok (.goto 6, 3) := by decide +kernel
theorem dX2_numbered_20 : decode cX2_numbered 20 = .ok (.getstatic 3, 3) := by decide +kernel
theorem dX2_numbered_23 : decode cX2_numbered 23 = .ok (.areturn, 1) := by decide +kernel
theorem dX2_isA_0 : decode cX2_isA 0 = .ok (.aload_n 0, 1) := by decide +kernel
theorem dX2_isA_1 : decode cX2_isA 1 = .ok (.aload_n 1, 1) := by decide +kernel
theorem dX2_isA_2 : decode cX2_isA 2 = .ok (.if_acmp .eq 24, 3) := by decide +kernel
theorem dX2_isA_5 : decode cX2_isA 5 = .ok (.aload_n 1, 1) := by decide +kernel
theorem dX2_isA_6 : decode cX2_isA 6 = .ok (.getstatic 3, 3) := by decide +kernel
theorem dX2_isA_9 : decode cX2_isA 9 = .ok (.if_acmp .eq 17, 3) := by decide +kernel
theorem dX2_isA_12 : decode cX2_isA 12 = .ok (.aload_n 0, 1) := by decide +kernel
theorem dX2_isA_13 : decode cX2_isA 13 = .ok (.getstatic 16, 3) := by decide +kernel
theorem dX2_isA_16 : decode cX2_isA 16 = .ok (.if_acmp .ne 14, 3) := by decide +kernel
theorem dX2_isA_19 : decode cX2_isA 19 = .ok (.aload_n 1, 1) := by decide +kernel
theorem dX2_isA_20 : decode cX2_isA 20 = .ok (.getstatic 13, 3) := by decide +kernel
theorem dX2_isA_23 : decode cX2_isA 23 = .ok (.if_acmp .ne 7, 3) := by decide +kernel
theorem dX2_isA_26 : decode cX2_isA 26 = .ok (.iconst 1, 1) := by decide +kernel
theorem dX2_isA_27 : decode cX2_isA 27 = .ok (.goto 4, 3) := by decide +kernel
theorem dX2_isA_30 : decode cX2_isA 30 = .ok (.iconst 0, 1) := by decide +kernel
theorem dX2_isA_31 : decode cX2_isA 31 = .ok (.ireturn, 1) := by decide +kernel
theorem dX2_needs_0 : decode cX2_needs 0 = .ok (.iconst 1, 1) := by decide +kernel
theorem dX2_needs_1 : decode cX2_needs 1 = .ok (.iload_n 1, 1) := by decide +kernel
theorem dX2_needs_2 : decode cX2_needs 2 = .ok (.aload_n 0, 1) := by decide +kernel
theorem dX2_needs_3 : decode cX2_needs 3 = .ok (.getfield 42, 3) := by decide +kernel
theorem dX2_needs_6 : decode cX2_needs 6 = .ok (.isub, 1) := by decide +kernel
theorem dX2_needs_7 : decode cX2_needs 7 = .ok (.invokestatic 57, 3) := by decide +kernel
theorem dX2_needs_10 : decode cX2_needs 10 = .ok (.ireturn, 1) := by decide +kernel
theorem dX2_gets_0 : decode cX2_gets 0 = .ok (.iload_n 1, 1) := by decide +kernel
theorem dX2_gets_1 : decode cX2_gets 1 = .ok (.aload_n 0, 1) := by decide +kernel
theorem dX2_gets_2 : decode cX2_gets 2 = .ok (.getfield 45, 3) := by decide +kernel
theorem dX2_gets_5 : decode cX2_gets 5 = .ok (.iadd, 1) := by decide +kernel
theorem dX2_gets_6 : decode cX2_gets 6 = .ok (.ireturn, 1) := by decide +kernel
theorem dX2_owesFor_0 : decode cX2_owesFor 0 = .ok (.iload_n 1, 1) := by decide +kernel
theorem dX2_owesFor_1 : decode cX2_owesFor 1 = .ok (.aload_n 0, 1) := by decide +kernel
theorem dX2_owesFor_2 : decode cX2_owesFor 2 = .ok (.getfield 51, 3) := by decide +kernel
theorem dX2_owesFor_5 : decode cX2_owesFor 5 = .ok (.imul, 1) := by decide +kernel
theorem dX2_owesFor_6 : decode cX2_owesFor 6 = .ok (.ireturn, 1) := by decide +kernel
theorem dX3_init_0 : decode cX3_init 0 = .ok (.aload_n 0, 1) := by decide +kernel
theorem dX3_init_1 : decode cX3_init 1 = .ok (.invokespecial 3, 3) := by decide +kernel
theorem dX3_init_4 : decode cX3_init 4 = .ok (.aload_n 0, 1) := by decide +kernel
theorem dX3_init_5 : decode cX3_init 5 = .ok (.iconst 4, 1) := by decide +kernel
theorem dX3_init_6 : decode cX3_init 6 = .ok (.newarray .int, 2) := by decide +kernel
theorem dX3_init_8 : decode cX3_init 8 = .ok (.putfield 9, 3) := by decide +kernel
theorem dX3_init_11 : decode cX3_init 11 = .ok (.aload_n 0, 1) := by decide +kernel
theorem dX3_init_12 : decode cX3_init 12 = .ok (.iconst 4, 1) := by decide +kernel
theorem dX3_init_13 : decode cX3_init 13 = .ok (.newarray .int, 2) := by decide +kernel
theorem dX3_init_15 : decode cX3_init 15 = .ok (.putfield 15, 3) := by decide +kernel
theorem dX3_init_18 : decode cX3_init 18 = .ok (.aload_n 0, 1) := by decide +kernel
theorem dX3_init_19 : decode cX3_init 19 = .ok (.iconst 4, 1) := by decide +kernel
theorem dX3_init_20 : decode cX3_init 20 = .ok (.newarray .int, 2) := by decide +kernel
theorem dX3_init_22 : decode cX3_init 22 = .ok (.putfield 18, 3) := by decide +kernel
theorem dX3_init_25 : decode cX3_init 25 = .ok (.return_, 1) := by decide +kernel
theorem dX3_copy_0 : decode cX3_copy 0 = .ok (.iconst 0, 1) := by decide +kernel
theorem dX3_copy_1 : decode cX3_copy 1 = .ok (.istore_n 2, 1) := by decide +kernel
theorem dX3_copy_2 : decode cX3_copy 2 = .ok (.iload_n 2, 1) := by decide +kernel
theorem dX3_copy_3 : decode cX3_copy 3 = .ok (.iconst 4, 1) := by decide +kernel
theorem dX3_copy_4 : decode cX3_copy 4 = .ok (.if_icmp .ge 45, 3) := by decide +kernel
theorem dX3_copy_7 : decode cX3_copy 7 = .ok (.aload_n 0, 1) := by decide +kernel
theorem dX3_copy_8 : decode cX3_copy 8 = .ok (.getfield 9, 3) := by decide +kernel
theorem dX3_copy_11 : decode cX3_copy 11 = .ok (.iload_n 2, 1) := by decide +kernel
theorem dX3_copy_12 : decode cX3_copy 12 = .ok (.aload_n 1, 1) := by decide +kernel
theorem dX3_copy_13 : decode cX3_copy 13 = .ok (.getfield 9, 3) := by decide +kernel
theorem dX3_copy_16 : decode cX3_copy 16 = .ok (.iload_n 2, 1) := by decide +kernel
theorem dX3_copy_17 : decode cX3_copy 17 = .ok (.iaload, 1) := by decide +kernel
theorem dX3_copy_18 : decode cX3_copy 18 = .ok (.iastore, 1) := by decide +kernel
theorem dX3_copy_19 : decode cX3_copy 19 = .ok (.aload_n 0, 1) := by decide +kernel
theorem dX3_copy_20 : decode cX3_copy 20 = .ok (.getfield 15, 3) := by decide +kernel
theorem dX3_copy_23 : decode cX3_copy 23 = .ok (.iload_n 2, 1) := by decide +kernel
theorem dX3_copy_24 : decode cX3_copy 24 = .ok (.aload_n 1, 1) := by decide +kernel
theorem dX3_copy_25 : decode cX3_copy 25 = .ok (.getfield 15, 3) := by decide +kernel
theorem dX3_copy_28 : decode cX3_copy 28 = .ok (.iload_n 2, 1) := by decide +kernel
theorem dX3_copy_29 : decode cX3_copy 29 = .ok (.iaload, 1) := by decide +kernel
theorem dX3_copy_30 : decode cX3_copy 30 = .ok (.iastore, 1) := by decide +kernel
theorem dX3_copy_31 : decode cX3_copy 31 = .ok (.aload_n 0, 1) := by decide +kernel
theorem dX3_copy_32 : decode cX3_copy 32 = .ok (.getfield 18, 3) := by decide +kernel
theorem dX3_copy_35 : decode cX3_copy 35 = .ok (.iload_n 2, 1) := by decide +kernel
theorem dX3_copy_36 : decode cX3_copy 36 = .ok (.aload_n 1, 1) := by decide +kernel
theorem dX3_copy_37 : decode cX3_copy 37 = .ok (.getfield 18, 3) := by decide +kernel
theorem dX3_copy_40 : decode cX3_copy 40 = .ok (.iload_n 2, 1) := by decide +kernel
theorem dX3_copy_41 : decode cX3_copy 41 = .ok (.iaload, 1) := by decide +kernel
theorem dX3_copy_42 : decode cX3_copy 42 = .ok (.iastore, 1) := by decide +kernel
theorem dX3_copy_43 : decode cX3_copy 43 = .ok (.iinc 2 1, 3) := by decide +kernel
theorem dX3_copy_46 : decode cX3_copy 46 = .ok (.goto (-44), 3) := by decide +kernel
theorem dX3_copy_49 : decode cX3_copy 49 = .ok (.aload_n 0, 1) := by decide +kernel
theorem dX3_copy_50 : decode cX3_copy 50 = .ok (.aload_n 1, 1) := by decide +kernel
theorem dX3_copy_51 : decode cX3_copy 51 = .ok (.getfield 21, 3) := by decide +kernel
theorem dX3_copy_54 : decode cX3_copy 54 = .ok (.putfield 21, 3) := by decide +kernel
theorem dX3_copy_57 : decode cX3_copy 57 = .ok (.return_, 1) := by decide +kernel
theorem dX3_termOf_0 : decode cX3_termOf 0 = .ok (.iload_n 1, 1) := by decide +kernel
theorem dX3_termOf_1 : decode cX3_termOf 1 = .ok (.invokestatic 25, 3) := by decide +kernel
theorem dX3_termOf_4 : decode cX3_termOf 4 = .ok (.ifCond .eq 12, 3) := by decide +kernel
theorem dX3_termOf_7 : decode cX3_termOf 7 = .ok (.aload_n 0, 1) := by decide +kernel
theorem dX3_termOf_8 : decode cX3_termOf 8 = .ok (.getfield 9, 3) := by decide +kernel
theorem dX3_termOf_11 : decode cX3_termOf 11 = .ok (.iload_n 1, 1) := by decide +kernel
theorem dX3_termOf_12 : decode cX3_termOf 12 = .ok (.iaload, 1) := by decide +kernel
theorem dX3_termOf_13 : decode cX3_termOf 13 = .ok (.goto 4, 3) := by decide +kernel
theorem dX3_termOf_16 : decode cX3_termOf 16 = .ok (.iconst 0, 1) := by decide +kernel
theorem dX3_termOf_17 : decode cX3_termOf 17 = .ok (.ireturn, 1) := by decide +kernel
theorem dX3_worthOf_0 : decode cX3_worthOf 0 = .ok (.iload_n 1, 1) := by decide +kernel
theorem dX3_worthOf_1 : decode cX3_worthOf 1 = .ok (.invokestatic 25, 3) := by decide +kernel
theorem dX3_worthOf_4 : decode cX3_worthOf 4 = .ok (.ifCond .eq 12, 3) := by decide +kernel
theorem dX3_worthOf_7 : decode cX3_worthOf 7 = .ok (.aload_n 0, 1) := by decide +kernel
theorem dX3_worthOf_8 : decode cX3_worthOf 8 = .ok (.getfield 15, 3) := by decide +kernel
theorem dX3_worthOf_11 : decode cX3_worthOf 11 = .ok (.iload_n 1, 1) := by decide +kernel
theorem dX3_worthOf_12 : decode cX3_worthOf 12 = .ok (.iaload, 1) := by decide +kernel
theorem dX3_worthOf_13 : decode cX3_worthOf 13 = .ok (.goto 4, 3) := by decide +kernel
theorem dX3_worthOf_16 : decode cX3_worthOf 16 = .ok (.iconst 0, 1) := by decide +kernel
theorem dX3_worthOf_17 : decode cX3_worthOf 17 = .ok (.ireturn, 1) := by decide +kernel
theorem dX3_sortsOf_0 : decode cX3_sortsOf 0 = .ok (.iload_n 1, 1) := by decide +kernel
theorem dX3_sortsOf_1 : decode cX3_sortsOf 1 = .ok (.invokestatic 25, 3) := by decide +kernel
theorem dX3_sortsOf_4 : decode cX3_sortsOf 4 = .ok (.ifCond .eq 12, 3) := by decide +kernel
theorem dX3_sortsOf_7 : decode cX3_sortsOf 7 = .ok (.aload_n 0, 1) := by decide +kernel
theorem dX3_sortsOf_8 : decode cX3_sortsOf 8 = .ok (.getfield 18, 3) := by decide +kernel
theorem dX3_sortsOf_11 : decode cX3_sortsOf 11 = .ok (.iload_n 1, 1) := by decide +kernel
theorem dX3_sortsOf_12 : decode cX3_sortsOf 12 = .ok (.iaload, 1) := by decide +kernel
theorem dX3_sortsOf_13 : decode cX3_sortsOf 13 = .ok (.goto 4, 3) := by decide +kernel
theorem dX3_sortsOf_16 : decode cX3_sortsOf 16 = .ok (.iconst 0, 1) := by decide +kernel
theorem dX3_sortsOf_17 : decode cX3_sortsOf 17 = .ok (.ireturn, 1) := by decide +kernel
theorem dX3_allTerms_0 : decode cX3_allTerms 0 = .ok (.iconst 0, 1) := by decide +kernel
theorem dX3_allTerms_1 : decode cX3_allTerms 1 = .ok (.istore_n 1, 1) := by decide +kernel
theorem dX3_allTerms_2 : decode cX3_allTerms 2 = .ok (.iconst 0, 1) := by decide +kernel
theorem dX3_allTerms_3 : decode cX3_allTerms 3 = .ok (.istore_n 2, 1) := by decide +kernel
theorem dX3_allTerms_4 : decode cX3_allTerms 4 = .ok (.iload_n 2, 1) := by decide +kernel
theorem dX3_allTerms_5 : decode cX3_allTerms 5 = .ok (.iconst 4, 1) := by decide +kernel
theorem dX3_allTerms_6 : decode cX3_allTerms 6 = .ok (.if_icmp .ge 18, 3) := by decide +kernel
theorem dX3_allTerms_9 : decode cX3_allTerms 9 = .ok (.iload_n 1, 1) := by decide +kernel
theorem dX3_allTerms_10 : decode cX3_allTerms 10 = .ok (.aload_n 0, 1) := by decide +kernel
theorem dX3_allTerms_11 : decode cX3_allTerms 11 = .ok (.getfield 9, 3) := by decide +kernel
theorem dX3_allTerms_14 : decode cX3_allTerms 14 = .ok (.iload_n 2, 1) := by decide +kernel
theorem dX3_allTerms_15 : decode cX3_allTerms 15 = .ok (.iaload, 1) := by decide +kernel
theorem dX3_allTerms_16 : decode cX3_allTerms 16 = .ok (.iadd, 1) := by decide +kernel
theorem dX3_allTerms_17 : decode cX3_allTerms 17 = .ok (.istore_n 1, 1) := by decide +kernel
theorem dX3_allTerms_18 : decode cX3_allTerms 18 = .ok (.iinc 2 1, 3) := by decide +kernel
theorem dX3_allTerms_21 : decode cX3_allTerms 21 = .ok (.goto (-17), 3) := by decide +kernel
theorem dX3_allTerms_24 : decode cX3_allTerms 24 = .ok (.iload_n 1, 1) := by decide +kernel
theorem dX3_allTerms_25 : decode cX3_allTerms 25 = .ok (.ireturn, 1) := by decide +kernel
theorem dX3_firstThatCounts_0 : decode cX3_firstThatCounts 0 = .ok (.iload_n 1, 1) := by decide +kernel
theorem dX3_firstThatCounts_1 : decode cX3_firstThatCounts 1 = .ok (.aload_n 0, 1) := by decide +kernel
theorem dX3_firstThatCounts_2 : decode cX3_firstThatCounts 2 = .ok (.getfield 21, 3) := by decide +kernel
theorem dX3_firstThatCounts_5 : decode cX3_firstThatCounts 5 = .ok (.isub, 1) := by decide +kernel
theorem dX3_firstThatCounts_6 : decode cX3_firstThatCounts 6 = .ok (.ireturn, 1) := by decide +kernel
theorem dX4_init_0 : decode cX4_init 0 = .ok (.aload_n 0, 1) := by decide +kernel
theorem dX4_init_1 : decode cX4_init 1 = .ok (.invokespecial 3, 3) := by decide +kernel
theorem dX4_init_4 : decode cX4_init 4 = .ok (.aload_n 0, 1) := by decide +kernel
theorem dX4_init_5 : decode cX4_init 5 = .ok (.iconst 5, 1) := by decide +kernel
theorem dX4_init_6 : decode cX4_init 6 = .ok (.newarray .int, 2) := by decide +kernel
theorem dX4_init_8 : decode cX4_init 8 = .ok (.putfield 9, 3) := by decide +kernel
theorem dX4_init_11 : decode cX4_init 11 = .ok (.aload_n 0, 1) := by decide +kernel
theorem dX4_init_12 : decode cX4_init 12 = .ok (.iconst 5, 1) := by decide +kernel
theorem dX4_init_13 : decode cX4_init 13 = .ok (.anewarray 15, 3) := by decide +kernel
theorem dX4_init_16 : decode cX4_init 16 = .ok (.putfield 17, 3) := by decide +kernel
theorem dX4_init_19 : decode cX4_init 19 = .ok (.iconst 0, 1) := by decide +kernel
theorem dX4_init_20 : decode cX4_init 20 = .ok (.istore_n 1, 1) := by decide +kernel
theorem dX4_init_21 : decode cX4_init 21 = .ok (.iload_n 1, 1) := by decide +kernel
theorem dX4_init_22 : decode cX4_init 22 = .ok (.iconst 5, 1) := by decide +kernel
theorem dX4_init_23 : decode cX4_init 23 = .ok (.if_icmp .ge 22, 3) := by decide +kernel
theorem dX4_init_26 : decode cX4_init 26 = .ok (.aload_n 0, 1) := by decide +kernel
theorem dX4_init_27 : decode cX4_init 27 = .ok (.getfield 17, 3) := by decide +kernel
theorem dX4_init_30 : decode cX4_init 30 = .ok (.iload_n 1, 1) := by decide +kernel
theorem dX4_init_31 : decode cX4_init 31 = .ok (.new 15, 3) := by decide +kernel
theorem dX4_init_34 : decode cX4_init 34 = .ok (.dup, 1) := by decide +kernel
theorem dX4_init_35 : decode cX4_init 35 = .ok (.invokespecial 21, 3) := by decide +kernel
theorem dX4_init_38 : decode cX4_init 38 = .ok (.aastore, 1) := by decide +kernel
theorem dX4_init_39 : decode cX4_init 39 = .ok (.iinc 1 1, 3) := by decide +kernel
theorem dX4_init_42 : decode cX4_init 42 = .ok (.goto (-21), 3) := by decide +kernel
theorem dX4_init_45 : decode cX4_init 45 = .ok (.return_, 1) := by decide +kernel
theorem dX4_close_0 : decode cX4_close 0 = .ok (.aload_n 0, 1) := by decide +kernel
theorem dX4_close_1 : decode cX4_close 1 = .ok (.iconst 0, 1) := by decide +kernel
theorem dX4_close_2 : decode cX4_close 2 = .ok (.putfield 22, 3) := by decide +kernel
theorem dX4_close_5 : decode cX4_close 5 = .ok (.aload_n 0, 1) := by decide +kernel
theorem dX4_close_6 : decode cX4_close 6 = .ok (.iconst 0, 1) := by decide +kernel
theorem dX4_close_7 : decode cX4_close 7 = .ok (.putfield 26, 3) := by decide +kernel
theorem dX4_close_10 : decode cX4_close 10 = .ok (.return_, 1) := by decide +kernel
theorem dX4_open_0 : decode cX4_open 0 = .ok (.aload_n 0, 1) := by decide +kernel
theorem dX4_open_1 : decode cX4_open 1 = .ok (.iconst 1, 1) := by decide +kernel
theorem dX4_open_2 : decode cX4_open 2 = .ok (.putfield 22, 3) := by decide +kernel
theorem dX4_open_5 : decode cX4_open 5 = .ok (.aload_n 0, 1) := by decide +kernel
theorem dX4_open_6 : decode cX4_open 6 = .ok (.iconst 0, 1) := by decide +kernel
theorem dX4_open_7 : decode cX4_open 7 = .ok (.putfield 26, 3) := by decide +kernel
theorem dX4_open_10 : decode cX4_open 10 = .ok (.aload_n 0, 1) := by decide +kernel
theorem dX4_open_11 : decode cX4_open 11 = .ok (.iload_n 2, 1) := by decide +kernel
theorem dX4_open_12 : decode cX4_open 12 = .ok (.putfield 30, 3) := by decide +kernel
theorem dX4_open_15 : decode cX4_open 15 = .ok (.aload_n 0, 1) := by decide +kernel
theorem dX4_open_16 : decode cX4_open 16 = .ok (.getfield 17, 3) := by decide +kernel
theorem dX4_open_19 : decode cX4_open 19 = .ok (.iconst 0, 1) := by decide +kernel
theorem dX4_open_20 : decode cX4_open 20 = .ok (.aaload, 1) := by decide +kernel
theorem dX4_open_21 : decode cX4_open 21 = .ok (.aload_n 1, 1) := by decide +kernel
theorem dX4_open_22 : decode cX4_open 22 = .ok (.invokevirtual 33, 3) := by decide +kernel
theorem dX4_open_25 : decode cX4_open 25 = .ok (.return_, 1) := by decide +kernel
theorem dX4_hasRoom_0 : decode cX4_hasRoom 0 = .ok (.aload_n 0, 1) := by decide +kernel
theorem dX4_hasRoom_1 : decode cX4_hasRoom 1 = .ok (.getfield 26, 3) := by decide +kernel
theorem dX4_hasRoom_4 : decode cX4_hasRoom 4 = .ok (.iconst 5, 1) := by decide +kernel
theorem dX4_hasRoom_5 : decode cX4_hasRoom 5 = .ok (.if_icmp .ge 7, 3) := by decide +kernel
theorem dX4_hasRoom_8 : decode cX4_hasRoom 8 = .ok (.iconst 1, 1) := by decide +kernel
theorem dX4_hasRoom_9 : decode cX4_hasRoom 9 = .ok (.goto 4, 3) := by decide +kernel
theorem dX4_hasRoom_12 : decode cX4_hasRoom 12 = .ok (.iconst 0, 1) := by decide +kernel
theorem dX4_hasRoom_13 : decode cX4_hasRoom 13 = .ok (.ireturn, 1) := by decide +kernel
theorem dX4_write_0 : decode cX4_write 0 = .ok (.aload_n 0, 1) := by decide +kernel
theorem dX4_write_1 : decode cX4_write 1 = .ok (.getfield 26, 3) := by decide +kernel
theorem dX4_write_4 : decode cX4_write 4 = .ok (.ifCond .lt 31, 3) := by decide +kernel
theorem dX4_write_7 : decode cX4_write 7 = .ok (.aload_n 0, 1) := by decide +kernel
theorem dX4_write_8 : decode cX4_write 8 = .ok (.getfield 26, 3) := by decide +kernel
theorem dX4_write_11 : decode cX4_write 11 = .ok (.iconst 5, 1) := by decide +kernel
theorem dX4_write_12 : decode cX4_write 12 = .ok (.if_icmp .ge 23, 3) := by decide +kernel
theorem dX4_write_15 : decode cX4_write 15 = .ok (.aload_n 0, 1) := by decide +kernel
theorem dX4_write_16 : decode cX4_write 16 = .ok (.getfield 9, 3) := by decide +kernel
theorem dX4_write_19 : decode cX4_write 19 = .ok (.aload_n 0, 1) := by decide +kernel
theorem dX4_write_20 : decode cX4_write 20 = .ok (.getfield 26, 3) := by decide +kernel
theorem dX4_write_23 : decode cX4_write 23 = .ok (.iload_n 1, 1) := by decide +kernel
theorem dX4_write_24 : decode cX4_write 24 = .ok (.iastore, 1) := by decide +kernel
theorem dX4_write_25 : decode cX4_write 25 = .ok (.aload_n 0, 1) := by decide +kernel
theorem dX4_write_26 : decode cX4_write 26 = .ok (.dup, 1) := by decide +kernel
theorem dX4_write_27 : decode cX4_write 27 = .ok (.getfield 26, 3) := by decide +kernel
theorem dX4_write_30 : decode cX4_write 30 = .ok (.iconst 1, 1) := by decide +kernel
theorem dX4_write_31 : decode cX4_write 31 = .ok (.iadd, 1) := by decide +kernel
theorem dX4_write_32 : decode cX4_write 32 = .ok (.putfield 26, 3) := by decide +kernel
theorem dX4_write_35 : decode cX4_write 35 = .ok (.return_, 1) := by decide +kernel
theorem dX4_walk_0 : decode cX4_walk 0 = .ok (.aload_n 0, 1) := by decide +kernel
theorem dX4_walk_1 : decode cX4_walk 1 = .ok (.iconst 0, 1) := by decide +kernel
theorem dX4_walk_2 : decode cX4_walk 2 = .ok (.putfield 37, 3) := by decide +kernel
theorem dX4_walk_5 : decode cX4_walk 5 = .ok (.aload_n 0, 1) := by decide +kernel
theorem dX4_walk_6 : decode cX4_walk 6 = .ok (.iconst (-1), 1) := by decide +kernel
theorem dX4_walk_7 : decode cX4_walk 7 = .ok (.putfield 40, 3) := by decide +kernel
theorem dX4_walk_10 : decode cX4_walk 10 = .ok (.aload_n 0, 1) := by decide +kernel
theorem dX4_walk_11 : decode cX4_walk 11 = .ok (.getfield 26, 3) := by decide +kernel
theorem dX4_walk_14 : decode cX4_walk 14 = .ok (.ifCond .ne 19, 3) := by decide +kernel
theorem dX4_walk_17 : decode cX4_walk 17 = .ok (.aload_n 0, 1) := by decide +kernel
theorem dX4_walk_18 : decode cX4_walk 18 = .ok (.aload_n 0, 1) := by decide +kernel
theorem dX4_walk_19 : decode cX4_walk 19 = .ok (.getfield 17, 3) := by decide +kernel
theorem dX4_walk_22 : decode cX4_walk 22 = .ok (.iconst 0, 1) := by decide +kernel
theorem dX4_walk_23 : decode cX4_walk 23 = .ok (.aaload, 1) := by decide +kernel
theorem dX4_walk_24 : decode cX4_walk 24 = .ok (.getfield 43, 3) := by decide +kernel
theorem dX4_walk_27 : decode cX4_walk 27 = .ok (.invokevirtual 46, 3) := by decide +kernel
theorem dX4_walk_30 : decode cX4_walk 30 = .ok (.goto 9, 3) := by decide +kernel
theorem dX4_walk_33 : decode cX4_walk 33 = .ok (.aload_n 0, 1) := by decide +kernel
theorem dX4_walk_34 : decode cX4_walk 34 = .ok (.iconst 0, 1) := by decide +kernel
theorem dX4_walk_35 : decode cX4_walk 35 = .ok (.aload_n 1, 1) := by decide +kernel
theorem dX4_walk_36 : decode cX4_walk 36 = .ok (.invokevirtual 50, 3) := by decide +kernel
theorem dX4_walk_39 : decode cX4_walk 39 = .ok (.return_, 1) := by decide +kernel
theorem dX4_reckon_0 : decode cX4_reckon 0 = .ok (.aload_n 0, 1) := by decide +kernel
theorem dX4_reckon_1 : decode cX4_reckon 1 = .ok (.dup, 1) := by decide +kernel
theorem dX4_reckon_2 : decode cX4_reckon 2 = .ok (.getfield 37, 3) := by decide +kernel
theorem dX4_reckon_5 : decode cX4_reckon 5 = .ok (.iconst 1, 1) := by decide +kernel
theorem dX4_reckon_6 : decode cX4_reckon 6 = .ok (.iadd, 1) := by decide +kernel
theorem dX4_reckon_7 : decode cX4_reckon 7 = .ok (.putfield 37, 3) := by decide +kernel
theorem dX4_reckon_10 : decode cX4_reckon 10 = .ok (.aload_n 0, 1) := by decide +kernel
theorem dX4_reckon_11 : decode cX4_reckon 11 = .ok (.aload_n 0, 1) := by decide +kernel
theorem dX4_reckon_12 : decode cX4_reckon 12 = .ok (.getfield 40, 3) := by decide +kernel
theorem dX4_reckon_15 : decode cX4_reckon 15 = .ok (.iload_n 1, 1) := by decide +kernel
theorem dX4_reckon_16 : decode cX4_reckon 16 = .ok (.invokestatic 54, 3) := by decide +kernel
theorem dX4_reckon_19 : decode cX4_reckon 19 = .ok (.putfield 40, 3) := by decide +kernel
theorem dX4_reckon_22 : decode cX4_reckon 22 = .ok (.return_, 1) := by decide +kernel
theorem dX4_walkFrom_0 : decode cX4_walkFrom 0 = .ok (.iload_n 1, 1) := by decide +kernel
theorem dX4_walkFrom_1 : decode cX4_walkFrom 1 = .ok (.ifCond .lt 16, 3) := by decide +kernel
theorem dX4_walkFrom_4 : decode cX4_walkFrom 4 = .ok (.iload_n 1, 1) := by decide +kernel
theorem dX4_walkFrom_5 : decode cX4_walkFrom 5 = .ok (.aload_n 0, 1) := by decide +kernel
theorem dX4_walkFrom_6 : decode cX4_walkFrom 6 = .ok (.getfield 26, 3) := by decide +kernel
theorem dX4_walkFrom_9 : decode cX4_walkFrom 9 = .ok (.if_icmp .ge 8, 3) := by decide +kernel
theorem dX4_walkFrom_12 : decode cX4_walkFrom 12 = .ok (.iload_n 1, 1) := by decide +kernel
theorem dX4_walkFrom_13 : decode cX4_walkFrom 13 = .ok (.iconst 5, 1) := by decide +kernel
theorem dX4_walkFrom_14 : decode cX4_walkFrom 14 = .ok (.if_icmp .lt 4, 3) := by decide +kernel
theorem dX4_walkFrom_17 : decode cX4_walkFrom 17 = .ok (.return_, 1) := by decide +kernel
theorem dX4_walkFrom_18 : decode cX4_walkFrom 18 = .ok (.aload_n 0, 1) := by decide +kernel
theorem dX4_walkFrom_19 : decode cX4_walkFrom 19 = .ok (.getfield 17, 3) := by decide +kernel
theorem dX4_walkFrom_22 : decode cX4_walkFrom 22 = .ok (.iload_n 1, 1) := by decide +kernel
theorem dX4_walkFrom_23 : decode cX4_walkFrom 23 = .ok (.aaload, 1) := by decide +kernel
theorem dX4_walkFrom_24 : decode cX4_walkFrom 24 = .ok (.astore_n 3, 1) := by decide +kernel
theorem dX4_walkFrom_25 : decode cX4_walkFrom 25 = .ok (.aload_n 0, 1) := by decide +kernel
theorem dX4_walkFrom_26 : decode cX4_walkFrom 26 = .ok (.getfield 9, 3) := by decide +kernel
theorem dX4_walkFrom_29 : decode cX4_walkFrom 29 = .ok (.iload_n 1, 1) := by decide +kernel
theorem dX4_walkFrom_30 : decode cX4_walkFrom 30 = .ok (.iaload, 1) := by decide +kernel
theorem dX4_walkFrom_31 : decode cX4_walkFrom 31 = .ok (.aload_n 3, 1) := by decide +kernel
theorem dX4_walkFrom_32 : decode cX4_walkFrom 32 = .ok (.getfield 60, 3) := by decide +kernel
theorem dX4_walkFrom_35 : decode cX4_walkFrom 35 = .ok (.isub, 1) := by decide +kernel
theorem dX4_walkFrom_36 : decode cX4_walkFrom 36 = .ok (.istore 4, 2) := by decide +kernel
theorem dX4_walkFrom_38 : decode cX4_walkFrom 38 = .ok (.iconst 0, 1) := by decide +kernel
theorem dX4_walkFrom_39 : decode cX4_walkFrom 39 = .ok (.istore 5, 2) := by decide +kernel
theorem dX4_walkFrom_41 : decode cX4_walkFrom 41 = .ok (.iload 5, 2) := by decide +kernel
theorem dX4_walkFrom_43 : decode cX4_walkFrom 43 = .ok (.getstatic 63, 3) := by decide +kernel
theorem dX4_walkFrom_46 : decode cX4_walkFrom 46 = .ok (.arraylength, 1) := by decide +kernel
theorem dX4_walkFrom_47 : decode cX4_walkFrom 47 = .ok (.if_icmp .gt 80, 3) := by decide +kernel
theorem dX4_walkFrom_50 : decode cX4_walkFrom 50 = .ok (.iload 5, 2) := by decide +kernel
theorem dX4_walkFrom_52 : decode cX4_walkFrom 52 = .ok (.invokestatic 66, 3) := by decide +kernel
theorem dX4_walkFrom_55 : decode cX4_walkFrom 55 = .ok (.istore 6, 2) := by decide +kernel
theorem dX4_walkFrom_57 : decode cX4_walkFrom 57 = .ok (.aload_n 3, 1) := by decide +kernel
theorem dX4_walkFrom_58 : decode cX4_walkFrom 58 = .ok (.iload 6, 2) := by decide +kernel
theorem dX4_walkFrom_60 : decode cX4_walkFrom 60 = .ok (.aload_n 2, 1) := by decide +kernel
theorem dX4_walkFrom_61 : decode cX4_walkFrom 61 = .ok (.invokevirtual 70, 3) := by decide +kernel
theorem dX4_walkFrom_64 : decode cX4_walkFrom 64 = .ok (.iload 4, 2) := by decide +kernel
theorem dX4_walkFrom_66 : decode cX4_walkFrom 66 = .ok (.if_icmp .ne 55, 3) := by decide +kernel
theorem dX4_walkFrom_69 : decode cX4_walkFrom 69 = .ok (.iload 6, 2) := by decide +kernel
theorem dX4_walkFrom_71 : decode cX4_walkFrom 71 = .ok (.bipush 9, 2) := by decide +kernel
theorem dX4_walkFrom_73 : decode cX4_walkFrom 73 = .ok (.if_icmp .eq 16, 3) := by decide +kernel
theorem dX4_walkFrom_76 : decode cX4_walkFrom 76 = .ok (.aload_n 3, 1) := by decide +kernel
theorem dX4_walkFrom_77 : decode cX4_walkFrom 77 = .ok (.iload 6, 2) := by decide +kernel
theorem dX4_walkFrom_79 : decode cX4_walkFrom 79 = .ok (.aload_n 2, 1) := by decide +kernel
theorem dX4_walkFrom_80 : decode cX4_walkFrom 80 = .ok (.invokevirtual 74, 3) := by decide +kernel
theorem dX4_walkFrom_83 : decode cX4_walkFrom 83 = .ok (.ifCond .ne 6, 3) := by decide +kernel
theorem dX4_walkFrom_86 : decode cX4_walkFrom 86 = .ok (.goto 35, 3) := by decide +kernel
theorem dX4_walkFrom_89 : decode cX4_walkFrom 89 = .ok (.iload_n 1, 1) := by decide +kernel
theorem dX4_walkFrom_90 : decode cX4_walkFrom 90 = .ok (.aload_n 0, 1) := by decide +kernel
theorem dX4_walkFrom_91 : decode cX4_walkFrom 91 = .ok (.getfield 26, 3) := by decide +kernel
theorem dX4_walkFrom_94 : decode cX4_walkFrom 94 = .ok (.iconst 1, 1) := by decide +kernel
theorem dX4_walkFrom_95 : decode cX4_walkFrom 95 = .ok (.isub, 1) := by decide +kernel
theorem dX4_walkFrom_96 : decode cX4_walkFrom 96 = .ok (.if_icmp .ne 17, 3) := by decide +kernel
theorem dX4_walkFrom_99 : decode cX4_walkFrom 99 = .ok (.aload_n 0, 1) := by decide +kernel
theorem dX4_walkFrom_100 : decode cX4_walkFrom 100 = .ok (.aload_n 3, 1) := by decide +kernel
theorem dX4_walkFrom_101 : decode cX4_walkFrom 101 = .ok (.iload 6, 2) := by decide +kernel
theorem dX4_walkFrom_103 : decode cX4_walkFrom 103 = .ok (.aload_n 2, 1) := by decide +kernel
theorem dX4_walkFrom_104 : decode cX4_walkFrom 104 = .ok (.invokevirtual 78, 3) := by decide +kernel
theorem dX4_walkFrom_107 : decode cX4_walkFrom 107 = .ok (.invokevirtual 46, 3) := by decide +kernel
theorem dX4_walkFrom_110 : decode cX4_walkFrom 110 = .ok (.goto 11, 3) := by decide +kernel
theorem dX4_walkFrom_113 : decode cX4_walkFrom 113 = .ok (.aload_n 0, 1) := by decide +kernel
theorem dX4_walkFrom_114 : decode cX4_walkFrom 114 = .ok (.iload_n 1, 1) := by decide +kernel
theorem dX4_walkFrom_115 : decode cX4_walkFrom 115 = .ok (.iload 6, 2) := by decide +kernel
theorem dX4_walkFrom_117 : decode cX4_walkFrom 117 = .ok (.aload_n 2, 1) := by decide +kernel
theorem dX4_walkFrom_118 : decode cX4_walkFrom 118 = .ok (.invokevirtual 81, 3) := by decide +kernel
theorem dX4_walkFrom_121 : decode cX4_walkFrom 121 = .ok (.iinc 5 1, 3) := by decide +kernel
theorem dX4_walkFrom_124 : decode cX4_walkFrom 124 = .ok (.goto (-83), 3) := by decide +kernel
theorem dX4_walkFrom_127 : decode cX4_walkFrom 127 = .ok (.return_, 1) := by decide +kernel
theorem dX4_goOn_0 : decode cX4_goOn 0 = .ok (.iload_n 1, 1) := by decide +kernel
theorem dX4_goOn_1 : decode cX4_goOn 1 = .ok (.ifCond .lt 8, 3) := by decide +kernel
theorem dX4_goOn_4 : decode cX4_goOn 4 = .ok (.iload_n 1, 1) := by decide +kernel
theorem dX4_goOn_5 : decode cX4_goOn 5 = .ok (.iconst 4, 1) := by decide +kernel
theorem dX4_goOn_6 : decode cX4_goOn 6 = .ok (.if_icmp .lt 4, 3) := by decide +kernel
theorem dX4_goOn_9 : decode cX4_goOn 9 = .ok (.return_, 1) := by decide +kernel
theorem dX4_goOn_10 : decode cX4_goOn 10 = .ok (.aload_n 0, 1) := by decide +kernel
theorem dX4_goOn_11 : decode cX4_goOn 11 = .ok (.getfield 17, 3) := by decide +kernel
theorem dX4_goOn_14 : decode cX4_goOn 14 = .ok (.iload_n 1, 1) := by decide +kernel
theorem dX4_goOn_15 : decode cX4_goOn 15 = .ok (.iconst 1, 1) := by decide +kernel
theorem dX4_goOn_16 : decode cX4_goOn 16 = .ok (.iadd, 1) := by decide +kernel
theorem dX4_goOn_17 : decode cX4_goOn 17 = .ok (.aaload, 1) := by decide +kernel
theorem dX4_goOn_18 : decode cX4_goOn 18 = .ok (.astore 4, 2) := by decide +kernel
theorem dX4_goOn_20 : decode cX4_goOn 20 = .ok (.aload 4, 2) := by decide +kernel
theorem dX4_goOn_22 : decode cX4_goOn 22 = .ok (.aload_n 0, 1) := by decide +kernel
theorem dX4_goOn_23 : decode cX4_goOn 23 = .ok (.getfield 17, 3) := by decide +kernel
theorem dX4_goOn_26 : decode cX4_goOn 26 = .ok (.iload_n 1, 1) := by decide +kernel
theorem dX4_goOn_27 : decode cX4_goOn 27 = .ok (.aaload, 1) := by decide +kernel
theorem dX4_goOn_28 : decode cX4_goOn 28 = .ok (.invokevirtual 33, 3) := by decide +kernel
theorem dX4_goOn_31 : decode cX4_goOn 31 = .ok (.aload 4, 2) := by decide +kernel
theorem dX4_goOn_33 : decode cX4_goOn 33 = .ok (.iload_n 2, 1) := by decide +kernel
theorem dX4_goOn_34 : decode cX4_goOn 34 = .ok (.aload_n 3, 1) := by decide +kernel
theorem dX4_goOn_35 : decode cX4_goOn 35 = .ok (.aload_n 0, 1) := by decide +kernel
theorem dX4_goOn_36 : decode cX4_goOn 36 = .ok (.getfield 30, 3) := by decide +kernel
theorem dX4_goOn_39 : decode cX4_goOn 39 = .ok (.iload_n 1, 1) := by decide +kernel
theorem dX4_goOn_40 : decode cX4_goOn 40 = .ok (.iadd, 1) := by decide +kernel
theorem dX4_goOn_41 : decode cX4_goOn 41 = .ok (.invokevirtual 85, 3) := by decide +kernel
theorem dX4_goOn_44 : decode cX4_goOn 44 = .ok (.aload 4, 2) := by decide +kernel
theorem dX4_goOn_46 : decode cX4_goOn 46 = .ok (.aload_n 0, 1) := by decide +kernel
theorem dX4_goOn_47 : decode cX4_goOn 47 = .ok (.getfield 30, 3) := by decide +kernel
theorem dX4_goOn_50 : decode cX4_goOn 50 = .ok (.iload_n 1, 1) := by decide +kernel
theorem dX4_goOn_51 : decode cX4_goOn 51 = .ok (.iadd, 1) := by decide +kernel
theorem dX4_goOn_52 : decode cX4_goOn 52 = .ok (.iconst 1, 1) := by decide +kernel
theorem dX4_goOn_53 : decode cX4_goOn 53 = .ok (.iadd, 1) := by decide +kernel
theorem dX4_goOn_54 : decode cX4_goOn 54 = .ok (.aload_n 3, 1) := by decide +kernel
theorem dX4_goOn_55 : decode cX4_goOn 55 = .ok (.invokevirtual 89, 3) := by decide +kernel
theorem dX4_goOn_58 : decode cX4_goOn 58 = .ok (.aload_n 0, 1) := by decide +kernel
theorem dX4_goOn_59 : decode cX4_goOn 59 = .ok (.iload_n 1, 1) := by decide +kernel
theorem dX4_goOn_60 : decode cX4_goOn 60 = .ok (.iconst 1, 1) := by decide +kernel
theorem dX4_goOn_61 : decode cX4_goOn 61 = .ok (.iadd, 1) := by decide +kernel
theorem dX4_goOn_62 : decode cX4_goOn 62 = .ok (.aload_n 3, 1) := by decide +kernel
theorem dX4_goOn_63 : decode cX4_goOn 63 = .ok (.invokevirtual 50, 3) := by decide +kernel
theorem dX4_goOn_66 : decode cX4_goOn 66 = .ok (.return_, 1) := by decide +kernel
theorem dX5_init_0 : decode cX5_init 0 = .ok (.aload_n 0, 1) := by decide +kernel
theorem dX5_init_1 : decode cX5_init 1 = .ok (.invokespecial 3, 3) := by decide +kernel
theorem dX5_init_4 : decode cX5_init 4 = .ok (.aload_n 0, 1) := by decide +kernel
theorem dX5_init_5 : decode cX5_init 5 = .ok (.bipush 30, 2) := by decide +kernel
theorem dX5_init_7 : decode cX5_init 7 = .ok (.newarray .int, 2) := by decide +kernel
theorem dX5_init_9 : decode cX5_init 9 = .ok (.putfield 9, 3) := by decide +kernel
theorem dX5_init_12 : decode cX5_init 12 = .ok (.aload_n 0, 1) := by decide +kernel
theorem dX5_init_13 : decode cX5_init 13 = .ok (.new 15, 3) := by decide +kernel
theorem dX5_init_16 : decode cX5_init 16 = .ok (.dup, 1) := by decide +kernel
theorem dX5_init_17 : decode cX5_init 17 = .ok (.invokespecial 17, 3) := by decide +kernel
theorem dX5_init_20 : decode cX5_init 20 = .ok (.putfield 18, 3) := by decide +kernel
theorem dX5_init_23 : decode cX5_init 23 = .ok (.return_, 1) := by decide +kernel
theorem dX5_hasRoom_0 : decode cX5_hasRoom 0 = .ok (.aload_n 0, 1) := by decide +kernel
theorem dX5_hasRoom_1 : decode cX5_hasRoom 1 = .ok (.getfield 22, 3) := by decide +kernel
theorem dX5_hasRoom_4 : decode cX5_hasRoom 4 = .ok (.aload_n 0, 1) := by decide +kernel
theorem dX5_hasRoom_5 : decode cX5_hasRoom 5 = .ok (.getfield 9, 3) := by decide +kernel
theorem dX5_hasRoom_8 : decode cX5_hasRoom 8 = .ok (.arraylength, 1) := by decide +kernel
theorem dX5_hasRoom_9 : decode cX5_hasRoom 9 = .ok (.if_icmp .ge 7, 3) := by decide +kernel
theorem dX5_hasRoom_12 : decode cX5_hasRoom 12 = .ok (.iconst 1, 1) := by decide +kernel
theorem dX5_hasRoom_13 : decode cX5_hasRoom 13 = .ok (.goto 4, 3) := by decide +kernel
theorem dX5_hasRoom_16 : decode cX5_hasRoom 16 = .ok (.iconst 0, 1) := by decide +kernel
theorem dX5_hasRoom_17 : decode cX5_hasRoom 17 = .ok (.ireturn, 1) := by decide +kernel
theorem dX5_write_0 : decode cX5_write 0 = .ok (.aload_n 0, 1) := by decide +kernel
theorem dX5_write_1 : decode cX5_write 1 = .ok (.getfield 22, 3) := by decide +kernel
theorem dX5_write_4 : decode cX5_write 4 = .ok (.ifCond .lt 35, 3) := by decide +kernel
theorem dX5_write_7 : decode cX5_write 7 = .ok (.aload_n 0, 1) := by decide +kernel
theorem dX5_write_8 : decode cX5_write 8 = .ok (.getfield 22, 3) := by decide +kernel
theorem dX5_write_11 : decode cX5_write 11 = .ok (.aload_n 0, 1) := by decide +kernel
theorem dX5_write_12 : decode cX5_write 12 = .ok (.getfield 9, 3) := by decide +kernel
theorem dX5_write_15 : decode cX5_write 15 = .ok (.arraylength, 1) := by decide +kernel
theorem dX5_write_16 : decode cX5_write 16 = .ok (.if_icmp .ge 23, 3) := by decide +kernel
theorem dX5_write_19 : decode cX5_write 19 = .ok (.aload_n 0, 1) := by decide +kernel
theorem dX5_write_20 : decode cX5_write 20 = .ok (.getfield 9, 3) := by decide +kernel
theorem dX5_write_23 : decode cX5_write 23 = .ok (.aload_n 0, 1) := by decide +kernel
theorem dX5_write_24 : decode cX5_write 24 = .ok (.getfield 22, 3) := by decide +kernel
theorem dX5_write_27 : decode cX5_write 27 = .ok (.iload_n 1, 1) := by decide +kernel
theorem dX5_write_28 : decode cX5_write 28 = .ok (.iastore, 1) := by decide +kernel
theorem dX5_write_29 : decode cX5_write 29 = .ok (.aload_n 0, 1) := by decide +kernel
theorem dX5_write_30 : decode cX5_write 30 = .ok (.dup, 1) := by decide +kernel
theorem dX5_write_31 : decode cX5_write 31 = .ok (.getfield 22, 3) := by decide +kernel
theorem dX5_write_34 : decode cX5_write 34 = .ok (.iconst 1, 1) := by decide +kernel
theorem dX5_write_35 : decode cX5_write 35 = .ok (.iadd, 1) := by decide +kernel
theorem dX5_write_36 : decode cX5_write 36 = .ok (.putfield 22, 3) := by decide +kernel
theorem dX5_write_39 : decode cX5_write 39 = .ok (.return_, 1) := by decide +kernel
theorem dX5_at_0 : decode cX5_at 0 = .ok (.iload_n 1, 1) := by decide +kernel
theorem dX5_at_1 : decode cX5_at 1 = .ok (.ifCond .lt 21, 3) := by decide +kernel
theorem dX5_at_4 : decode cX5_at 4 = .ok (.iload_n 1, 1) := by decide +kernel
theorem dX5_at_5 : decode cX5_at 5 = .ok (.aload_n 0, 1) := by decide +kernel
theorem dX5_at_6 : decode cX5_at 6 = .ok (.getfield 9, 3) := by decide +kernel
theorem dX5_at_9 : decode cX5_at 9 = .ok (.arraylength, 1) := by decide +kernel
theorem dX5_at_10 : decode cX5_at 10 = .ok (.if_icmp .ge 12, 3) := by decide +kernel
theorem dX5_at_13 : decode cX5_at 13 = .ok (.aload_n 0, 1) := by decide +kernel
theorem dX5_at_14 : decode cX5_at 14 = .ok (.getfield 9, 3) := by decide +kernel
theorem dX5_at_17 : decode cX5_at 17 = .ok (.iload_n 1, 1) := by decide +kernel
theorem dX5_at_18 : decode cX5_at 18 = .ok (.iaload, 1) := by decide +kernel
theorem dX5_at_19 : decode cX5_at 19 = .ok (.goto 4, 3) := by decide +kernel
theorem dX5_at_22 : decode cX5_at 22 = .ok (.iconst 0, 1) := by decide +kernel
theorem dX5_at_23 : decode cX5_at 23 = .ok (.ireturn, 1) := by decide +kernel
theorem dX5_firstFault_0 : decode cX5_firstFault 0 = .ok (.aload_n 0, 1) := by decide +kernel
theorem dX5_firstFault_1 : decode cX5_firstFault 1 = .ok (.iconst 0, 1) := by decide +kernel
theorem dX5_firstFault_2 : decode cX5_firstFault 2 = .ok (.putfield 26, 3) := by decide +kernel
theorem dX5_firstFault_5 : decode cX5_firstFault 5 = .ok (.aload_n 0, 1) := by decide +kernel
theorem dX5_firstFault_6 : decode cX5_firstFault 6 = .ok (.iconst 0, 1) := by decide +kernel
theorem dX5_firstFault_7 : decode cX5_firstFault 7 = .ok (.putfield 29, 3) := by decide +kernel
theorem dX5_firstFault_10 : decode cX5_firstFault 10 = .ok (.iconst 0, 1) := by decide +kernel
theorem dX5_firstFault_11 : decode cX5_firstFault 11 = .ok (.istore_n 1, 1) := by decide +kernel
theorem dX5_firstFault_12 : decode cX5_firstFault 12 = .ok (.iload_n 1, 1) := by decide +kernel
theorem dX5_firstFault_13 : decode cX5_firstFault 13 = .ok (.aload_n 0, 1) := by decide +kernel
theorem dX5_firstFault_14 : decode cX5_firstFault 14 = .ok (.getfield 22, 3) := by decide +kernel
theorem dX5_firstFault_17 : decode cX5_firstFault 17 = .ok (.if_icmp .ge 23, 3) := by decide +kernel
theorem dX5_firstFault_20 : decode cX5_firstFault 20 = .ok (.aload_n 0, 1) := by decide +kernel
theorem dX5_firstFault_21 : decode cX5_firstFault 21 = .ok (.aload_n 0, 1) := by decide +kernel
theorem dX5_firstFault_22 : decode cX5_firstFault 22 = .ok (.iload_n 1, 1) := by decide +kernel
theorem dX5_firstFault_23 : decode cX5_firstFault 23 = .ok (.invokevirtual 32, 3) := by decide +kernel
theorem dX5_firstFault_26 : decode cX5_firstFault 26 = .ok (.invokevirtual 36, 3) := by decide +kernel
theorem dX5_firstFault_29 : decode cX5_firstFault 29 = .ok (.ifCond .ne 5, 3) := by decide +kernel
theorem dX5_firstFault_32 : decode cX5_firstFault 32 = .ok (.iload_n 1, 1) := by decide +kernel
theorem dX5_firstFault_33 : decode cX5_firstFault 33 = .ok (.ireturn, 1) := by decide +kernel
theorem dX5_firstFault_34 : decode cX5_firstFault 34 = .ok (.iinc 1 1, 3) := by decide +kernel
theorem dX5_firstFault_37 : decode cX5_firstFault 37 = .ok (.goto (-25), 3) := by decide +kernel
theorem dX5_firstFault_40 : decode cX5_firstFault 40 = .ok (.aload_n 0, 1) := by decide +kernel
theorem dX5_firstFault_41 : decode cX5_firstFault 41 = .ok (.getfield 22, 3) := by decide +kernel
theorem dX5_firstFault_44 : decode cX5_firstFault 44 = .ok (.ireturn, 1) := by decide +kernel
theorem dX5_isLaw_0 : decode cX5_isLaw 0 = .ok (.aload_n 0, 1) := by decide +kernel
theorem dX5_isLaw_1 : decode cX5_isLaw 1 = .ok (.invokevirtual 40, 3) := by decide +kernel
theorem dX5_isLaw_4 : decode cX5_isLaw 4 = .ok (.aload_n 0, 1) := by decide +kernel
theorem dX5_isLaw_5 : decode cX5_isLaw 5 = .ok (.getfield 22, 3) := by decide +kernel
theorem dX5_isLaw_8 : decode cX5_isLaw 8 = .ok (.if_icmp .ne 16, 3) := by decide +kernel
theorem dX5_isLaw_11 : decode cX5_isLaw 11 = .ok (.aload_n 0, 1) := by decide +kernel
theorem dX5_isLaw_12 : decode cX5_isLaw 12 = .ok (.getfield 26, 3) := by decide +kernel
theorem dX5_isLaw_15 : decode cX5_isLaw 15 = .ok (.bipush 6, 2) := by decide +kernel
theorem dX5_isLaw_17 : decode cX5_isLaw 17 = .ok (.if_icmp .ne 7, 3) := by decide +kernel
theorem dX5_isLaw_20 : decode cX5_isLaw 20 = .ok (.iconst 1, 1) := by decide +kernel
theorem dX5_isLaw_21 : decode cX5_isLaw 21 = .ok (.goto 4, 3) := by decide +kernel
theorem dX5_isLaw_24 : decode cX5_isLaw 24 = .ok (.iconst 0, 1) := by decide +kernel
theorem dX5_isLaw_25 : decode cX5_isLaw 25 = .ok (.ireturn, 1) := by decide +kernel
theorem dX5_takes_0 : decode cX5_takes 0 = .ok (.iload_n 1, 1) := by decide +kernel
theorem dX5_takes_1 : decode cX5_takes 1 = .ok (.bipush 48, 2) := by decide +kernel
theorem dX5_takes_3 : decode cX5_takes 3 = .ok (.isub, 1) := by decide +kernel
theorem dX5_takes_4 : decode cX5_takes 4 = .ok (.istore_n 2, 1) := by decide +kernel
theorem dX5_takes_5 : decode cX5_takes 5 = .ok (.aload_n 0, 1) := by decide +kernel
theorem dX5_takes_6 : decode cX5_takes 6 = .ok (.getfield 26, 3) := by decide +kernel
theorem dX5_takes_9 : decode cX5_takes 9 = .ok (.tableswitch 91 0 5 #[39, 45, 51, 57, 63, 85], 39) := by decide +kernel
theorem dX5_takes_48 : decode cX5_takes 48 = .ok (.aload_n 0, 1) := by decide +kernel
theorem dX5_takes_49 : decode cX5_takes 49 = .ok (.iload_n 2, 1) := by decide +kernel
theorem dX5_takes_50 : decode cX5_takes 50 = .ok (.invokevirtual 44, 3) := by decide +kernel
theorem dX5_takes_53 : decode cX5_takes 53 = .ok (.ireturn, 1) := by decide +kernel
theorem dX5_takes_54 : decode cX5_takes 54 = .ok (.aload_n 0, 1) := by decide +kernel
theorem dX5_takes_55 : decode cX5_takes 55 = .ok (.iload_n 2, 1) := by decide +kernel
theorem dX5_takes_56 : decode cX5_takes 56 = .ok (.invokevirtual 47, 3) := by decide +kernel
theorem dX5_takes_59 : decode cX5_takes 59 = .ok (.ireturn, 1) := by decide +kernel
theorem dX5_takes_60 : decode cX5_takes 60 = .ok (.aload_n 0, 1) := by decide +kernel
theorem dX5_takes_61 : decode cX5_takes 61 = .ok (.iload_n 1, 1) := by decide +kernel
theorem dX5_takes_62 : decode cX5_takes 62 = .ok (.invokevirtual 50, 3) := by decide +kernel
theorem dX5_takes_65 : decode cX5_takes 65 = .ok (.ireturn, 1) := by decide +kernel
theorem dX5_takes_66 : decode cX5_takes 66 = .ok (.aload_n 0, 1) := by decide +kernel
theorem dX5_takes_67 : decode cX5_takes 67 = .ok (.iload_n 2, 1) := by decide +kernel
theorem dX5_takes_68 : decode cX5_takes 68 = .ok (.invokevirtual 53, 3) := by decide +kernel
theorem dX5_takes_71 : decode cX5_takes 71 = .ok (.ireturn, 1) := by decide +kernel
theorem dX5_takes_72 : decode cX5_takes 72 = .ok (.aload_n 0, 1) := by decide +kernel
theorem dX5_takes_73 : decode cX5_takes 73 = .ok (.iload_n 2, 1) := by decide +kernel
theorem dX5_takes_74 : decode cX5_takes 74 = .ok (.invokevirtual 53, 3) := by decide +kernel
theorem dX5_takes_77 : decode cX5_takes 77 = .ok (.ifCond .ne 11, 3) := by decide +kernel
theorem dX5_takes_80 : decode cX5_takes 80 = .ok (.aload_n 0, 1) := by decide +kernel
theorem dX5_takes_81 : decode cX5_takes 81 = .ok (.iload_n 1, 1) := by decide +kernel
theorem dX5_takes_82 : decode cX5_takes 82 = .ok (.invokevirtual 56, 3) := by decide +kernel
theorem dX5_takes_85 : decode cX5_takes 85 = .ok (.ifCond .eq 7, 3) := by decide +kernel
theorem dX5_takes_88 : decode cX5_takes 88 = .ok (.iconst 1, 1) := by decide +kernel
theorem dX5_takes_89 : decode cX5_takes 89 = .ok (.goto 4, 3) := by decide +kernel
theorem dX5_takes_92 : decode cX5_takes 92 = .ok (.iconst 0, 1) := by decide +kernel
theorem dX5_takes_93 : decode cX5_takes 93 = .ok (.ireturn, 1) := by decide +kernel
theorem dX5_takes_94 : decode cX5_takes 94 = .ok (.aload_n 0, 1) := by decide +kernel
theorem dX5_takes_95 : decode cX5_takes 95 = .ok (.iload_n 2, 1) := by decide +kernel
theorem dX5_takes_96 : decode cX5_takes 96 = .ok (.invokevirtual 59, 3) := by decide +kernel
theorem dX5_takes_99 : decode cX5_takes 99 = .ok (.ireturn, 1) := by decide +kernel
theorem dX5_takes_100 : decode cX5_takes 100 = .ok (.iconst 0, 1) := by decide +kernel
theorem dX5_takes_101 : decode cX5_takes 101 = .ok (.ireturn, 1) := by decide +kernel
theorem dX5_takesTerm_0 : decode cX5_takesTerm 0 = .ok (.iload_n 1, 1) := by decide +kernel
theorem dX5_takesTerm_1 : decode cX5_takesTerm 1 = .ok (.iconst 1, 1) := by decide +kernel
theorem dX5_takesTerm_2 : decode cX5_takesTerm 2 = .ok (.if_icmp .lt 19, 3) := by decide +kernel
theorem dX5_takesTerm_5 : decode cX5_takesTerm 5 = .ok (.iload_n 1, 1) := by decide +kernel
theorem dX5_takesTerm_6 : decode cX5_takesTerm 6 = .ok (.bipush 9, 2) := by decide +kernel
theorem dX5_takesTerm_8 : decode cX5_takesTerm 8 = .ok (.if_icmp .gt 13, 3) := by decide +kernel
theorem dX5_takesTerm_11 : decode cX5_takesTerm 11 = .ok (.aload_n 0, 1) := by decide +kernel
theorem dX5_takesTerm_12 : decode cX5_takesTerm 12 = .ok (.getfield 29, 3) := by decide +kernel
theorem dX5_takesTerm_15 : decode cX5_takesTerm 15 = .ok (.invokestatic 62, 3) := by decide +kernel
theorem dX5_takesTerm_18 : decode cX5_takesTerm 18 = .ok (.ifCond .ne 5, 3) := by decide +kernel
theorem dX5_takesTerm_21 : decode cX5_takesTerm 21 = .ok (.iconst 0, 1) := by decide +kernel
theorem dX5_takesTerm_22 : decode cX5_takesTerm 22 = .ok (.ireturn, 1) := by decide +kernel
theorem dX5_takesTerm_23 : decode cX5_takesTerm 23 = .ok (.aload_n 0, 1) := by decide +kernel
theorem dX5_takesTerm_24 : decode cX5_takesTerm 24 = .ok (.getfield 18, 3) := by decide +kernel
theorem dX5_takesTerm_27 : decode cX5_takesTerm 27 = .ok (.getfield 65, 3) := by decide +kernel
theorem dX5_takesTerm_30 : decode cX5_takesTerm 30 = .ok (.aload_n 0, 1) := by decide +kernel
theorem dX5_takesTerm_31 : decode cX5_takesTerm 31 = .ok (.getfield 29, 3) := by decide +kernel
theorem dX5_takesTerm_34 : decode cX5_takesTerm 34 = .ok (.iload_n 1, 1) := by decide +kernel
theorem dX5_takesTerm_35 : decode cX5_takesTerm 35 = .ok (.iastore, 1) := by decide +kernel
theorem dX5_takesTerm_36 : decode cX5_takesTerm 36 = .ok (.aload_n 0, 1) := by decide +kernel
theorem dX5_takesTerm_37 : decode cX5_takesTerm 37 = .ok (.getfield 18, 3) := by decide +kernel
theorem dX5_takesTerm_40 : decode cX5_takesTerm 40 = .ok (.getfield 68, 3) := by decide +kernel
theorem dX5_takesTerm_43 : decode cX5_takesTerm 43 = .ok (.aload_n 0, 1) := by decide +kernel
theorem dX5_takesTerm_44 : decode cX5_takesTerm 44 = .ok (.getfield 29, 3) := by decide +kernel
theorem dX5_takesTerm_47 : decode cX5_takesTerm 47 = .ok (.iconst 0, 1) := by decide +kernel
theorem dX5_takesTerm_48 : decode cX5_takesTerm 48 = .ok (.iastore, 1) := by decide +kernel
theorem dX5_takesTerm_49 : decode cX5_takesTerm 49 = .ok (.aload_n 0, 1) := by decide +kernel
theorem dX5_takesTerm_50 : decode cX5_takesTerm 50 = .ok (.iconst 1, 1) := by decide +kernel
theorem dX5_takesTerm_51 : decode cX5_takesTerm 51 = .ok (.putfield 26, 3) := by decide +kernel
theorem dX5_takesTerm_54 : decode cX5_takesTerm 54 = .ok (.iconst 1, 1) := by decide +kernel
theorem dX5_takesTerm_55 : decode cX5_takesTerm 55 = .ok (.ireturn, 1) := by decide +kernel
theorem dX5_takesWorth_0 : decode cX5_takesWorth 0 = .ok (.iload_n 1, 1) := by decide +kernel
theorem dX5_takesWorth_1 : decode cX5_takesWorth 1 = .ok (.ifCond .lt 19, 3) := by decide +kernel
theorem dX5_takesWorth_4 : decode cX5_takesWorth 4 = .ok (.iload_n 1, 1) := by decide +kernel
theorem dX5_takesWorth_5 : decode cX5_takesWorth 5 = .ok (.bipush 9, 2) := by decide +kernel
theorem dX5_takesWorth_7 : decode cX5_takesWorth 7 = .ok (.if_icmp .gt 13, 3) := by decide +kernel
theorem dX5_takesWorth_10 : decode cX5_takesWorth 10 = .ok (.aload_n 0, 1) := by decide +kernel
theorem dX5_takesWorth_11 : decode cX5_takesWorth 11 = .ok (.getfield 29, 3) := by decide +kernel
theorem dX5_takesWorth_14 : decode cX5_takesWorth 14 = .ok (.invokestatic 62, 3) := by decide +kernel
theorem dX5_takesWorth_17 : decode cX5_takesWorth 17 = .ok (.ifCond .ne 5, 3) := by decide +kernel
theorem dX5_takesWorth_20 : decode cX5_takesWorth 20 = .ok (.iconst 0, 1) := by decide +kernel
theorem dX5_takesWorth_21 : decode cX5_takesWorth 21 = .ok (.ireturn, 1) := by decide +kernel
theorem dX5_takesWorth_22 : decode cX5_takesWorth 22 = .ok (.aload_n 0, 1) := by decide +kernel
theorem dX5_takesWorth_23 : decode cX5_takesWorth 23 = .ok (.getfield 18, 3) := by decide +kernel
theorem dX5_takesWorth_26 : decode cX5_takesWorth 26 = .ok (.getfield 71, 3) := by decide +kernel
theorem dX5_takesWorth_29 : decode cX5_takesWorth 29 = .ok (.aload_n 0, 1) := by decide +kernel
theorem dX5_takesWorth_30 : decode cX5_takesWorth 30 = .ok (.getfield 29, 3) := by decide +kernel
theorem dX5_takesWorth_33 : decode cX5_takesWorth 33 = .ok (.iload_n 1, 1) := by decide +kernel
theorem dX5_takesWorth_34 : decode cX5_takesWorth 34 = .ok (.iastore, 1) := by decide +kernel
theorem dX5_takesWorth_35 : decode cX5_takesWorth 35 = .ok (.aload_n 0, 1) := by decide +kernel
