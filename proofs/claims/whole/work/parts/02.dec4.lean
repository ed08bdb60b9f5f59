theorem dX9_law_44 : decode cX9_law 44 = .ok (.iload_n 2, 1) := by decide +kernel
theorem dX9_law_45 : decode cX9_law 45 = .ok (.iaload, 1) := by decide +kernel
theorem dX9_law_46 : decode cX9_law 46 = .ok (.iastore, 1) := by decide +kernel
theorem dX9_law_47 : decode cX9_law 47 = .ok (.aload_n 0, 1) := by decide +kernel
theorem dX9_law_48 : decode cX9_law 48 = .ok (.getfield 16, 3) := by decide +kernel
theorem dX9_law_51 : decode cX9_law 51 = .ok (.iload_n 2, 1) := by decide +kernel
theorem dX9_law_52 : decode cX9_law 52 = .ok (.aload_n 0, 1) := by decide +kernel
theorem dX9_law_53 : decode cX9_law 53 = .ok (.getfield 50, 3) := by decide +kernel
theorem dX9_law_56 : decode cX9_law 56 = .ok (.iload_n 2, 1) := by decide +kernel
theorem dX9_law_57 : decode cX9_law 57 = .ok (.iaload, 1) := by decide +kernel
theorem dX9_law_58 : decode cX9_law 58 = .ok (.iastore, 1) := by decide +kernel
theorem dX9_law_59 : decode cX9_law 59 = .ok (.iload_n 1, 1) := by decide +kernel
theorem dX9_law_60 : decode cX9_law 60 = .ok (.aload_n 0, 1) := by decide +kernel
theorem dX9_law_61 : decode cX9_law 61 = .ok (.getfield 44, 3) := by decide +kernel
theorem dX9_law_64 : decode cX9_law 64 = .ok (.iload_n 2, 1) := by decide +kernel
theorem dX9_law_65 : decode cX9_law 65 = .ok (.iaload, 1) := by decide +kernel
theorem dX9_law_66 : decode cX9_law 66 = .ok (.iadd, 1) := by decide +kernel
theorem dX9_law_67 : decode cX9_law 67 = .ok (.istore_n 1, 1) := by decide +kernel
theorem dX9_law_68 : decode cX9_law 68 = .ok (.iinc 2 1, 3) := by decide +kernel
theorem dX9_law_71 : decode cX9_law 71 = .ok (.goto (-53), 3) := by decide +kernel
theorem dX9_law_74 : decode cX9_law 74 = .ok (.aload_n 0, 1) := by decide +kernel
theorem dX9_law_75 : decode cX9_law 75 = .ok (.aload_n 0, 1) := by decide +kernel
theorem dX9_law_76 : decode cX9_law 76 = .ok (.getfield 125, 3) := by decide +kernel
theorem dX9_law_79 : decode cX9_law 79 = .ok (.putfield 146, 3) := by decide +kernel
theorem dX9_law_82 : decode cX9_law 82 = .ok (.aload_n 0, 1) := by decide +kernel
theorem dX9_law_83 : decode cX9_law 83 = .ok (.iconst 1, 1) := by decide +kernel
theorem dX9_law_84 : decode cX9_law 84 = .ok (.putfield 149, 3) := by decide +kernel
theorem dX9_law_87 : decode cX9_law 87 = .ok (.aload_n 0, 1) := by decide +kernel
theorem dX9_law_88 : decode cX9_law 88 = .ok (.dup, 1) := by decide +kernel
theorem dX9_law_89 : decode cX9_law 89 = .ok (.getfield 152, 3) := by decide +kernel
theorem dX9_law_92 : decode cX9_law 92 = .ok (.iconst 1, 1) := by decide +kernel
theorem dX9_law_93 : decode cX9_law 93 = .ok (.iadd, 1) := by decide +kernel
theorem dX9_law_94 : decode cX9_law 94 = .ok (.putfield 152, 3) := by decide +kernel
theorem dX9_law_97 : decode cX9_law 97 = .ok (.aload_n 0, 1) := by decide +kernel
theorem dX9_law_98 : decode cX9_law 98 = .ok (.iconst (-1), 1) := by decide +kernel
theorem dX9_law_99 : decode cX9_law 99 = .ok (.putfield 68, 3) := by decide +kernel
theorem dX9_law_102 : decode cX9_law 102 = .ok (.aload_n 0, 1) := by decide +kernel
theorem dX9_law_103 : decode cX9_law 103 = .ok (.iconst 0, 1) := by decide +kernel
theorem dX9_law_104 : decode cX9_law 104 = .ok (.putfield 155, 3) := by decide +kernel
theorem dX9_law_107 : decode cX9_law 107 = .ok (.aload_n 0, 1) := by decide +kernel
theorem dX9_law_108 : decode cX9_law 108 = .ok (.iconst 0, 1) := by decide +kernel
theorem dX9_law_109 : decode cX9_law 109 = .ok (.putfield 115, 3) := by decide +kernel
theorem dX9_law_112 : decode cX9_law 112 = .ok (.aload_n 0, 1) := by decide +kernel
theorem dX9_law_113 : decode cX9_law 113 = .ok (.invokevirtual 158, 3) := by decide +kernel
theorem dX9_law_116 : decode cX9_law 116 = .ok (.iload_n 1, 1) := by decide +kernel
theorem dX9_law_117 : decode cX9_law 117 = .ok (.ireturn, 1) := by decide +kernel
theorem dX9_isDeed_0 : decode cX9_isDeed 0 = .ok (.iload_n 0, 1) := by decide +kernel
theorem dX9_isDeed_1 : decode cX9_isDeed 1 = .ok (.iconst 0, 1) := by decide +kernel
theorem dX9_isDeed_2 : decode cX9_isDeed 2 = .ok (.iconst 3, 1) := by decide +kernel
theorem dX9_isDeed_3 : decode cX9_isDeed 3 = .ok (.invokestatic 111, 3) := by decide +kernel
theorem dX9_isDeed_6 : decode cX9_isDeed 6 = .ok (.ireturn, 1) := by decide +kernel
theorem dX9_deedNow_0 : decode cX9_deedNow 0 = .ok (.iload_n 2, 1) := by decide +kernel
theorem dX9_deedNow_1 : decode cX9_deedNow 1 = .ok (.ifCond .ne 12, 3) := by decide +kernel
theorem dX9_deedNow_4 : decode cX9_deedNow 4 = .ok (.aload_n 0, 1) := by decide +kernel
theorem dX9_deedNow_5 : decode cX9_deedNow 5 = .ok (.getfield 7, 3) := by decide +kernel
theorem dX9_deedNow_8 : decode cX9_deedNow 8 = .ok (.iload_n 1, 1) := by decide +kernel
theorem dX9_deedNow_9 : decode cX9_deedNow 9 = .ok (.iaload, 1) := by decide +kernel
theorem dX9_deedNow_10 : decode cX9_deedNow 10 = .ok (.goto 23, 3) := by decide +kernel
theorem dX9_deedNow_13 : decode cX9_deedNow 13 = .ok (.iload_n 2, 1) := by decide +kernel
theorem dX9_deedNow_14 : decode cX9_deedNow 14 = .ok (.iconst 1, 1) := by decide +kernel
theorem dX9_deedNow_15 : decode cX9_deedNow 15 = .ok (.if_icmp .ne 12, 3) := by decide +kernel
theorem dX9_deedNow_18 : decode cX9_deedNow 18 = .ok (.aload_n 0, 1) := by decide +kernel
theorem dX9_deedNow_19 : decode cX9_deedNow 19 = .ok (.getfield 13, 3) := by decide +kernel
theorem dX9_deedNow_22 : decode cX9_deedNow 22 = .ok (.iload_n 1, 1) := by decide +kernel
theorem dX9_deedNow_23 : decode cX9_deedNow 23 = .ok (.iaload, 1) := by decide +kernel
theorem dX9_deedNow_24 : decode cX9_deedNow 24 = .ok (.goto 9, 3) := by decide +kernel
theorem dX9_deedNow_27 : decode cX9_deedNow 27 = .ok (.aload_n 0, 1) := by decide +kernel
theorem dX9_deedNow_28 : decode cX9_deedNow 28 = .ok (.getfield 16, 3) := by decide +kernel
theorem dX9_deedNow_31 : decode cX9_deedNow 31 = .ok (.iload_n 1, 1) := by decide +kernel
theorem dX9_deedNow_32 : decode cX9_deedNow 32 = .ok (.iaload, 1) := by decide +kernel
theorem dX9_deedNow_33 : decode cX9_deedNow 33 = .ok (.ireturn, 1) := by decide +kernel
theorem dX9_deed_0 : decode cX9_deed 0 = .ok (.iload_n 1, 1) := by decide +kernel
theorem dX9_deed_1 : decode cX9_deed 1 = .ok (.invokestatic 161, 3) := by decide +kernel
theorem dX9_deed_4 : decode cX9_deed 4 = .ok (.ifCond .ne 6, 3) := by decide +kernel
theorem dX9_deed_7 : decode cX9_deed 7 = .ok (.bipush (-101), 2) := by decide +kernel
theorem dX9_deed_9 : decode cX9_deed 9 = .ok (.ireturn, 1) := by decide +kernel
theorem dX9_deed_10 : decode cX9_deed 10 = .ok (.iload_n 2, 1) := by decide +kernel
theorem dX9_deed_11 : decode cX9_deed 11 = .ok (.iconst 0, 1) := by decide +kernel
theorem dX9_deed_12 : decode cX9_deed 12 = .ok (.iconst 2, 1) := by decide +kernel
theorem dX9_deed_13 : decode cX9_deed 13 = .ok (.invokestatic 111, 3) := by decide +kernel
theorem dX9_deed_16 : decode cX9_deed 16 = .ok (.ifCond .ne 6, 3) := by decide +kernel
theorem dX9_deed_19 : decode cX9_deed 19 = .ok (.bipush (-102), 2) := by decide +kernel
theorem dX9_deed_21 : decode cX9_deed 21 = .ok (.ireturn, 1) := by decide +kernel
theorem dX9_deed_22 : decode cX9_deed 22 = .ok (.aload_n 0, 1) := by decide +kernel
theorem dX9_deed_23 : decode cX9_deed 23 = .ok (.getfield 149, 3) := by decide +kernel
theorem dX9_deed_26 : decode cX9_deed 26 = .ok (.ifCond .eq 12, 3) := by decide +kernel
theorem dX9_deed_29 : decode cX9_deed 29 = .ok (.aload_n 0, 1) := by decide +kernel
theorem dX9_deed_30 : decode cX9_deed 30 = .ok (.iload_n 1, 1) := by decide +kernel
theorem dX9_deed_31 : decode cX9_deed 31 = .ok (.iload_n 2, 1) := by decide +kernel
theorem dX9_deed_32 : decode cX9_deed 32 = .ok (.invokevirtual 165, 3) := by decide +kernel
theorem dX9_deed_35 : decode cX9_deed 35 = .ok (.goto 5, 3) := by decide +kernel
theorem dX9_deed_38 : decode cX9_deed 38 = .ok (.bipush (-103), 2) := by decide +kernel
theorem dX9_deed_40 : decode cX9_deed 40 = .ok (.ireturn, 1) := by decide +kernel
theorem dX9_lapseOf_0 : decode cX9_lapseOf 0 = .ok (.iconst 0, 1) := by decide +kernel
theorem dX9_lapseOf_1 : decode cX9_lapseOf 1 = .ok (.istore_n 3, 1) := by decide +kernel
theorem dX9_lapseOf_2 : decode cX9_lapseOf 2 = .ok (.iconst 0, 1) := by decide +kernel
theorem dX9_lapseOf_3 : decode cX9_lapseOf 3 = .ok (.istore 4, 2) := by decide +kernel
theorem dX9_lapseOf_5 : decode cX9_lapseOf 5 = .ok (.iload 4, 2) := by decide +kernel
theorem dX9_lapseOf_7 : decode cX9_lapseOf 7 = .ok (.aload_n 0, 1) := by decide +kernel
theorem dX9_lapseOf_8 : decode cX9_lapseOf 8 = .ok (.getfield 34, 3) := by decide +kernel
theorem dX9_lapseOf_11 : decode cX9_lapseOf 11 = .ok (.iload_n 1, 1) := by decide +kernel
theorem dX9_lapseOf_12 : decode cX9_lapseOf 12 = .ok (.iaload, 1) := by decide +kernel
theorem dX9_lapseOf_13 : decode cX9_lapseOf 13 = .ok (.if_icmp .ge 52, 3) := by decide +kernel
theorem dX9_lapseOf_16 : decode cX9_lapseOf 16 = .ok (.aload_n 0, 1) := by decide +kernel
theorem dX9_lapseOf_17 : decode cX9_lapseOf 17 = .ok (.getfield 37, 3) := by decide +kernel
theorem dX9_lapseOf_20 : decode cX9_lapseOf 20 = .ok (.bipush 12, 2) := by decide +kernel
theorem dX9_lapseOf_22 : decode cX9_lapseOf 22 = .ok (.iload_n 1, 1) := by decide +kernel
theorem dX9_lapseOf_23 : decode cX9_lapseOf 23 = .ok (.imul, 1) := by decide +kernel
theorem dX9_lapseOf_24 : decode cX9_lapseOf 24 = .ok (.iload 4, 2) := by decide +kernel
theorem dX9_lapseOf_26 : decode cX9_lapseOf 26 = .ok (.iadd, 1) := by decide +kernel
theorem dX9_lapseOf_27 : decode cX9_lapseOf 27 = .ok (.iaload, 1) := by decide +kernel
theorem dX9_lapseOf_28 : decode cX9_lapseOf 28 = .ok (.istore 5, 2) := by decide +kernel
theorem dX9_lapseOf_30 : decode cX9_lapseOf 30 = .ok (.iload_n 2, 1) := by decide +kernel
theorem dX9_lapseOf_31 : decode cX9_lapseOf 31 = .ok (.iload 5, 2) := by decide +kernel
theorem dX9_lapseOf_33 : decode cX9_lapseOf 33 = .ok (.iconst 4, 1) := by decide +kernel
theorem dX9_lapseOf_34 : decode cX9_lapseOf 34 = .ok (.idiv, 1) := by decide +kernel
theorem dX9_lapseOf_35 : decode cX9_lapseOf 35 = .ok (.isub, 1) := by decide +kernel
theorem dX9_lapseOf_36 : decode cX9_lapseOf 36 = .ok (.aload_n 0, 1) := by decide +kernel
theorem dX9_lapseOf_37 : decode cX9_lapseOf 37 = .ok (.getfield 146, 3) := by decide +kernel
theorem dX9_lapseOf_40 : decode cX9_lapseOf 40 = .ok (.if_icmp .gt 19, 3) := by decide +kernel
theorem dX9_lapseOf_43 : decode cX9_lapseOf 43 = .ok (.aload_n 0, 1) := by decide +kernel
theorem dX9_lapseOf_44 : decode cX9_lapseOf 44 = .ok (.getfield 37, 3) := by decide +kernel
theorem dX9_lapseOf_47 : decode cX9_lapseOf 47 = .ok (.bipush 12, 2) := by decide +kernel
theorem dX9_lapseOf_49 : decode cX9_lapseOf 49 = .ok (.iload_n 1, 1) := by decide +kernel
theorem dX9_lapseOf_50 : decode cX9_lapseOf 50 = .ok (.imul, 1) := by decide +kernel
theorem dX9_lapseOf_51 : decode cX9_lapseOf 51 = .ok (.iload_n 3, 1) := by decide +kernel
theorem dX9_lapseOf_52 : decode cX9_lapseOf 52 = .ok (.iadd, 1) := by decide +kernel
theorem dX9_lapseOf_53 : decode cX9_lapseOf 53 = .ok (.iload 5, 2) := by decide +kernel
theorem dX9_lapseOf_55 : decode cX9_lapseOf 55 = .ok (.iastore, 1) := by decide +kernel
theorem dX9_lapseOf_56 : decode cX9_lapseOf 56 = .ok (.iinc 3 1, 3) := by decide +kernel
theorem dX9_lapseOf_59 : decode cX9_lapseOf 59 = .ok (.iinc 4 1, 3) := by decide +kernel
theorem dX9_lapseOf_62 : decode cX9_lapseOf 62 = .ok (.goto (-57), 3) := by decide +kernel
theorem dX9_lapseOf_65 : decode cX9_lapseOf 65 = .ok (.aload_n 0, 1) := by decide +kernel
theorem dX9_lapseOf_66 : decode cX9_lapseOf 66 = .ok (.getfield 34, 3) := by decide +kernel
theorem dX9_lapseOf_69 : decode cX9_lapseOf 69 = .ok (.iload_n 1, 1) := by decide +kernel
theorem dX9_lapseOf_70 : decode cX9_lapseOf 70 = .ok (.iload_n 3, 1) := by decide +kernel
theorem dX9_lapseOf_71 : decode cX9_lapseOf 71 = .ok (.iastore, 1) := by decide +kernel
theorem dX9_lapseOf_72 : decode cX9_lapseOf 72 = .ok (.return_, 1) := by decide +kernel
theorem dX9_lapseAll_0 : decode cX9_lapseAll 0 = .ok (.iconst 0, 1) := by decide +kernel
theorem dX9_lapseAll_1 : decode cX9_lapseAll 1 = .ok (.istore_n 1, 1) := by decide +kernel
theorem dX9_lapseAll_2 : decode cX9_lapseAll 2 = .ok (.iload_n 1, 1) := by decide +kernel
theorem dX9_lapseAll_3 : decode cX9_lapseAll 3 = .ok (.aload_n 0, 1) := by decide +kernel
theorem dX9_lapseAll_4 : decode cX9_lapseAll 4 = .ok (.getfield 168, 3) := by decide +kernel
theorem dX9_lapseAll_7 : decode cX9_lapseAll 7 = .ok (.if_icmp .ge 18, 3) := by decide +kernel
theorem dX9_lapseAll_10 : decode cX9_lapseAll 10 = .ok (.aload_n 0, 1) := by decide +kernel
theorem dX9_lapseAll_11 : decode cX9_lapseAll 11 = .ok (.iload_n 1, 1) := by decide +kernel
theorem dX9_lapseAll_12 : decode cX9_lapseAll 12 = .ok (.aload_n 0, 1) := by decide +kernel
theorem dX9_lapseAll_13 : decode cX9_lapseAll 13 = .ok (.getfield 171, 3) := by decide +kernel
theorem dX9_lapseAll_16 : decode cX9_lapseAll 16 = .ok (.invokevirtual 174, 3) := by decide +kernel
theorem dX9_lapseAll_19 : decode cX9_lapseAll 19 = .ok (.iinc 1 1, 3) := by decide +kernel
theorem dX9_lapseAll_22 : decode cX9_lapseAll 22 = .ok (.goto (-20), 3) := by decide +kernel
theorem dX9_lapseAll_25 : decode cX9_lapseAll 25 = .ok (.return_, 1) := by decide +kernel
theorem dX9_give_0 : decode cX9_give 0 = .ok (.aload_n 0, 1) := by decide +kernel
theorem dX9_give_1 : decode cX9_give 1 = .ok (.getfield 34, 3) := by decide +kernel
theorem dX9_give_4 : decode cX9_give 4 = .ok (.iload_n 1, 1) := by decide +kernel
theorem dX9_give_5 : decode cX9_give 5 = .ok (.iaload, 1) := by decide +kernel
theorem dX9_give_6 : decode cX9_give 6 = .ok (.bipush 12, 2) := by decide +kernel
theorem dX9_give_8 : decode cX9_give 8 = .ok (.if_icmp .ne 5, 3) := by decide +kernel
theorem dX9_give_11 : decode cX9_give 11 = .ok (.iconst 0, 1) := by decide +kernel
theorem dX9_give_12 : decode cX9_give 12 = .ok (.ireturn, 1) := by decide +kernel
theorem dX9_give_13 : decode cX9_give 13 = .ok (.aload_n 0, 1) := by decide +kernel
theorem dX9_give_14 : decode cX9_give 14 = .ok (.getfield 34, 3) := by decide +kernel
theorem dX9_give_17 : decode cX9_give 17 = .ok (.iload_n 1, 1) := by decide +kernel
theorem dX9_give_18 : decode cX9_give 18 = .ok (.iaload, 1) := by decide +kernel
theorem dX9_give_19 : decode cX9_give 19 = .ok (.istore_n 3, 1) := by decide +kernel
theorem dX9_give_20 : decode cX9_give 20 = .ok (.iload_n 3, 1) := by decide +kernel
theorem dX9_give_21 : decode cX9_give 21 = .ok (.ifCond .le 50, 3) := by decide +kernel
theorem dX9_give_24 : decode cX9_give 24 = .ok (.aload_n 0, 1) := by decide +kernel
theorem dX9_give_25 : decode cX9_give 25 = .ok (.getfield 37, 3) := by decide +kernel
theorem dX9_give_28 : decode cX9_give 28 = .ok (.bipush 12, 2) := by decide +kernel
theorem dX9_give_30 : decode cX9_give 30 = .ok (.iload_n 1, 1) := by decide +kernel
theorem dX9_give_31 : decode cX9_give 31 = .ok (.imul, 1) := by decide +kernel
theorem dX9_give_32 : decode cX9_give 32 = .ok (.iload_n 3, 1) := by decide +kernel
theorem dX9_give_33 : decode cX9_give 33 = .ok (.iadd, 1) := by decide +kernel
theorem dX9_give_34 : decode cX9_give 34 = .ok (.iconst 1, 1) := by decide +kernel
theorem dX9_give_35 : decode cX9_give 35 = .ok (.isub, 1) := by decide +kernel
theorem dX9_give_36 : decode cX9_give 36 = .ok (.iaload, 1) := by decide +kernel
theorem dX9_give_37 : decode cX9_give 37 = .ok (.iload_n 2, 1) := by decide +kernel
theorem dX9_give_38 : decode cX9_give 38 = .ok (.if_icmp .le 33, 3) := by decide +kernel
theorem dX9_give_41 : decode cX9_give 41 = .ok (.aload_n 0, 1) := by decide +kernel
theorem dX9_give_42 : decode cX9_give 42 = .ok (.getfield 37, 3) := by decide +kernel
theorem dX9_give_45 : decode cX9_give 45 = .ok (.bipush 12, 2) := by decide +kernel
theorem dX9_give_47 : decode cX9_give 47 = .ok (.iload_n 1, 1) := by decide +kernel
theorem dX9_give_48 : decode cX9_give 48 = .ok (.imul, 1) := by decide +kernel
theorem dX9_give_49 : decode cX9_give 49 = .ok (.iload_n 3, 1) := by decide +kernel
theorem dX9_give_50 : decode cX9_give 50 = .ok (.iadd, 1) := by decide +kernel
theorem dX9_give_51 : decode cX9_give 51 = .ok (.aload_n 0, 1) := by decide +kernel
theorem dX9_give_52 : decode cX9_give 52 = .ok (.getfield 37, 3) := by decide +kernel
theorem dX9_give_55 : decode cX9_give 55 = .ok (.bipush 12, 2) := by decide +kernel
theorem dX9_give_57 : decode cX9_give 57 = .ok (.iload_n 1, 1) := by decide +kernel
theorem dX9_give_58 : decode cX9_give 58 = .ok (.imul, 1) := by decide +kernel
theorem dX9_give_59 : decode cX9_give 59 = .ok (.iload_n 3, 1) := by decide +kernel
theorem dX9_give_60 : decode cX9_give 60 = .ok (.iadd, 1) := by decide +kernel
theorem dX9_give_61 : decode cX9_give 61 = .ok (.iconst 1, 1) := by decide +kernel
theorem dX9_give_62 : decode cX9_give 62 = .ok (.isub, 1) := by decide +kernel
theorem dX9_give_63 : decode cX9_give 63 = .ok (.iaload, 1) := by decide +kernel
theorem dX9_give_64 : decode cX9_give 64 = .ok (.iastore, 1) := by decide +kernel
theorem dX9_give_65 : decode cX9_give 65 = .ok (.iinc 3 (-1), 3) := by decide +kernel
theorem dX9_give_68 : decode cX9_give 68 = .ok (.goto (-48), 3) := by decide +kernel
theorem dX9_give_71 : decode cX9_give 71 = .ok (.aload_n 0, 1) := by decide +kernel
theorem dX9_give_72 : decode cX9_give 72 = .ok (.getfield 37, 3) := by decide +kernel
theorem dX9_give_75 : decode cX9_give 75 = .ok (.bipush 12, 2) := by decide +kernel
theorem dX9_give_77 : decode cX9_give 77 = .ok (.iload_n 1, 1) := by decide +kernel
theorem dX9_give_78 : decode cX9_give 78 = .ok (.imul, 1) := by decide +kernel
theorem dX9_give_79 : decode cX9_give 79 = .ok (.iload_n 3, 1) := by decide +kernel
theorem dX9_give_80 : decode cX9_give 80 = .ok (.iadd, 1) := by decide +kernel
theorem dX9_give_81 : decode cX9_give 81 = .ok (.iload_n 2, 1) := by decide +kernel
theorem dX9_give_82 : decode cX9_give 82 = .ok (.iastore, 1) := by decide +kernel
theorem dX9_give_83 : decode cX9_give 83 = .ok (.aload_n 0, 1) := by decide +kernel
theorem dX9_give_84 : decode cX9_give 84 = .ok (.getfield 34, 3) := by decide +kernel
theorem dX9_give_87 : decode cX9_give 87 = .ok (.iload_n 1, 1) := by decide +kernel
theorem dX9_give_88 : decode cX9_give 88 = .ok (.dup2, 1) := by decide +kernel
theorem dX9_give_89 : decode cX9_give 89 = .ok (.iaload, 1) := by decide +kernel
theorem dX9_give_90 : decode cX9_give 90 = .ok (.iconst 1, 1) := by decide +kernel
theorem dX9_give_91 : decode cX9_give 91 = .ok (.iadd, 1) := by decide +kernel
theorem dX9_give_92 : decode cX9_give 92 = .ok (.iastore, 1) := by decide +kernel
theorem dX9_give_93 : decode cX9_give 93 = .ok (.iconst 1, 1) := by decide +kernel
theorem dX9_give_94 : decode cX9_give 94 = .ok (.ireturn, 1) := by decide +kernel
theorem dX9_countOf_0 : decode cX9_countOf 0 = .ok (.iconst 0, 1) := by decide +kernel
theorem dX9_countOf_1 : decode cX9_countOf 1 = .ok (.istore_n 3, 1) := by decide +kernel
theorem dX9_countOf_2 : decode cX9_countOf 2 = .ok (.iconst 0, 1) := by decide +kernel
theorem dX9_countOf_3 : decode cX9_countOf 3 = .ok (.istore 4, 2) := by decide +kernel
theorem dX9_countOf_5 : decode cX9_countOf 5 = .ok (.iload 4, 2) := by decide +kernel
theorem dX9_countOf_7 : decode cX9_countOf 7 = .ok (.aload_n 0, 1) := by decide +kernel
theorem dX9_countOf_8 : decode cX9_countOf 8 = .ok (.getfield 34, 3) := by decide +kernel
theorem dX9_countOf_11 : decode cX9_countOf 11 = .ok (.iload_n 1, 1) := by decide +kernel
theorem dX9_countOf_12 : decode cX9_countOf 12 = .ok (.iaload, 1) := by decide +kernel
theorem dX9_countOf_13 : decode cX9_countOf 13 = .ok (.if_icmp .ge 38, 3) := by decide +kernel
theorem dX9_countOf_16 : decode cX9_countOf 16 = .ok (.iload_n 3, 1) := by decide +kernel
theorem dX9_countOf_17 : decode cX9_countOf 17 = .ok (.iload_n 2, 1) := by decide +kernel
theorem dX9_countOf_18 : decode cX9_countOf 18 = .ok (.aload_n 0, 1) := by decide +kernel
theorem dX9_countOf_19 : decode cX9_countOf 19 = .ok (.getfield 37, 3) := by decide +kernel
theorem dX9_countOf_22 : decode cX9_countOf 22 = .ok (.bipush 12, 2) := by decide +kernel
theorem dX9_countOf_24 : decode cX9_countOf 24 = .ok (.iload_n 1, 1) := by decide +kernel
theorem dX9_countOf_25 : decode cX9_countOf 25 = .ok (.imul, 1) := by decide +kernel
theorem dX9_countOf_26 : decode cX9_countOf 26 = .ok (.iload 4, 2) := by decide +kernel
theorem dX9_countOf_28 : decode cX9_countOf 28 = .ok (.iadd, 1) := by decide +kernel
theorem dX9_countOf_29 : decode cX9_countOf 29 = .ok (.iaload, 1) := by decide +kernel
theorem dX9_countOf_30 : decode cX9_countOf 30 = .ok (.iconst 4, 1) := by decide +kernel
theorem dX9_countOf_31 : decode cX9_countOf 31 = .ok (.irem, 1) := by decide +kernel
theorem dX9_countOf_32 : decode cX9_countOf 32 = .ok (.invokestatic 128, 3) := by decide +kernel
theorem dX9_countOf_35 : decode cX9_countOf 35 = .ok (.ifCond .eq 7, 3) := by decide +kernel
theorem dX9_countOf_38 : decode cX9_countOf 38 = .ok (.iconst 1, 1) := by decide +kernel
theorem dX9_countOf_39 : decode cX9_countOf 39 = .ok (.goto 4, 3) := by decide +kernel
theorem dX9_countOf_42 : decode cX9_countOf 42 = .ok (.iconst 0, 1) := by decide +kernel
theorem dX9_countOf_43 : decode cX9_countOf 43 = .ok (.iadd, 1) := by decide +kernel
theorem dX9_countOf_44 : decode cX9_countOf 44 = .ok (.istore_n 3, 1) := by decide +kernel
theorem dX9_countOf_45 : decode cX9_countOf 45 = .ok (.iinc 4 1, 3) := by decide +kernel
theorem dX9_countOf_48 : decode cX9_countOf 48 = .ok (.goto (-43), 3) := by decide +kernel
theorem dX9_countOf_51 : decode cX9_countOf 51 = .ok (.iload_n 3, 1) := by decide +kernel
theorem dX9_countOf_52 : decode cX9_countOf 52 = .ok (.ireturn, 1) := by decide +kernel
theorem dX9_take_0 : decode cX9_take 0 = .ok (.iconst 0, 1) := by decide +kernel
theorem dX9_take_1 : decode cX9_take 1 = .ok (.istore 4, 2) := by decide +kernel
theorem dX9_take_3 : decode cX9_take 3 = .ok (.iload_n 3, 1) := by decide +kernel
theorem dX9_take_4 : decode cX9_take 4 = .ok (.istore 5, 2) := by decide +kernel
theorem dX9_take_6 : decode cX9_take 6 = .ok (.iconst (-1), 1) := by decide +kernel
theorem dX9_take_7 : decode cX9_take 7 = .ok (.istore 6, 2) := by decide +kernel
theorem dX9_take_9 : decode cX9_take 9 = .ok (.iconst 0, 1) := by decide +kernel
theorem dX9_take_10 : decode cX9_take 10 = .ok (.istore 7, 2) := by decide +kernel
theorem dX9_take_12 : decode cX9_take 12 = .ok (.iload 7, 2) := by decide +kernel
theorem dX9_take_14 : decode cX9_take 14 = .ok (.aload_n 0, 1) := by decide +kernel
theorem dX9_take_15 : decode cX9_take 15 = .ok (.getfield 34, 3) := by decide +kernel
theorem dX9_take_18 : decode cX9_take 18 = .ok (.iload_n 1, 1) := by decide +kernel
theorem dX9_take_19 : decode cX9_take 19 = .ok (.iaload, 1) := by decide +kernel
theorem dX9_take_20 : decode cX9_take 20 = .ok (.if_icmp .ge 77, 3) := by decide +kernel
theorem dX9_take_23 : decode cX9_take 23 = .ok (.aload_n 0, 1) := by decide +kernel
theorem dX9_take_24 : decode cX9_take 24 = .ok (.getfield 37, 3) := by decide +kernel
theorem dX9_take_27 : decode cX9_take 27 = .ok (.bipush 12, 2) := by decide +kernel
theorem dX9_take_29 : decode cX9_take 29 = .ok (.iload_n 1, 1) := by decide +kernel
theorem dX9_take_30 : decode cX9_take 30 = .ok (.imul, 1) := by decide +kernel
theorem dX9_take_31 : decode cX9_take 31 = .ok (.iload 7, 2) := by decide +kernel
theorem dX9_take_33 : decode cX9_take 33 = .ok (.iadd, 1) := by decide +kernel
theorem dX9_take_34 : decode cX9_take 34 = .ok (.iaload, 1) := by decide +kernel
theorem dX9_take_35 : decode cX9_take 35 = .ok (.istore 8, 2) := by decide +kernel
theorem dX9_take_37 : decode cX9_take 37 = .ok (.iload 5, 2) := by decide +kernel
theorem dX9_take_39 : decode cX9_take 39 = .ok (.ifCond .le 35, 3) := by decide +kernel
theorem dX9_take_42 : decode cX9_take 42 = .ok (.iload_n 2, 1) := by decide +kernel
theorem dX9_take_43 : decode cX9_take 43 = .ok (.iload 8, 2) := by decide +kernel
theorem dX9_take_45 : decode cX9_take 45 = .ok (.iconst 4, 1) := by decide +kernel
theorem dX9_take_46 : decode cX9_take 46 = .ok (.irem, 1) := by decide +kernel
theorem dX9_take_47 : decode cX9_take 47 = .ok (.invokestatic 128, 3) := by decide +kernel
theorem dX9_take_50 : decode cX9_take 50 = .ok (.ifCond .eq 24, 3) := by decide +kernel
theorem dX9_take_53 : decode cX9_take 53 = .ok (.iload 5, 2) := by decide +kernel
theorem dX9_take_55 : decode cX9_take 55 = .ok (.iload_n 3, 1) := by decide +kernel
theorem dX9_take_56 : decode cX9_take 56 = .ok (.if_icmp .ne 8, 3) := by decide +kernel
theorem dX9_take_59 : decode cX9_take 59 = .ok (.iload 8, 2) := by decide +kernel
theorem dX9_take_61 : decode cX9_take 61 = .ok (.goto 5, 3) := by decide +kernel
theorem dX9_take_64 : decode cX9_take 64 = .ok (.iload 6, 2) := by decide +kernel
theorem dX9_take_66 : decode cX9_take 66 = .ok (.istore 6, 2) := by decide +kernel
theorem dX9_take_68 : decode cX9_take 68 = .ok (.iinc 5 (-1), 3) := by decide +kernel
theorem dX9_take_71 : decode cX9_take 71 = .ok (.goto 20, 3) := by decide +kernel
theorem dX9_take_74 : decode cX9_take 74 = .ok (.aload_n 0, 1) := by decide +kernel
theorem dX9_take_75 : decode cX9_take 75 = .ok (.getfield 37, 3) := by decide +kernel
theorem dX9_take_78 : decode cX9_take 78 = .ok (.bipush 12, 2) := by decide +kernel
theorem dX9_take_80 : decode cX9_take 80 = .ok (.iload_n 1, 1) := by decide +kernel
theorem dX9_take_81 : decode cX9_take 81 = .ok (.imul, 1) := by decide +kernel
theorem dX9_take_82 : decode cX9_take 82 = .ok (.iload 4, 2) := by decide +kernel
theorem dX9_take_84 : decode cX9_take 84 = .ok (.iadd, 1) := by decide +kernel
theorem dX9_take_85 : decode cX9_take 85 = .ok (.iload 8, 2) := by decide +kernel
theorem dX9_take_87 : decode cX9_take 87 = .ok (.iastore, 1) := by decide +kernel
theorem dX9_take_88 : decode cX9_take 88 = .ok (.iinc 4 1, 3) := by decide +kernel
theorem dX9_take_91 : decode cX9_take 91 = .ok (.iinc 7 1, 3) := by decide +kernel
theorem dX9_take_94 : decode cX9_take 94 = .ok (.goto (-82), 3) := by decide +kernel
theorem dX9_take_97 : decode cX9_take 97 = .ok (.aload_n 0, 1) := by decide +kernel
theorem dX9_take_98 : decode cX9_take 98 = .ok (.getfield 34, 3) := by decide +kernel
theorem dX9_take_101 : decode cX9_take 101 = .ok (.iload_n 1, 1) := by decide +kernel
theorem dX9_take_102 : decode cX9_take 102 = .ok (.iload 4, 2) := by decide +kernel
theorem dX9_take_104 : decode cX9_take 104 = .ok (.iastore, 1) := by decide +kernel
theorem dX9_take_105 : decode cX9_take 105 = .ok (.iload 6, 2) := by decide +kernel
theorem dX9_take_107 : decode cX9_take 107 = .ok (.ireturn, 1) := by decide +kernel
theorem dX9_isThere_0 : decode cX9_isThere 0 = .ok (.iload_n 1, 1) := by decide +kernel
theorem dX9_isThere_1 : decode cX9_isThere 1 = .ok (.iconst 0, 1) := by decide +kernel
theorem dX9_isThere_2 : decode cX9_isThere 2 = .ok (.aload_n 0, 1) := by decide +kernel
theorem dX9_isThere_3 : decode cX9_isThere 3 = .ok (.getfield 168, 3) := by decide +kernel
theorem dX9_isThere_6 : decode cX9_isThere 6 = .ok (.iconst 1, 1) := by decide +kernel
theorem dX9_isThere_7 : decode cX9_isThere 7 = .ok (.isub, 1) := by decide +kernel
theorem dX9_isThere_8 : decode cX9_isThere 8 = .ok (.invokestatic 111, 3) := by decide +kernel
theorem dX9_isThere_11 : decode cX9_isThere 11 = .ok (.ireturn, 1) := by decide +kernel
theorem dX9_isPerson_0 : decode cX9_isPerson 0 = .ok (.aload_n 0, 1) := by decide +kernel
theorem dX9_isPerson_1 : decode cX9_isPerson 1 = .ok (.iload_n 1, 1) := by decide +kernel
theorem dX9_isPerson_2 : decode cX9_isPerson 2 = .ok (.invokevirtual 178, 3) := by decide +kernel
theorem dX9_isPerson_5 : decode cX9_isPerson 5 = .ok (.ifCond .eq 16, 3) := by decide +kernel
theorem dX9_isPerson_8 : decode cX9_isPerson 8 = .ok (.aload_n 0, 1) := by decide +kernel
theorem dX9_isPerson_9 : decode cX9_isPerson 9 = .ok (.getfield 31, 3) := by decide +kernel
theorem dX9_isPerson_12 : decode cX9_isPerson 12 = .ok (.iload_n 1, 1) := by decide +kernel
theorem dX9_isPerson_13 : decode cX9_isPerson 13 = .ok (.iaload, 1) := by decide +kernel
theorem dX9_isPerson_14 : decode cX9_isPerson 14 = .ok (.ifCond .ne 7, 3) := by decide +kernel
theorem dX9_isPerson_17 : decode cX9_isPerson 17 = .ok (.iconst 1, 1) := by decide +kernel
theorem dX9_isPerson_18 : decode cX9_isPerson 18 = .ok (.goto 4, 3) := by decide +kernel
theorem dX9_isPerson_21 : decode cX9_isPerson 21 = .ok (.iconst 0, 1) := by decide +kernel
theorem dX9_isPerson_22 : decode cX9_isPerson 22 = .ok (.ireturn, 1) := by decide +kernel
theorem dX9_person_0 : decode cX9_person 0 = .ok (.iload_n 1, 1) := by decide +kernel
theorem dX9_person_1 : decode cX9_person 1 = .ok (.iconst 0, 1) := by decide +kernel
theorem dX9_person_2 : decode cX9_person 2 = .ok (.iconst 4, 1) := by decide +kernel
theorem dX9_person_3 : decode cX9_person 3 = .ok (.invokestatic 111, 3) := by decide +kernel
theorem dX9_person_6 : decode cX9_person 6 = .ok (.ifCond .ne 6, 3) := by decide +kernel
theorem dX9_person_9 : decode cX9_person 9 = .ok (.bipush (-102), 2) := by decide +kernel
theorem dX9_person_11 : decode cX9_person 11 = .ok (.ireturn, 1) := by decide +kernel
theorem dX9_person_12 : decode cX9_person 12 = .ok (.aload_n 0, 1) := by decide +kernel
theorem dX9_person_13 : decode cX9_person 13 = .ok (.getfield 149, 3) := by decide +kernel
theorem dX9_person_16 : decode cX9_person 16 = .ok (.ifCond .ne 6, 3) := by decide +kernel
theorem dX9_person_19 : decode cX9_person 19 = .ok (.bipush (-103), 2) := by decide +kernel
theorem dX9_person_21 : decode cX9_person 21 = .ok (.ireturn, 1) := by decide +kernel
theorem dX9_person_22 : decode cX9_person 22 = .ok (.aload_n 0, 1) := by decide +kernel
theorem dX9_person_23 : decode cX9_person 23 = .ok (.getfield 168, 3) := by decide +kernel
theorem dX9_person_26 : decode cX9_person 26 = .ok (.iconst 4, 1) := by decide +kernel
theorem dX9_person_27 : decode cX9_person 27 = .ok (.if_icmp .ne 6, 3) := by decide +kernel
theorem dX9_person_30 : decode cX9_person 30 = .ok (.bipush (-104), 2) := by decide +kernel
theorem dX9_person_32 : decode cX9_person 32 = .ok (.ireturn, 1) := by decide +kernel
theorem dX9_person_33 : decode cX9_person 33 = .ok (.aload_n 0, 1) := by decide +kernel
theorem dX9_person_34 : decode cX9_person 34 = .ok (.getfield 19, 3) := by decide +kernel
theorem dX9_person_37 : decode cX9_person 37 = .ok (.aload_n 0, 1) := by decide +kernel
theorem dX9_person_38 : decode cX9_person 38 = .ok (.getfield 168, 3) := by decide +kernel
theorem dX9_person_41 : decode cX9_person 41 = .ok (.iload_n 1, 1) := by decide +kernel
theorem dX9_person_42 : decode cX9_person 42 = .ok (.iastore, 1) := by decide +kernel
theorem dX9_person_43 : decode cX9_person 43 = .ok (.aload_n 0, 1) := by decide +kernel
theorem dX9_person_44 : decode cX9_person 44 = .ok (.getfield 22, 3) := by decide +kernel
theorem dX9_person_47 : decode cX9_person 47 = .ok (.aload_n 0, 1) := by decide +kernel
theorem dX9_person_48 : decode cX9_person 48 = .ok (.getfield 168, 3) := by decide +kernel
theorem dX9_person_51 : decode cX9_person 51 = .ok (.iconst 0, 1) := by decide +kernel
theorem dX9_person_52 : decode cX9_person 52 = .ok (.iastore, 1) := by decide +kernel
theorem dX9_person_53 : decode cX9_person 53 = .ok (.aload_n 0, 1) := by decide +kernel
theorem dX9_person_54 : decode cX9_person 54 = .ok (.getfield 25, 3) := by decide +kernel
theorem dX9_person_57 : decode cX9_person 57 = .ok (.aload_n 0, 1) := by decide +kernel
theorem dX9_person_58 : decode cX9_person 58 = .ok (.getfield 168, 3) := by decide +kernel
theorem dX9_person_61 : decode cX9_person 61 = .ok (.iconst 0, 1) := by decide +kernel
theorem dX9_person_62 : decode cX9_person 62 = .ok (.iastore, 1) := by decide +kernel
theorem dX9_person_63 : decode cX9_person 63 = .ok (.aload_n 0, 1) := by decide +kernel
theorem dX9_person_64 : decode cX9_person 64 = .ok (.getfield 28, 3) := by decide +kernel
theorem dX9_person_67 : decode cX9_person 67 = .ok (.aload_n 0, 1) := by decide +kernel
theorem dX9_person_68 : decode cX9_person 68 = .ok (.getfield 168, 3) := by decide +kernel
theorem dX9_person_71 : decode cX9_person 71 = .ok (.iconst 0, 1) := by decide +kernel
theorem dX9_person_72 : decode cX9_person 72 = .ok (.iastore, 1) := by decide +kernel
theorem dX9_person_73 : decode cX9_person 73 = .ok (.aload_n 0, 1) := by decide +kernel
theorem dX9_person_74 : decode cX9_person 74 = .ok (.getfield 31, 3) := by decide +kernel
theorem dX9_person_77 : decode cX9_person 77 = .ok (.aload_n 0, 1) := by decide +kernel
theorem dX9_person_78 : decode cX9_person 78 = .ok (.getfield 168, 3) := by decide +kernel
theorem dX9_person_81 : decode cX9_person 81 = .ok (.iconst 0, 1) := by decide +kernel
theorem dX9_person_82 : decode cX9_person 82 = .ok (.iastore, 1) := by decide +kernel
theorem dX9_person_83 : decode cX9_person 83 = .ok (.aload_n 0, 1) := by decide +kernel
theorem dX9_person_84 : decode cX9_person 84 = .ok (.getfield 34, 3) := by decide +kernel
theorem dX9_person_87 : decode cX9_person 87 = .ok (.aload_n 0, 1) := by decide +kernel
theorem dX9_person_88 : decode cX9_person 88 = .ok (.getfield 168, 3) := by decide +kernel
theorem dX9_person_91 : decode cX9_person 91 = .ok (.iconst 0, 1) := by decide +kernel
theorem dX9_person_92 : decode cX9_person 92 = .ok (.iastore, 1) := by decide +kernel
theorem dX9_person_93 : decode cX9_person 93 = .ok (.aload_n 0, 1) := by decide +kernel
theorem dX9_person_94 : decode cX9_person 94 = .ok (.dup, 1) := by decide +kernel
theorem dX9_person_95 : decode cX9_person 95 = .ok (.getfield 168, 3) := by decide +kernel
theorem dX9_person_98 : decode cX9_person 98 = .ok (.iconst 1, 1) := by decide +kernel
theorem dX9_person_99 : decode cX9_person 99 = .ok (.iadd, 1) := by decide +kernel
theorem dX9_person_100 : decode cX9_person 100 = .ok (.putfield 168, 3) := by decide +kernel
theorem dX9_person_103 : decode cX9_person 103 = .ok (.aload_n 0, 1) := by decide +kernel
theorem dX9_person_104 : decode cX9_person 104 = .ok (.getfield 168, 3) := by decide +kernel
theorem dX9_person_107 : decode cX9_person 107 = .ok (.iconst 1, 1) := by decide +kernel
theorem dX9_person_108 : decode cX9_person 108 = .ok (.isub, 1) := by decide +kernel
theorem dX9_person_109 : decode cX9_person 109 = .ok (.ireturn, 1) := by decide +kernel
theorem dX9_personNow_0 : decode cX9_personNow 0 = .ok (.iload_n 2, 1) := by decide +kernel
theorem dX9_personNow_1 : decode cX9_personNow 1 = .ok (.tableswitch 122 0 8 #[51, 58, 65, 72, 79, 79, 79, 90, 115], 51) := by decide +kernel
theorem dX9_personNow_52 : decode cX9_personNow 52 = .ok (.aload_n 0, 1) := by decide +kernel
theorem dX9_personNow_53 : decode cX9_personNow 53 = .ok (.getfield 19, 3) := by decide +kernel
theorem dX9_personNow_56 : decode cX9_personNow 56 = .ok (.iload_n 1, 1) := by decide +kernel
theorem dX9_personNow_57 : decode cX9_personNow 57 = .ok (.iaload, 1) := by decide +kernel
theorem dX9_personNow_58 : decode cX9_personNow 58 = .ok (.ireturn, 1) := by decide +kernel
theorem dX9_personNow_59 : decode cX9_personNow 59 = .ok (.aload_n 0, 1) := by decide +kernel
theorem dX9_personNow_60 : decode cX9_personNow 60 = .ok (.getfield 22, 3) := by decide +kernel
theorem dX9_personNow_63 : decode cX9_personNow 63 = .ok (.iload_n 1, 1) := by decide +kernel
theorem dX9_personNow_64 : decode cX9_personNow 64 = .ok (.iaload, 1) := by decide +kernel
theorem dX9_personNow_65 : decode cX9_personNow 65 = .ok (.ireturn, 1) := by decide +kernel
theorem dX9_personNow_66 : decode cX9_personNow 66 = .ok (.aload_n 0, 1) := by decide +kernel
theorem dX9_personNow_67 : decode cX9_personNow 67 = .ok (.getfield 25, 3) := by decide +kernel
theorem dX9_personNow_70 : decode cX9_personNow 70 = .ok (.iload_n 1, 1) := by decide +kernel
theorem dX9_personNow_71 : decode cX9_personNow 71 = .ok (.iaload, 1) := by decide +kernel
theorem dX9_personNow_72 : decode cX9_personNow 72 = .ok (.ireturn, 1) := by decide +kernel
theorem dX9_personNow_73 : decode cX9_personNow 73 = .ok (.aload_n 0, 1) := by decide +kernel
theorem dX9_personNow_74 : decode cX9_personNow 74 = .ok (.getfield 34, 3) := by decide +kernel
theorem dX9_personNow_77 : decode cX9_personNow 77 = .ok (.iload_n 1, 1) := by decide +kernel
theorem dX9_personNow_78 : decode cX9_personNow 78 = .ok (.iaload, 1) := by decide +kernel
theorem dX9_personNow_79 : decode cX9_personNow 79 = .ok (.ireturn, 1) := by decide +kernel
theorem dX9_personNow_80 : decode cX9_personNow 80 = .ok (.aload_n 0, 1) := by decide +kernel
theorem dX9_personNow_81 : decode cX9_personNow 81 = .ok (.iload_n 1, 1) := by decide +kernel
theorem dX9_personNow_82 : decode cX9_personNow 82 = .ok (.iconst 1, 1) := by decide +kernel
theorem dX9_personNow_83 : decode cX9_personNow 83 = .ok (.iload_n 2, 1) := by decide +kernel
theorem dX9_personNow_84 : decode cX9_personNow 84 = .ok (.iconst 4, 1) := by decide +kernel
theorem dX9_personNow_85 : decode cX9_personNow 85 = .ok (.isub, 1) := by decide +kernel
theorem dX9_personNow_86 : decode cX9_personNow 86 = .ok (.ishl, 1) := by decide +kernel
theorem dX9_personNow_87 : decode cX9_personNow 87 = .ok (.invokevirtual 181, 3) := by decide +kernel
theorem dX9_personNow_90 : decode cX9_personNow 90 = .ok (.ireturn, 1) := by decide +kernel
theorem dX9_personNow_91 : decode cX9_personNow 91 = .ok (.aload_n 0, 1) := by decide +kernel
theorem dX9_personNow_92 : decode cX9_personNow 92 = .ok (.getfield 34, 3) := by decide +kernel
theorem dX9_personNow_95 : decode cX9_personNow 95 = .ok (.iload_n 1, 1) := by decide +kernel
theorem dX9_personNow_96 : decode cX9_personNow 96 = .ok (.iaload, 1) := by decide +kernel
theorem dX9_personNow_97 : decode cX9_personNow 97 = .ok (.ifCond .ne 7, 3) := by decide +kernel
theorem dX9_personNow_100 : decode cX9_personNow 100 = .ok (.iconst (-1), 1) := by decide +kernel
theorem dX9_personNow_101 : decode cX9_personNow 101 = .ok (.goto 14, 3) := by decide +kernel
theorem dX9_personNow_104 : decode cX9_personNow 104 = .ok (.aload_n 0, 1) := by decide +kernel
theorem dX9_personNow_105 : decode cX9_personNow 105 = .ok (.getfield 37, 3) := by decide +kernel
theorem dX9_personNow_108 : decode cX9_personNow 108 = .ok (.bipush 12, 2) := by decide +kernel
theorem dX9_personNow_110 : decode cX9_personNow 110 = .ok (.iload_n 1, 1) := by decide +kernel
theorem dX9_personNow_111 : decode cX9_personNow 111 = .ok (.imul, 1) := by decide +kernel
theorem dX9_personNow_112 : decode cX9_personNow 112 = .ok (.iaload, 1) := by decide +kernel
theorem dX9_personNow_113 : decode cX9_personNow 113 = .ok (.iconst 4, 1) := by decide +kernel
theorem dX9_personNow_114 : decode cX9_personNow 114 = .ok (.idiv, 1) := by decide +kernel
theorem dX9_personNow_115 : decode cX9_personNow 115 = .ok (.ireturn, 1) := by decide +kernel
theorem dX9_personNow_116 : decode cX9_personNow 116 = .ok (.aload_n 0, 1) := by decide +kernel
theorem dX9_personNow_117 : decode cX9_personNow 117 = .ok (.getfield 28, 3) := by decide +kernel
theorem dX9_personNow_120 : decode cX9_personNow 120 = .ok (.iload_n 1, 1) := by decide +kernel
theorem dX9_personNow_121 : decode cX9_personNow 121 = .ok (.iaload, 1) := by decide +kernel
theorem dX9_personNow_122 : decode cX9_personNow 122 = .ok (.ireturn, 1) := by decide +kernel
theorem dX9_personNow_123 : decode cX9_personNow 123 = .ok (.aload_n 0, 1) := by decide +kernel
theorem dX9_personNow_124 : decode cX9_personNow 124 = .ok (.getfield 31, 3) := by decide +kernel
theorem dX9_personNow_127 : decode cX9_personNow 127 = .ok (.iload_n 1, 1) := by decide +kernel
theorem dX9_personNow_128 : decode cX9_personNow 128 = .ok (.iaload, 1) := by decide +kernel
theorem dX9_personNow_129 : decode cX9_personNow 129 = .ok (.ireturn, 1) := by decide +kernel
theorem dX9_about_0 : decode cX9_about 0 = .ok (.aload_n 0, 1) := by decide +kernel
theorem dX9_about_1 : decode cX9_about 1 = .ok (.iload_n 1, 1) := by decide +kernel
theorem dX9_about_2 : decode cX9_about 2 = .ok (.invokevirtual 178, 3) := by decide +kernel
theorem dX9_about_5 : decode cX9_about 5 = .ok (.ifCond .ne 8, 3) := by decide +kernel
theorem dX9_about_8 : decode cX9_about 8 = .ok (.bipush (-101), 2) := by decide +kernel
theorem dX9_about_10 : decode cX9_about 10 = .ok (.goto 24, 3) := by decide +kernel
theorem dX9_about_13 : decode cX9_about 13 = .ok (.iload_n 2, 1) := by decide +kernel
theorem dX9_about_14 : decode cX9_about 14 = .ok (.iconst 0, 1) := by decide +kernel
theorem dX9_about_15 : decode cX9_about 15 = .ok (.bipush 9, 2) := by decide +kernel
theorem dX9_about_17 : decode cX9_about 17 = .ok (.invokestatic 111, 3) := by decide +kernel
theorem dX9_about_20 : decode cX9_about 20 = .ok (.ifCond .eq 12, 3) := by decide +kernel
theorem dX9_about_23 : decode cX9_about 23 = .ok (.aload_n 0, 1) := by decide +kernel
theorem dX9_about_24 : decode cX9_about 24 = .ok (.iload_n 1, 1) := by decide +kernel
theorem dX9_about_25 : decode cX9_about 25 = .ok (.iload_n 2, 1) := by decide +kernel
theorem dX9_about_26 : decode cX9_about 26 = .ok (.invokevirtual 184, 3) := by decide +kernel
theorem dX9_about_29 : decode cX9_about 29 = .ok (.goto 5, 3) := by decide +kernel
theorem dX9_about_32 : decode cX9_about 32 = .ok (.bipush (-102), 2) := by decide +kernel
theorem dX9_about_34 : decode cX9_about 34 = .ok (.ireturn, 1) := by decide +kernel
theorem dX9_as_0 : decode cX9_as 0 = .ok (.aload_n 0, 1) := by decide +kernel
theorem dX9_as_1 : decode cX9_as 1 = .ok (.iload_n 1, 1) := by decide +kernel
theorem dX9_as_2 : decode cX9_as 2 = .ok (.invokevirtual 178, 3) := by decide +kernel
theorem dX9_as_5 : decode cX9_as 5 = .ok (.ifCond .ne 6, 3) := by decide +kernel
theorem dX9_as_8 : decode cX9_as 8 = .ok (.bipush (-101), 2) := by decide +kernel
theorem dX9_as_10 : decode cX9_as 10 = .ok (.ireturn, 1) := by decide +kernel
theorem dX9_as_11 : decode cX9_as 11 = .ok (.iload_n 2, 1) := by decide +kernel
theorem dX9_as_12 : decode cX9_as 12 = .ok (.iconst 0, 1) := by decide +kernel
theorem dX9_as_13 : decode cX9_as 13 = .ok (.iconst 4, 1) := by decide +kernel
theorem dX9_as_14 : decode cX9_as 14 = .ok (.invokestatic 111, 3) := by decide +kernel
theorem dX9_as_17 : decode cX9_as 17 = .ok (.ifCond .ne 6, 3) := by decide +kernel
theorem dX9_as_20 : decode cX9_as 20 = .ok (.bipush (-102), 2) := by decide +kernel
theorem dX9_as_22 : decode cX9_as 22 = .ok (.ireturn, 1) := by decide +kernel
theorem dX9_as_23 : decode cX9_as 23 = .ok (.aload_n 0, 1) := by decide +kernel
theorem dX9_as_24 : decode cX9_as 24 = .ok (.getfield 19, 3) := by decide +kernel
theorem dX9_as_27 : decode cX9_as 27 = .ok (.iload_n 1, 1) := by decide +kernel
theorem dX9_as_28 : decode cX9_as 28 = .ok (.iaload, 1) := by decide +kernel
theorem dX9_as_29 : decode cX9_as 29 = .ok (.istore_n 3, 1) := by decide +kernel
theorem dX9_as_30 : decode cX9_as 30 = .ok (.iload_n 2, 1) := by decide +kernel
theorem dX9_as_31 : decode cX9_as 31 = .ok (.ifCond .eq 18, 3) := by decide +kernel
theorem dX9_as_34 : decode cX9_as 34 = .ok (.iload_n 3, 1) := by decide +kernel
theorem dX9_as_35 : decode cX9_as 35 = .ok (.iload_n 2, 1) := by decide +kernel
theorem dX9_as_36 : decode cX9_as 36 = .ok (.if_icmp .eq 13, 3) := by decide +kernel
theorem dX9_as_39 : decode cX9_as 39 = .ok (.iload_n 2, 1) := by decide +kernel
theorem dX9_as_40 : decode cX9_as 40 = .ok (.iconst 3, 1) := by decide +kernel
theorem dX9_as_41 : decode cX9_as 41 = .ok (.if_icmp .ne 12, 3) := by decide +kernel
theorem dX9_as_44 : decode cX9_as 44 = .ok (.iload_n 3, 1) := by decide +kernel
theorem dX9_as_45 : decode cX9_as 45 = .ok (.iconst 4, 1) := by decide +kernel
theorem dX9_as_46 : decode cX9_as 46 = .ok (.if_icmp .ne 7, 3) := by decide +kernel
theorem dX9_as_49 : decode cX9_as 49 = .ok (.iload_n 1, 1) := by decide +kernel
theorem dX9_as_50 : decode cX9_as 50 = .ok (.goto 4, 3) := by decide +kernel
theorem dX9_as_53 : decode cX9_as 53 = .ok (.iconst (-1), 1) := by decide +kernel
theorem dX9_as_54 : decode cX9_as 54 = .ok (.ireturn, 1) := by decide +kernel
theorem dX9_isAct_0 : decode cX9_isAct 0 = .ok (.iload_n 0, 1) := by decide +kernel
theorem dX9_isAct_1 : decode cX9_isAct 1 = .ok (.iconst 0, 1) := by decide +kernel
theorem dX9_isAct_2 : decode cX9_isAct 2 = .ok (.iconst 2, 1) := by decide +kernel
theorem dX9_isAct_3 : decode cX9_isAct 3 = .ok (.invokestatic 111, 3) := by decide +kernel
theorem dX9_isAct_6 : decode cX9_isAct 6 = .ok (.ifCond .ne 25, 3) := by decide +kernel
theorem dX9_isAct_9 : decode cX9_isAct 9 = .ok (.iload_n 0, 1) := by decide +kernel
theorem dX9_isAct_10 : decode cX9_isAct 10 = .ok (.bipush 10, 2) := by decide +kernel
theorem dX9_isAct_12 : decode cX9_isAct 12 = .ok (.bipush 13, 2) := by decide +kernel
theorem dX9_isAct_14 : decode cX9_isAct 14 = .ok (.invokestatic 111, 3) := by decide +kernel
theorem dX9_isAct_17 : decode cX9_isAct 17 = .ok (.ifCond .ne 14, 3) := by decide +kernel
theorem dX9_isAct_20 : decode cX9_isAct 20 = .ok (.iload_n 0, 1) := by decide +kernel
theorem dX9_isAct_21 : decode cX9_isAct 21 = .ok (.bipush 20, 2) := by decide +kernel
theorem dX9_isAct_23 : decode cX9_isAct 23 = .ok (.bipush 23, 2) := by decide +kernel
theorem dX9_isAct_25 : decode cX9_isAct 25 = .ok (.invokestatic 111, 3) := by decide +kernel
theorem dX9_isAct_28 : decode cX9_isAct 28 = .ok (.ifCond .eq 7, 3) := by decide +kernel
theorem dX9_isAct_31 : decode cX9_isAct 31 = .ok (.iconst 1, 1) := by decide +kernel
theorem dX9_isAct_32 : decode cX9_isAct 32 = .ok (.goto 4, 3) := by decide +kernel
theorem dX9_isAct_35 : decode cX9_isAct 35 = .ok (.iconst 0, 1) := by decide +kernel
theorem dX9_isAct_36 : decode cX9_isAct 36 = .ok (.ireturn, 1) := by decide +kernel
theorem dX9_needs_0 : decode cX9_needs 0 = .ok (.iload_n 0, 1) := by decide +kernel
theorem dX9_needs_1 : decode cX9_needs 1 = .ok (.iconst 1, 1) := by decide +kernel
theorem dX9_needs_2 : decode cX9_needs 2 = .ok (.if_icmp .ne 14, 3) := by decide +kernel
theorem dX9_needs_5 : decode cX9_needs 5 = .ok (.iload_n 1, 1) := by decide +kernel
theorem dX9_needs_6 : decode cX9_needs 6 = .ok (.iconst 1, 1) := by decide +kernel
theorem dX9_needs_7 : decode cX9_needs 7 = .ok (.if_icmp .le 9, 3) := by decide +kernel
theorem dX9_needs_10 : decode cX9_needs 10 = .ok (.iload_n 1, 1) := by decide +kernel
theorem dX9_needs_11 : decode cX9_needs 11 = .ok (.iconst 1, 1) := by decide +kernel
theorem dX9_needs_12 : decode cX9_needs 12 = .ok (.isub, 1) := by decide +kernel
theorem dX9_needs_13 : decode cX9_needs 13 = .ok (.goto 4, 3) := by decide +kernel
theorem dX9_needs_16 : decode cX9_needs 16 = .ok (.iload_n 1, 1) := by decide +kernel
theorem dX9_needs_17 : decode cX9_needs 17 = .ok (.ireturn, 1) := by decide +kernel
theorem dX9_gets_0 : decode cX9_gets 0 = .ok (.aload_n 0, 1) := by decide +kernel
theorem dX9_gets_1 : decode cX9_gets 1 = .ok (.getfield 13, 3) := by decide +kernel
theorem dX9_gets_4 : decode cX9_gets 4 = .ok (.iload_n 2, 1) := by decide +kernel
theorem dX9_gets_5 : decode cX9_gets 5 = .ok (.iaload, 1) := by decide +kernel
theorem dX9_gets_6 : decode cX9_gets 6 = .ok (.aload_n 0, 1) := by decide +kernel
theorem dX9_gets_7 : decode cX9_gets 7 = .ok (.getfield 19, 3) := by decide +kernel
theorem dX9_gets_10 : decode cX9_gets 10 = .ok (.iload_n 1, 1) := by decide +kernel
theorem dX9_gets_11 : decode cX9_gets 11 = .ok (.iaload, 1) := by decide +kernel
theorem dX9_gets_12 : decode cX9_gets 12 = .ok (.iconst 3, 1) := by decide +kernel
theorem dX9_gets_13 : decode cX9_gets 13 = .ok (.if_icmp .eq 13, 3) := by decide +kernel
theorem dX9_gets_16 : decode cX9_gets 16 = .ok (.aload_n 0, 1) := by decide +kernel
theorem dX9_gets_17 : decode cX9_gets 17 = .ok (.getfield 19, 3) := by decide +kernel
theorem dX9_gets_20 : decode cX9_gets 20 = .ok (.iload_n 1, 1) := by decide +kernel
theorem dX9_gets_21 : decode cX9_gets 21 = .ok (.iaload, 1) := by decide +kernel
theorem dX9_gets_22 : decode cX9_gets 22 = .ok (.iconst 4, 1) := by decide +kernel
theorem dX9_gets_23 : decode cX9_gets 23 = .ok (.if_icmp .ne 7, 3) := by decide +kernel
theorem dX9_gets_26 : decode cX9_gets 26 = .ok (.iconst 1, 1) := by decide +kernel
theorem dX9_gets_27 : decode cX9_gets 27 = .ok (.goto 4, 3) := by decide +kernel
theorem dX9_gets_30 : decode cX9_gets 30 = .ok (.iconst 0, 1) := by decide +kernel
theorem dX9_gets_31 : decode cX9_gets 31 = .ok (.iadd, 1) := by decide +kernel
theorem dX9_gets_32 : decode cX9_gets 32 = .ok (.ireturn, 1) := by decide +kernel
theorem dX9_isCovered_0 : decode cX9_isCovered 0 = .ok (.aload_n 0, 1) := by decide +kernel
theorem dX9_isCovered_1 : decode cX9_isCovered 1 = .ok (.getfield 25, 3) := by decide +kernel
theorem dX9_isCovered_4 : decode cX9_isCovered 4 = .ok (.iload_n 1, 1) := by decide +kernel
theorem dX9_isCovered_5 : decode cX9_isCovered 5 = .ok (.iaload, 1) := by decide +kernel
theorem dX9_isCovered_6 : decode cX9_isCovered 6 = .ok (.ifCond .ne 31, 3) := by decide +kernel
theorem dX9_isCovered_9 : decode cX9_isCovered 9 = .ok (.aload_n 0, 1) := by decide +kernel
theorem dX9_isCovered_10 : decode cX9_isCovered 10 = .ok (.iload_n 1, 1) := by decide +kernel
theorem dX9_isCovered_11 : decode cX9_isCovered 11 = .ok (.aload_n 0, 1) := by decide +kernel
theorem dX9_isCovered_12 : decode cX9_isCovered 12 = .ok (.getfield 16, 3) := by decide +kernel
theorem dX9_isCovered_15 : decode cX9_isCovered 15 = .ok (.iload_n 2, 1) := by decide +kernel
theorem dX9_isCovered_16 : decode cX9_isCovered 16 = .ok (.iaload, 1) := by decide +kernel
theorem dX9_isCovered_17 : decode cX9_isCovered 17 = .ok (.invokevirtual 181, 3) := by decide +kernel
theorem dX9_isCovered_20 : decode cX9_isCovered 20 = .ok (.aload_n 0, 1) := by decide +kernel
theorem dX9_isCovered_21 : decode cX9_isCovered 21 = .ok (.getfield 19, 3) := by decide +kernel
theorem dX9_isCovered_24 : decode cX9_isCovered 24 = .ok (.iload_n 1, 1) := by decide +kernel
theorem dX9_isCovered_25 : decode cX9_isCovered 25 = .ok (.iaload, 1) := by decide +kernel
theorem dX9_isCovered_26 : decode cX9_isCovered 26 = .ok (.iload_n 3, 1) := by decide +kernel
theorem dX9_isCovered_27 : decode cX9_isCovered 27 = .ok (.invokestatic 187, 3) := by decide +kernel
theorem dX9_isCovered_30 : decode cX9_isCovered 30 = .ok (.if_icmp .lt 7, 3) := by decide +kernel
theorem dX9_isCovered_33 : decode cX9_isCovered 33 = .ok (.iconst 1, 1) := by decide +kernel
theorem dX9_isCovered_34 : decode cX9_isCovered 34 = .ok (.goto 4, 3) := by decide +kernel
theorem dX9_isCovered_37 : decode cX9_isCovered 37 = .ok (.iconst 0, 1) := by decide +kernel
theorem dX9_isCovered_38 : decode cX9_isCovered 38 = .ok (.ireturn, 1) := by decide +kernel
theorem dX9_mayDo_0 : decode cX9_mayDo 0 = .ok (.iload_n 2, 1) := by decide +kernel
theorem dX9_mayDo_1 : decode cX9_mayDo 1 = .ok (.bipush 20, 2) := by decide +kernel
theorem dX9_mayDo_3 : decode cX9_mayDo 3 = .ok (.if_icmp .lt 18, 3) := by decide +kernel
theorem dX9_mayDo_6 : decode cX9_mayDo 6 = .ok (.aload_n 0, 1) := by decide +kernel
theorem dX9_mayDo_7 : decode cX9_mayDo 7 = .ok (.getfield 25, 3) := by decide +kernel
theorem dX9_mayDo_10 : decode cX9_mayDo 10 = .ok (.iload_n 1, 1) := by decide +kernel
theorem dX9_mayDo_11 : decode cX9_mayDo 11 = .ok (.iaload, 1) := by decide +kernel
theorem dX9_mayDo_12 : decode cX9_mayDo 12 = .ok (.ifCond .ne 7, 3) := by decide +kernel
theorem dX9_mayDo_15 : decode cX9_mayDo 15 = .ok (.iconst 1, 1) := by decide +kernel
theorem dX9_mayDo_16 : decode cX9_mayDo 16 = .ok (.goto 4, 3) := by decide +kernel
theorem dX9_mayDo_19 : decode cX9_mayDo 19 = .ok (.iconst 0, 1) := by decide +kernel
theorem dX9_mayDo_20 : decode cX9_mayDo 20 = .ok (.ireturn, 1) := by decide +kernel
theorem dX9_mayDo_21 : decode cX9_mayDo 21 = .ok (.iload_n 2, 1) := by decide +kernel
theorem dX9_mayDo_22 : decode cX9_mayDo 22 = .ok (.bipush 10, 2) := by decide +kernel
theorem dX9_mayDo_24 : decode cX9_mayDo 24 = .ok (.if_icmp .lt 24, 3) := by decide +kernel
theorem dX9_mayDo_27 : decode cX9_mayDo 27 = .ok (.aload_n 0, 1) := by decide +kernel
theorem dX9_mayDo_28 : decode cX9_mayDo 28 = .ok (.iload_n 1, 1) := by decide +kernel
theorem dX9_mayDo_29 : decode cX9_mayDo 29 = .ok (.iload_n 2, 1) := by decide +kernel
theorem dX9_mayDo_30 : decode cX9_mayDo 30 = .ok (.bipush 10, 2) := by decide +kernel
theorem dX9_mayDo_32 : decode cX9_mayDo 32 = .ok (.isub, 1) := by decide +kernel
theorem dX9_mayDo_33 : decode cX9_mayDo 33 = .ok (.aload_n 0, 1) := by decide +kernel
theorem dX9_mayDo_34 : decode cX9_mayDo 34 = .ok (.getfield 7, 3) := by decide +kernel
theorem dX9_mayDo_37 : decode cX9_mayDo 37 = .ok (.iload_n 2, 1) := by decide +kernel
theorem dX9_mayDo_38 : decode cX9_mayDo 38 = .ok (.bipush 10, 2) := by decide +kernel
theorem dX9_mayDo_40 : decode cX9_mayDo 40 = .ok (.isub, 1) := by decide +kernel
theorem dX9_mayDo_41 : decode cX9_mayDo 41 = .ok (.iaload, 1) := by decide +kernel
theorem dX9_mayDo_42 : decode cX9_mayDo 42 = .ok (.invokevirtual 190, 3) := by decide +kernel
theorem dX9_mayDo_45 : decode cX9_mayDo 45 = .ok (.ifCond .eq 7, 3) := by decide +kernel
theorem dX9_mayDo_48 : decode cX9_mayDo 48 = .ok (.iconst 1, 1) := by decide +kernel
theorem dX9_mayDo_49 : decode cX9_mayDo 49 = .ok (.goto 4, 3) := by decide +kernel
theorem dX9_mayDo_52 : decode cX9_mayDo 52 = .ok (.iconst 0, 1) := by decide +kernel
theorem dX9_mayDo_53 : decode cX9_mayDo 53 = .ok (.ireturn, 1) := by decide +kernel
theorem dX9_doAct_0 : decode cX9_doAct 0 = .ok (.iload_n 2, 1) := by decide +kernel
theorem dX9_doAct_1 : decode cX9_doAct 1 = .ok (.bipush 20, 2) := by decide +kernel
theorem dX9_doAct_3 : decode cX9_doAct 3 = .ok (.if_icmp .lt 58, 3) := by decide +kernel
theorem dX9_doAct_6 : decode cX9_doAct 6 = .ok (.aload_n 0, 1) := by decide +kernel
theorem dX9_doAct_7 : decode cX9_doAct 7 = .ok (.getfield 22, 3) := by decide +kernel
theorem dX9_doAct_10 : decode cX9_doAct 10 = .ok (.iload_n 1, 1) := by decide +kernel
theorem dX9_doAct_11 : decode cX9_doAct 11 = .ok (.dup2, 1) := by decide +kernel
theorem dX9_doAct_12 : decode cX9_doAct 12 = .ok (.iaload, 1) := by decide +kernel
theorem dX9_doAct_13 : decode cX9_doAct 13 = .ok (.aload_n 0, 1) := by decide +kernel
theorem dX9_doAct_14 : decode cX9_doAct 14 = .ok (.iload_n 1, 1) := by decide +kernel
theorem dX9_doAct_15 : decode cX9_doAct 15 = .ok (.iload_n 2, 1) := by decide +kernel
theorem dX9_doAct_16 : decode cX9_doAct 16 = .ok (.bipush 20, 2) := by decide +kernel
theorem dX9_doAct_18 : decode cX9_doAct 18 = .ok (.isub, 1) := by decide +kernel
theorem dX9_doAct_19 : decode cX9_doAct 19 = .ok (.invokevirtual 193, 3) := by decide +kernel
theorem dX9_doAct_22 : decode cX9_doAct 22 = .ok (.iadd, 1) := by decide +kernel
theorem dX9_doAct_23 : decode cX9_doAct 23 = .ok (.iastore, 1) := by decide +kernel
theorem dX9_doAct_24 : decode cX9_doAct 24 = .ok (.aload_n 0, 1) := by decide +kernel
theorem dX9_doAct_25 : decode cX9_doAct 25 = .ok (.getfield 25, 3) := by decide +kernel
theorem dX9_doAct_28 : decode cX9_doAct 28 = .ok (.iload_n 1, 1) := by decide +kernel
theorem dX9_doAct_29 : decode cX9_doAct 29 = .ok (.dup2, 1) := by decide +kernel
theorem dX9_doAct_30 : decode cX9_doAct 30 = .ok (.iaload, 1) := by decide +kernel
theorem dX9_doAct_31 : decode cX9_doAct 31 = .ok (.aload_n 0, 1) := by decide +kernel
theorem dX9_doAct_32 : decode cX9_doAct 32 = .ok (.getfield 7, 3) := by decide +kernel
theorem dX9_doAct_35 : decode cX9_doAct 35 = .ok (.iload_n 2, 1) := by decide +kernel
theorem dX9_doAct_36 : decode cX9_doAct 36 = .ok (.bipush 20, 2) := by decide +kernel
theorem dX9_doAct_38 : decode cX9_doAct 38 = .ok (.isub, 1) := by decide +kernel
theorem dX9_doAct_39 : decode cX9_doAct 39 = .ok (.iaload, 1) := by decide +kernel
theorem dX9_doAct_40 : decode cX9_doAct 40 = .ok (.aload_n 0, 1) := by decide +kernel
theorem dX9_doAct_41 : decode cX9_doAct 41 = .ok (.getfield 19, 3) := by decide +kernel
theorem dX9_doAct_44 : decode cX9_doAct 44 = .ok (.iload_n 1, 1) := by decide +kernel
theorem dX9_doAct_45 : decode cX9_doAct 45 = .ok (.iaload, 1) := by decide +kernel
theorem dX9_doAct_46 : decode cX9_doAct 46 = .ok (.iconst 4, 1) := by decide +kernel
theorem dX9_doAct_47 : decode cX9_doAct 47 = .ok (.if_icmp .ne 7, 3) := by decide +kernel
theorem dX9_doAct_50 : decode cX9_doAct 50 = .ok (.iconst 1, 1) := by decide +kernel
theorem dX9_doAct_51 : decode cX9_doAct 51 = .ok (.goto 4, 3) := by decide +kernel
theorem dX9_doAct_54 : decode cX9_doAct 54 = .ok (.iconst 2, 1) := by decide +kernel
theorem dX9_doAct_55 : decode cX9_doAct 55 = .ok (.imul, 1) := by decide +kernel
theorem dX9_doAct_56 : decode cX9_doAct 56 = .ok (.iadd, 1) := by decide +kernel
theorem dX9_doAct_57 : decode cX9_doAct 57 = .ok (.iastore, 1) := by decide +kernel
theorem dX9_doAct_58 : decode cX9_doAct 58 = .ok (.goto 75, 3) := by decide +kernel
theorem dX9_doAct_61 : decode cX9_doAct 61 = .ok (.iload_n 2, 1) := by decide +kernel
theorem dX9_doAct_62 : decode cX9_doAct 62 = .ok (.bipush 10, 2) := by decide +kernel
theorem dX9_doAct_64 : decode cX9_doAct 64 = .ok (.if_icmp .lt 57, 3) := by decide +kernel
theorem dX9_doAct_67 : decode cX9_doAct 67 = .ok (.aload_n 0, 1) := by decide +kernel
theorem dX9_doAct_68 : decode cX9_doAct 68 = .ok (.getfield 22, 3) := by decide +kernel
theorem dX9_doAct_71 : decode cX9_doAct 71 = .ok (.iload_n 1, 1) := by decide +kernel
theorem dX9_doAct_72 : decode cX9_doAct 72 = .ok (.dup2, 1) := by decide +kernel
theorem dX9_doAct_73 : decode cX9_doAct 73 = .ok (.iaload, 1) := by decide +kernel
theorem dX9_doAct_74 : decode cX9_doAct 74 = .ok (.aload_n 0, 1) := by decide +kernel
theorem dX9_doAct_75 : decode cX9_doAct 75 = .ok (.iload_n 1, 1) := by decide +kernel
theorem dX9_doAct_76 : decode cX9_doAct 76 = .ok (.iload_n 2, 1) := by decide +kernel
theorem dX9_doAct_77 : decode cX9_doAct 77 = .ok (.bipush 10, 2) := by decide +kernel
theorem dX9_doAct_79 : decode cX9_doAct 79 = .ok (.isub, 1) := by decide +kernel
theorem dX9_doAct_80 : decode cX9_doAct 80 = .ok (.invokevirtual 193, 3) := by decide +kernel
theorem dX9_doAct_83 : decode cX9_doAct 83 = .ok (.iadd, 1) := by decide +kernel
theorem dX9_doAct_84 : decode cX9_doAct 84 = .ok (.iastore, 1) := by decide +kernel
theorem dX9_doAct_85 : decode cX9_doAct 85 = .ok (.aload_n 0, 1) := by decide +kernel
theorem dX9_doAct_86 : decode cX9_doAct 86 = .ok (.iload_n 1, 1) := by decide +kernel
theorem dX9_doAct_87 : decode cX9_doAct 87 = .ok (.aload_n 0, 1) := by decide +kernel
theorem dX9_doAct_88 : decode cX9_doAct 88 = .ok (.getfield 16, 3) := by decide +kernel
theorem dX9_doAct_91 : decode cX9_doAct 91 = .ok (.iload_n 2, 1) := by decide +kernel
theorem dX9_doAct_92 : decode cX9_doAct 92 = .ok (.bipush 10, 2) := by decide +kernel
theorem dX9_doAct_94 : decode cX9_doAct 94 = .ok (.isub, 1) := by decide +kernel
theorem dX9_doAct_95 : decode cX9_doAct 95 = .ok (.iaload, 1) := by decide +kernel
theorem dX9_doAct_96 : decode cX9_doAct 96 = .ok (.aload_n 0, 1) := by decide +kernel
theorem dX9_doAct_97 : decode cX9_doAct 97 = .ok (.getfield 19, 3) := by decide +kernel
theorem dX9_doAct_100 : decode cX9_doAct 100 = .ok (.iload_n 1, 1) := by decide +kernel
theorem dX9_doAct_101 : decode cX9_doAct 101 = .ok (.iaload, 1) := by decide +kernel
theorem dX9_doAct_102 : decode cX9_doAct 102 = .ok (.aload_n 0, 1) := by decide +kernel
theorem dX9_doAct_103 : decode cX9_doAct 103 = .ok (.getfield 7, 3) := by decide +kernel
theorem dX9_doAct_106 : decode cX9_doAct 106 = .ok (.iload_n 2, 1) := by decide +kernel
theorem dX9_doAct_107 : decode cX9_doAct 107 = .ok (.bipush 10, 2) := by decide +kernel
theorem dX9_doAct_109 : decode cX9_doAct 109 = .ok (.isub, 1) := by decide +kernel
theorem dX9_doAct_110 : decode cX9_doAct 110 = .ok (.iaload, 1) := by decide +kernel
theorem dX9_doAct_111 : decode cX9_doAct 111 = .ok (.invokestatic 187, 3) := by decide +kernel
theorem dX9_doAct_114 : decode cX9_doAct 114 = .ok (.invokevirtual 196, 3) := by decide +kernel
theorem dX9_doAct_117 : decode cX9_doAct 117 = .ok (.pop, 1) := by decide +kernel
theorem dX9_doAct_118 : decode cX9_doAct 118 = .ok (.goto 15, 3) := by decide +kernel
theorem dX9_doAct_121 : decode cX9_doAct 121 = .ok (.iload_n 2, 1) := by decide +kernel
theorem dX9_doAct_122 : decode cX9_doAct 122 = .ok (.iconst 3, 1) := by decide +kernel
theorem dX9_doAct_123 : decode cX9_doAct 123 = .ok (.if_icmp .ge 10, 3) := by decide +kernel
theorem dX9_doAct_126 : decode cX9_doAct 126 = .ok (.aload_n 0, 1) := by decide +kernel
theorem dX9_doAct_127 : decode cX9_doAct 127 = .ok (.iload_n 1, 1) := by decide +kernel
theorem dX9_doAct_128 : decode cX9_doAct 128 = .ok (.iload_n 2, 1) := by decide +kernel
theorem dX9_doAct_129 : decode cX9_doAct 129 = .ok (.iload_n 3, 1) := by decide +kernel
theorem dX9_doAct_130 : decode cX9_doAct 130 = .ok (.invokevirtual 199, 3) := by decide +kernel
theorem dX9_doAct_133 : decode cX9_doAct 133 = .ok (.return_, 1) := by decide +kernel
theorem dX9_serve_0 : decode cX9_serve 0 = .ok (.aload_n 0, 1) := by decide +kernel
theorem dX9_serve_1 : decode cX9_serve 1 = .ok (.getfield 25, 3) := by decide +kernel
theorem dX9_serve_4 : decode cX9_serve 4 = .ok (.iload_n 1, 1) := by decide +kernel
theorem dX9_serve_5 : decode cX9_serve 5 = .ok (.iaload, 1) := by decide +kernel
theorem dX9_serve_6 : decode cX9_serve 6 = .ok (.ifCond .le 14, 3) := by decide +kernel
theorem dX9_serve_9 : decode cX9_serve 9 = .ok (.aload_n 0, 1) := by decide +kernel
theorem dX9_serve_10 : decode cX9_serve 10 = .ok (.getfield 25, 3) := by decide +kernel
theorem dX9_serve_13 : decode cX9_serve 13 = .ok (.iload_n 1, 1) := by decide +kernel
theorem dX9_serve_14 : decode cX9_serve 14 = .ok (.dup2, 1) := by decide +kernel
theorem dX9_serve_15 : decode cX9_serve 15 = .ok (.iaload, 1) := by decide +kernel
theorem dX9_serve_16 : decode cX9_serve 16 = .ok (.iconst 1, 1) := by decide +kernel
theorem dX9_serve_17 : decode cX9_serve 17 = .ok (.isub, 1) := by decide +kernel
theorem dX9_serve_18 : decode cX9_serve 18 = .ok (.iastore, 1) := by decide +kernel
theorem dX9_serve_19 : decode cX9_serve 19 = .ok (.return_, 1) := by decide +kernel
theorem dX9_serve_20 : decode cX9_serve 20 = .ok (.aload_n 0, 1) := by decide +kernel
theorem dX9_serve_21 : decode cX9_serve 21 = .ok (.iload_n 1, 1) := by decide +kernel
theorem dX9_serve_22 : decode cX9_serve 22 = .ok (.iconst 4, 1) := by decide +kernel
theorem dX9_serve_23 : decode cX9_serve 23 = .ok (.iload_n 3, 1) := by decide +kernel
theorem dX9_serve_24 : decode cX9_serve 24 = .ok (.imul, 1) := by decide +kernel
theorem dX9_serve_25 : decode cX9_serve 25 = .ok (.iload_n 2, 1) := by decide +kernel
theorem dX9_serve_26 : decode cX9_serve 26 = .ok (.iadd, 1) := by decide +kernel
theorem dX9_serve_27 : decode cX9_serve 27 = .ok (.invokevirtual 203, 3) := by decide +kernel
theorem dX9_serve_30 : decode cX9_serve 30 = .ok (.pop, 1) := by decide +kernel
theorem dX9_serve_31 : decode cX9_serve 31 = .ok (.aload_n 0, 1) := by decide +kernel
theorem dX9_serve_32 : decode cX9_serve 32 = .ok (.getfield 19, 3) := by decide +kernel
theorem dX9_serve_35 : decode cX9_serve 35 = .ok (.iload_n 1, 1) := by decide +kernel
theorem dX9_serve_36 : decode cX9_serve 36 = .ok (.iaload, 1) := by decide +kernel
theorem dX9_serve_37 : decode cX9_serve 37 = .ok (.iconst 2, 1) := by decide +kernel
theorem dX9_serve_38 : decode cX9_serve 38 = .ok (.if_icmp .ne 14, 3) := by decide +kernel
theorem dX9_serve_41 : decode cX9_serve 41 = .ok (.aload_n 0, 1) := by decide +kernel
theorem dX9_serve_42 : decode cX9_serve 42 = .ok (.iload_n 1, 1) := by decide +kernel
theorem dX9_serve_43 : decode cX9_serve 43 = .ok (.iconst 4, 1) := by decide +kernel
theorem dX9_serve_44 : decode cX9_serve 44 = .ok (.iload_n 3, 1) := by decide +kernel
theorem dX9_serve_45 : decode cX9_serve 45 = .ok (.imul, 1) := by decide +kernel
theorem dX9_serve_46 : decode cX9_serve 46 = .ok (.iload_n 2, 1) := by decide +kernel
theorem dX9_serve_47 : decode cX9_serve 47 = .ok (.iadd, 1) := by decide +kernel
theorem dX9_serve_48 : decode cX9_serve 48 = .ok (.invokevirtual 203, 3) := by decide +kernel
theorem dX9_serve_51 : decode cX9_serve 51 = .ok (.pop, 1) := by decide +kernel
theorem dX9_serve_52 : decode cX9_serve 52 = .ok (.return_, 1) := by decide +kernel
theorem dX9_mayNow_0 : decode cX9_mayNow 0 = .ok (.aload_n 0, 1) := by decide +kernel
theorem dX9_mayNow_1 : decode cX9_mayNow 1 = .ok (.getfield 28, 3) := by decide +kernel
theorem dX9_mayNow_4 : decode cX9_mayNow 4 = .ok (.iload_n 1, 1) := by decide +kernel
theorem dX9_mayNow_5 : decode cX9_mayNow 5 = .ok (.iaload, 1) := by decide +kernel
theorem dX9_mayNow_6 : decode cX9_mayNow 6 = .ok (.ifCond .ne 16, 3) := by decide +kernel
theorem dX9_mayNow_9 : decode cX9_mayNow 9 = .ok (.aload_n 0, 1) := by decide +kernel
theorem dX9_mayNow_10 : decode cX9_mayNow 10 = .ok (.iload_n 1, 1) := by decide +kernel
theorem dX9_mayNow_11 : decode cX9_mayNow 11 = .ok (.iload_n 2, 1) := by decide +kernel
theorem dX9_mayNow_12 : decode cX9_mayNow 12 = .ok (.invokevirtual 206, 3) := by decide +kernel
theorem dX9_mayNow_15 : decode cX9_mayNow 15 = .ok (.ifCond .eq 7, 3) := by decide +kernel
theorem dX9_mayNow_18 : decode cX9_mayNow 18 = .ok (.iconst 1, 1) := by decide +kernel
theorem dX9_mayNow_19 : decode cX9_mayNow 19 = .ok (.goto 4, 3) := by decide +kernel
theorem dX9_mayNow_22 : decode cX9_mayNow 22 = .ok (.iconst 0, 1) := by decide +kernel
theorem dX9_mayNow_23 : decode cX9_mayNow 23 = .ok (.ireturn, 1) := by decide +kernel
theorem dX9_may_0 : decode cX9_may 0 = .ok (.aload_n 0, 1) := by decide +kernel
theorem dX9_may_1 : decode cX9_may 1 = .ok (.iload_n 1, 1) := by decide +kernel
theorem dX9_may_2 : decode cX9_may 2 = .ok (.invokevirtual 209, 3) := by decide +kernel
theorem dX9_may_5 : decode cX9_may 5 = .ok (.ifCond .eq 10, 3) := by decide +kernel
theorem dX9_may_8 : decode cX9_may 8 = .ok (.iload_n 2, 1) := by decide +kernel
theorem dX9_may_9 : decode cX9_may 9 = .ok (.invokestatic 212, 3) := by decide +kernel
theorem dX9_may_12 : decode cX9_may 12 = .ok (.ifCond .ne 6, 3) := by decide +kernel
theorem dX9_may_15 : decode cX9_may 15 = .ok (.bipush (-101), 2) := by decide +kernel
theorem dX9_may_17 : decode cX9_may 17 = .ok (.ireturn, 1) := by decide +kernel
theorem dX9_may_18 : decode cX9_may 18 = .ok (.aload_n 0, 1) := by decide +kernel
theorem dX9_may_19 : decode cX9_may 19 = .ok (.iload_n 1, 1) := by decide +kernel
theorem dX9_may_20 : decode cX9_may 20 = .ok (.iload_n 2, 1) := by decide +kernel
theorem dX9_may_21 : decode cX9_may 21 = .ok (.invokevirtual 215, 3) := by decide +kernel
theorem dX9_may_24 : decode cX9_may 24 = .ok (.ifCond .eq 7, 3) := by decide +kernel
theorem dX9_may_27 : decode cX9_may 27 = .ok (.iconst 1, 1) := by decide +kernel
theorem dX9_may_28 : decode cX9_may 28 = .ok (.goto 4, 3) := by decide +kernel
theorem dX9_may_31 : decode cX9_may 31 = .ok (.iconst 0, 1) := by decide +kernel
theorem dX9_may_32 : decode cX9_may 32 = .ok (.ireturn, 1) := by decide +kernel
theorem dX9_act_0 : decode cX9_act 0 = .ok (.aload_n 0, 1) := by decide +kernel
theorem dX9_act_1 : decode cX9_act 1 = .ok (.iload_n 1, 1) := by decide +kernel
theorem dX9_act_2 : decode cX9_act 2 = .ok (.invokevirtual 209, 3) := by decide +kernel
theorem dX9_act_5 : decode cX9_act 5 = .ok (.ifCond .eq 10, 3) := by decide +kernel
theorem dX9_act_8 : decode cX9_act 8 = .ok (.iload_n 2, 1) := by decide +kernel
theorem dX9_act_9 : decode cX9_act 9 = .ok (.invokestatic 212, 3) := by decide +kernel
theorem dX9_act_12 : decode cX9_act 12 = .ok (.ifCond .ne 6, 3) := by decide +kernel
theorem dX9_act_15 : decode cX9_act 15 = .ok (.bipush (-101), 2) := by decide +kernel
theorem dX9_act_17 : decode cX9_act 17 = .ok (.ireturn, 1) := by decide +kernel
theorem dX9_act_18 : decode cX9_act 18 = .ok (.aload_n 0, 1) := by decide +kernel
theorem dX9_act_19 : decode cX9_act 19 = .ok (.iload_n 1, 1) := by decide +kernel
theorem dX9_act_20 : decode cX9_act 20 = .ok (.iload_n 2, 1) := by decide +kernel
theorem dX9_act_21 : decode cX9_act 21 = .ok (.invokevirtual 215, 3) := by decide +kernel
theorem dX9_act_24 : decode cX9_act 24 = .ok (.ifCond .ne 6, 3) := by decide +kernel
theorem dX9_act_27 : decode cX9_act 27 = .ok (.bipush (-103), 2) := by decide +kernel
theorem dX9_act_29 : decode cX9_act 29 = .ok (.ireturn, 1) := by decide +kernel
theorem dX9_act_30 : decode cX9_act 30 = .ok (.aload_n 0, 1) := by decide +kernel
theorem dX9_act_31 : decode cX9_act 31 = .ok (.iload_n 1, 1) := by decide +kernel
theorem dX9_act_32 : decode cX9_act 32 = .ok (.iload_n 2, 1) := by decide +kernel
theorem dX9_act_33 : decode cX9_act 33 = .ok (.aload_n 0, 1) := by decide +kernel
theorem dX9_act_34 : decode cX9_act 34 = .ok (.getfield 171, 3) := by decide +kernel
theorem dX9_act_37 : decode cX9_act 37 = .ok (.invokevirtual 218, 3) := by decide +kernel
theorem dX9_act_40 : decode cX9_act 40 = .ok (.aload_n 0, 1) := by decide +kernel
theorem dX9_act_41 : decode cX9_act 41 = .ok (.getfield 28, 3) := by decide +kernel
theorem dX9_act_44 : decode cX9_act 44 = .ok (.iload_n 1, 1) := by decide +kernel
theorem dX9_act_45 : decode cX9_act 45 = .ok (.iconst 1, 1) := by decide +kernel
theorem dX9_act_46 : decode cX9_act 46 = .ok (.iastore, 1) := by decide +kernel
theorem dX9_act_47 : decode cX9_act 47 = .ok (.aload_n 0, 1) := by decide +kernel
theorem dX9_act_48 : decode cX9_act 48 = .ok (.getfield 22, 3) := by decide +kernel
theorem dX9_act_51 : decode cX9_act 51 = .ok (.iload_n 1, 1) := by decide +kernel
theorem dX9_act_52 : decode cX9_act 52 = .ok (.iaload, 1) := by decide +kernel
theorem dX9_act_53 : decode cX9_act 53 = .ok (.ireturn, 1) := by decide +kernel
theorem dX9_goWeek_0 : decode cX9_goWeek 0 = .ok (.aload_n 0, 1) := by decide +kernel
theorem dX9_goWeek_1 : decode cX9_goWeek 1 = .ok (.dup, 1) := by decide +kernel
theorem dX9_goWeek_2 : decode cX9_goWeek 2 = .ok (.getfield 171, 3) := by decide +kernel
theorem dX9_goWeek_5 : decode cX9_goWeek 5 = .ok (.iconst 1, 1) := by decide +kernel
theorem dX9_goWeek_6 : decode cX9_goWeek 6 = .ok (.iadd, 1) := by decide +kernel
theorem dX9_goWeek_7 : decode cX9_goWeek 7 = .ok (.putfield 171, 3) := by decide +kernel
theorem dX9_goWeek_10 : decode cX9_goWeek 10 = .ok (.iconst 0, 1) := by decide +kernel
theorem dX9_goWeek_11 : decode cX9_goWeek 11 = .ok (.istore_n 1, 1) := by decide +kernel
theorem dX9_goWeek_12 : decode cX9_goWeek 12 = .ok (.iload_n 1, 1) := by decide +kernel
theorem dX9_goWeek_13 : decode cX9_goWeek 13 = .ok (.aload_n 0, 1) := by decide +kernel
theorem dX9_goWeek_14 : decode cX9_goWeek 14 = .ok (.getfield 168, 3) := by decide +kernel
theorem dX9_goWeek_17 : decode cX9_goWeek 17 = .ok (.if_icmp .ge 16, 3) := by decide +kernel
theorem dX9_goWeek_20 : decode cX9_goWeek 20 = .ok (.aload_n 0, 1) := by decide +kernel
theorem dX9_goWeek_21 : decode cX9_goWeek 21 = .ok (.getfield 28, 3) := by decide +kernel
theorem dX9_goWeek_24 : decode cX9_goWeek 24 = .ok (.iload_n 1, 1) := by decide +kernel
theorem dX9_goWeek_25 : decode cX9_goWeek 25 = .ok (.iconst 0, 1) := by decide +kernel
theorem dX9_goWeek_26 : decode cX9_goWeek 26 = .ok (.iastore, 1) := by decide +kernel
theorem dX9_goWeek_27 : decode cX9_goWeek 27 = .ok (.iinc 1 1, 3) := by decide +kernel
theorem dX9_goWeek_30 : decode cX9_goWeek 30 = .ok (.goto (-18), 3) := by decide +kernel
theorem dX9_goWeek_33 : decode cX9_goWeek 33 = .ok (.aload_n 0, 1) := by decide +kernel
theorem dX9_goWeek_34 : decode cX9_goWeek 34 = .ok (.invokevirtual 158, 3) := by decide +kernel
theorem dX9_goWeek_37 : decode cX9_goWeek 37 = .ok (.return_, 1) := by decide +kernel
theorem dX9_week_0 : decode cX9_week 0 = .ok (.aload_n 0, 1) := by decide +kernel
theorem dX9_week_1 : decode cX9_week 1 = .ok (.invokevirtual 221, 3) := by decide +kernel
theorem dX9_week_4 : decode cX9_week 4 = .ok (.aload_n 0, 1) := by decide +kernel
theorem dX9_week_5 : decode cX9_week 5 = .ok (.getfield 171, 3) := by decide +kernel
theorem dX9_week_8 : decode cX9_week 8 = .ok (.ireturn, 1) := by decide +kernel
theorem dX9_sell_0 : decode cX9_sell 0 = .ok (.aload_n 0, 1) := by decide +kernel
theorem dX9_sell_1 : decode cX9_sell 1 = .ok (.iload_n 1, 1) := by decide +kernel
theorem dX9_sell_2 : decode cX9_sell 2 = .ok (.invokevirtual 209, 3) := by decide +kernel
theorem dX9_sell_5 : decode cX9_sell 5 = .ok (.ifCond .eq 25, 3) := by decide +kernel
theorem dX9_sell_8 : decode cX9_sell 8 = .ok (.aload_n 0, 1) := by decide +kernel
theorem dX9_sell_9 : decode cX9_sell 9 = .ok (.iload_n 2, 1) := by decide +kernel
theorem dX9_sell_10 : decode cX9_sell 10 = .ok (.invokevirtual 209, 3) := by decide +kernel
theorem dX9_sell_13 : decode cX9_sell 13 = .ok (.ifCond .eq 17, 3) := by decide +kernel
theorem dX9_sell_16 : decode cX9_sell 16 = .ok (.iload_n 1, 1) := by decide +kernel
theorem dX9_sell_17 : decode cX9_sell 17 = .ok (.iload_n 2, 1) := by decide +kernel
theorem dX9_sell_18 : decode cX9_sell 18 = .ok (.if_icmp .eq 12, 3) := by decide +kernel
theorem dX9_sell_21 : decode cX9_sell 21 = .ok (.iload_n 3, 1) := by decide +kernel
theorem dX9_sell_22 : decode cX9_sell 22 = .ok (.iconst 0, 1) := by decide +kernel
theorem dX9_sell_23 : decode cX9_sell 23 = .ok (.iconst 2, 1) := by decide +kernel
theorem dX9_sell_24 : decode cX9_sell 24 = .ok (.invokestatic 111, 3) := by decide +kernel
theorem dX9_sell_27 : decode cX9_sell 27 = .ok (.ifCond .ne 6, 3) := by decide +kernel
theorem dX9_sell_30 : decode cX9_sell 30 = .ok (.bipush (-101), 2) := by decide +kernel
theorem dX9_sell_32 : decode cX9_sell 32 = .ok (.ireturn, 1) := by decide +kernel
theorem dX9_sell_33 : decode cX9_sell 33 = .ok (.aload_n 0, 1) := by decide +kernel
theorem dX9_sell_34 : decode cX9_sell 34 = .ok (.iload_n 1, 1) := by decide +kernel
theorem dX9_sell_35 : decode cX9_sell 35 = .ok (.iconst 1, 1) := by decide +kernel
theorem dX9_sell_36 : decode cX9_sell 36 = .ok (.iload_n 3, 1) := by decide +kernel
theorem dX9_sell_37 : decode cX9_sell 37 = .ok (.ishl, 1) := by decide +kernel
theorem dX9_sell_38 : decode cX9_sell 38 = .ok (.invokevirtual 181, 3) := by decide +kernel
theorem dX9_sell_41 : decode cX9_sell 41 = .ok (.ifCond .ne 6, 3) := by decide +kernel
theorem dX9_sell_44 : decode cX9_sell 44 = .ok (.bipush (-103), 2) := by decide +kernel
theorem dX9_sell_46 : decode cX9_sell 46 = .ok (.ireturn, 1) := by decide +kernel
theorem dX9_sell_47 : decode cX9_sell 47 = .ok (.aload_n 0, 1) := by decide +kernel
theorem dX9_sell_48 : decode cX9_sell 48 = .ok (.getfield 34, 3) := by decide +kernel
theorem dX9_sell_51 : decode cX9_sell 51 = .ok (.iload_n 2, 1) := by decide +kernel
theorem dX9_sell_52 : decode cX9_sell 52 = .ok (.iaload, 1) := by decide +kernel
theorem dX9_sell_53 : decode cX9_sell 53 = .ok (.bipush 12, 2) := by decide +kernel
theorem dX9_sell_55 : decode cX9_sell 55 = .ok (.if_icmp .ne 6, 3) := by decide +kernel
theorem dX9_sell_58 : decode cX9_sell 58 = .ok (.bipush (-104), 2) := by decide +kernel
theorem dX9_sell_60 : decode cX9_sell 60 = .ok (.ireturn, 1) := by decide +kernel
theorem dX9_sell_61 : decode cX9_sell 61 = .ok (.aload_n 0, 1) := by decide +kernel
theorem dX9_sell_62 : decode cX9_sell 62 = .ok (.iload_n 1, 1) := by decide +kernel
theorem dX9_sell_63 : decode cX9_sell 63 = .ok (.iconst 1, 1) := by decide +kernel
theorem dX9_sell_64 : decode cX9_sell 64 = .ok (.iload_n 3, 1) := by decide +kernel
theorem dX9_sell_65 : decode cX9_sell 65 = .ok (.ishl, 1) := by decide +kernel
theorem dX9_sell_66 : decode cX9_sell 66 = .ok (.iconst 1, 1) := by decide +kernel
theorem dX9_sell_67 : decode cX9_sell 67 = .ok (.invokevirtual 196, 3) := by decide +kernel
theorem dX9_sell_70 : decode cX9_sell 70 = .ok (.istore 4, 2) := by decide +kernel
theorem dX9_sell_72 : decode cX9_sell 72 = .ok (.aload_n 0, 1) := by decide +kernel
theorem dX9_sell_73 : decode cX9_sell 73 = .ok (.iload_n 2, 1) := by decide +kernel
theorem dX9_sell_74 : decode cX9_sell 74 = .ok (.iload 4, 2) := by decide +kernel
theorem dX9_sell_76 : decode cX9_sell 76 = .ok (.invokevirtual 203, 3) := by decide +kernel
theorem dX9_sell_79 : decode cX9_sell 79 = .ok (.pop, 1) := by decide +kernel
theorem dX9_sell_80 : decode cX9_sell 80 = .ok (.iload 4, 2) := by decide +kernel
theorem dX9_sell_82 : decode cX9_sell 82 = .ok (.iconst 4, 1) := by decide +kernel
theorem dX9_sell_83 : decode cX9_sell 83 = .ok (.idiv, 1) := by decide +kernel
theorem dX9_sell_84 : decode cX9_sell 84 = .ok (.ireturn, 1) := by decide +kernel
theorem dX9_leave_0 : decode cX9_leave 0 = .ok (.aload_n 0, 1) := by decide +kernel
theorem dX9_leave_1 : decode cX9_leave 1 = .ok (.iload_n 1, 1) := by decide +kernel
theorem dX9_leave_2 : decode cX9_leave 2 = .ok (.invokevirtual 209, 3) := by decide +kernel
theorem dX9_leave_5 : decode cX9_leave 5 = .ok (.ifCond .eq 16, 3) := by decide +kernel
theorem dX9_leave_8 : decode cX9_leave 8 = .ok (.aload_n 0, 1) := by decide +kernel
theorem dX9_leave_9 : decode cX9_leave 9 = .ok (.iload_n 2, 1) := by decide +kernel
theorem dX9_leave_10 : decode cX9_leave 10 = .ok (.invokevirtual 209, 3) := by decide +kernel
theorem dX9_leave_13 : decode cX9_leave 13 = .ok (.ifCond .eq 8, 3) := by decide +kernel
theorem dX9_leave_16 : decode cX9_leave 16 = .ok (.iload_n 1, 1) := by decide +kernel
theorem dX9_leave_17 : decode cX9_leave 17 = .ok (.iload_n 2, 1) := by decide +kernel
theorem dX9_leave_18 : decode cX9_leave 18 = .ok (.if_icmp .ne 6, 3) := by decide +kernel
theorem dX9_leave_21 : decode cX9_leave 21 = .ok (.bipush (-101), 2) := by decide +kernel
theorem dX9_leave_23 : decode cX9_leave 23 = .ok (.ireturn, 1) := by decide +kernel
theorem dX9_leave_24 : decode cX9_leave 24 = .ok (.iconst 0, 1) := by decide +kernel
theorem dX9_leave_25 : decode cX9_leave 25 = .ok (.istore_n 3, 1) := by decide +kernel
theorem dX9_leave_26 : decode cX9_leave 26 = .ok (.iconst 0, 1) := by decide +kernel
theorem dX9_leave_27 : decode cX9_leave 27 = .ok (.istore 4, 2) := by decide +kernel
theorem dX9_leave_29 : decode cX9_leave 29 = .ok (.iload 4, 2) := by decide +kernel
theorem dX9_leave_31 : decode cX9_leave 31 = .ok (.aload_n 0, 1) := by decide +kernel
theorem dX9_leave_32 : decode cX9_leave 32 = .ok (.getfield 34, 3) := by decide +kernel
theorem dX9_leave_35 : decode cX9_leave 35 = .ok (.iload_n 1, 1) := by decide +kernel
theorem dX9_leave_36 : decode cX9_leave 36 = .ok (.iaload, 1) := by decide +kernel
theorem dX9_leave_37 : decode cX9_leave 37 = .ok (.if_icmp .ge 37, 3) := by decide +kernel
theorem dX9_leave_40 : decode cX9_leave 40 = .ok (.iload_n 3, 1) := by decide +kernel
theorem dX9_leave_41 : decode cX9_leave 41 = .ok (.aload_n 0, 1) := by decide +kernel
theorem dX9_leave_42 : decode cX9_leave 42 = .ok (.iload_n 2, 1) := by decide +kernel
theorem dX9_leave_43 : decode cX9_leave 43 = .ok (.aload_n 0, 1) := by decide +kernel
theorem dX9_leave_44 : decode cX9_leave 44 = .ok (.getfield 37, 3) := by decide +kernel
theorem dX9_leave_47 : decode cX9_leave 47 = .ok (.bipush 12, 2) := by decide +kernel
theorem dX9_leave_49 : decode cX9_leave 49 = .ok (.iload_n 1, 1) := by decide +kernel
theorem dX9_leave_50 : decode cX9_leave 50 = .ok (.imul, 1) := by decide +kernel
theorem dX9_leave_51 : decode cX9_leave 51 = .ok (.iload 4, 2) := by decide +kernel
theorem dX9_leave_53 : decode cX9_leave 53 = .ok (.iadd, 1) := by decide +kernel
theorem dX9_leave_54 : decode cX9_leave 54 = .ok (.iaload, 1) := by decide +kernel
theorem dX9_leave_55 : decode cX9_leave 55 = .ok (.invokevirtual 203, 3) := by decide +kernel
theorem dX9_leave_58 : decode cX9_leave 58 = .ok (.ifCond .eq 7, 3) := by decide +kernel
theorem dX9_leave_61 : decode cX9_leave 61 = .ok (.iconst 1, 1) := by decide +kernel
theorem dX9_leave_62 : decode cX9_leave 62 = .ok (.goto 4, 3) := by decide +kernel
theorem dX9_leave_65 : decode cX9_leave 65 = .ok (.iconst 0, 1) := by decide +kernel
theorem dX9_leave_66 : decode cX9_leave 66 = .ok (.iadd, 1) := by decide +kernel
theorem dX9_leave_67 : decode cX9_leave 67 = .ok (.istore_n 3, 1) := by decide +kernel
theorem dX9_leave_68 : decode cX9_leave 68 = .ok (.iinc 4 1, 3) := by decide +kernel
theorem dX9_leave_71 : decode cX9_leave 71 = .ok (.goto (-42), 3) := by decide +kernel
theorem dX9_leave_74 : decode cX9_leave 74 = .ok (.aload_n 0, 1) := by decide +kernel
theorem dX9_leave_75 : decode cX9_leave 75 = .ok (.getfield 34, 3) := by decide +kernel
theorem dX9_leave_78 : decode cX9_leave 78 = .ok (.iload_n 1, 1) := by decide +kernel
theorem dX9_leave_79 : decode cX9_leave 79 = .ok (.iconst 0, 1) := by decide +kernel
theorem dX9_leave_80 : decode cX9_leave 80 = .ok (.iastore, 1) := by decide +kernel
theorem dX9_leave_81 : decode cX9_leave 81 = .ok (.aload_n 0, 1) := by decide +kernel
theorem dX9_leave_82 : decode cX9_leave 82 = .ok (.getfield 25, 3) := by decide +kernel
theorem dX9_leave_85 : decode cX9_leave 85 = .ok (.iload_n 1, 1) := by decide +kernel
theorem dX9_leave_86 : decode cX9_leave 86 = .ok (.iconst 0, 1) := by decide +kernel
theorem dX9_leave_87 : decode cX9_leave 87 = .ok (.iastore, 1) := by decide +kernel
theorem dX9_leave_88 : decode cX9_leave 88 = .ok (.aload_n 0, 1) := by decide +kernel
theorem dX9_leave_89 : decode cX9_leave 89 = .ok (.getfield 31, 3) := by decide +kernel
theorem dX9_leave_92 : decode cX9_leave 92 = .ok (.iload_n 1, 1) := by decide +kernel
theorem dX9_leave_93 : decode cX9_leave 93 = .ok (.iconst 1, 1) := by decide +kernel
theorem dX9_leave_94 : decode cX9_leave 94 = .ok (.iastore, 1) := by decide +kernel
theorem dX9_leave_95 : decode cX9_leave 95 = .ok (.iload_n 3, 1) := by decide +kernel
theorem dX9_leave_96 : decode cX9_leave 96 = .ok (.ireturn, 1) := by decide +kernel
theorem dX9_owesAll_0 : decode cX9_owesAll 0 = .ok (.iconst 0, 1) := by decide +kernel
theorem dX9_owesAll_1 : decode cX9_owesAll 1 = .ok (.istore_n 1, 1) := by decide +kernel
theorem dX9_owesAll_2 : decode cX9_owesAll 2 = .ok (.iconst 0, 1) := by decide +kernel
theorem dX9_owesAll_3 : decode cX9_owesAll 3 = .ok (.istore_n 2, 1) := by decide +kernel
theorem dX9_owesAll_4 : decode cX9_owesAll 4 = .ok (.iload_n 2, 1) := by decide +kernel
theorem dX9_owesAll_5 : decode cX9_owesAll 5 = .ok (.aload_n 0, 1) := by decide +kernel
theorem dX9_owesAll_6 : decode cX9_owesAll 6 = .ok (.getfield 168, 3) := by decide +kernel
theorem dX9_owesAll_9 : decode cX9_owesAll 9 = .ok (.if_icmp .ge 18, 3) := by decide +kernel
theorem dX9_owesAll_12 : decode cX9_owesAll 12 = .ok (.iload_n 1, 1) := by decide +kernel
theorem dX9_owesAll_13 : decode cX9_owesAll 13 = .ok (.aload_n 0, 1) := by decide +kernel
theorem dX9_owesAll_14 : decode cX9_owesAll 14 = .ok (.getfield 25, 3) := by decide +kernel
theorem dX9_owesAll_17 : decode cX9_owesAll 17 = .ok (.iload_n 2, 1) := by decide +kernel
theorem dX9_owesAll_18 : decode cX9_owesAll 18 = .ok (.iaload, 1) := by decide +kernel
theorem dX9_owesAll_19 : decode cX9_owesAll 19 = .ok (.iadd, 1) := by decide +kernel
theorem dX9_owesAll_20 : decode cX9_owesAll 20 = .ok (.istore_n 1, 1) := by decide +kernel
theorem dX9_owesAll_21 : decode cX9_owesAll 21 = .ok (.iinc 2 1, 3) := by decide +kernel
theorem dX9_owesAll_24 : decode cX9_owesAll 24 = .ok (.goto (-20), 3) := by decide +kernel
theorem dX9_owesAll_27 : decode cX9_owesAll 27 = .ok (.iload_n 1, 1) := by decide +kernel
theorem dX9_owesAll_28 : decode cX9_owesAll 28 = .ok (.ireturn, 1) := by decide +kernel
theorem dX9_amnesty_0 : decode cX9_amnesty 0 = .ok (.aload_n 0, 1) := by decide +kernel
theorem dX9_amnesty_1 : decode cX9_amnesty 1 = .ok (.invokevirtual 224, 3) := by decide +kernel
theorem dX9_amnesty_4 : decode cX9_amnesty 4 = .ok (.istore_n 1, 1) := by decide +kernel
theorem dX9_amnesty_5 : decode cX9_amnesty 5 = .ok (.iconst 0, 1) := by decide +kernel
theorem dX9_amnesty_6 : decode cX9_amnesty 6 = .ok (.istore_n 2, 1) := by decide +kernel
theorem dX9_amnesty_7 : decode cX9_amnesty 7 = .ok (.iload_n 2, 1) := by decide +kernel
theorem dX9_amnesty_8 : decode cX9_amnesty 8 = .ok (.aload_n 0, 1) := by decide +kernel
theorem dX9_amnesty_9 : decode cX9_amnesty 9 = .ok (.getfield 168, 3) := by decide +kernel
theorem dX9_amnesty_12 : decode cX9_amnesty 12 = .ok (.if_icmp .ge 16, 3) := by decide +kernel
theorem dX9_amnesty_15 : decode cX9_amnesty 15 = .ok (.aload_n 0, 1) := by decide +kernel
theorem dX9_amnesty_16 : decode cX9_amnesty 16 = .ok (.getfield 25, 3) := by decide +kernel
theorem dX9_amnesty_19 : decode cX9_amnesty 19 = .ok (.iload_n 2, 1) := by decide +kernel
theorem dX9_amnesty_20 : decode cX9_amnesty 20 = .ok (.iconst 0, 1) := by decide +kernel
theorem dX9_amnesty_21 : decode cX9_amnesty 21 = .ok (.iastore, 1) := by decide +kernel
theorem dX9_amnesty_22 : decode cX9_amnesty 22 = .ok (.iinc 2 1, 3) := by decide +kernel
theorem dX9_amnesty_25 : decode cX9_amnesty 25 = .ok (.goto (-18), 3) := by decide +kernel
theorem dX9_amnesty_28 : decode cX9_amnesty 28 = .ok (.iload_n 1, 1) := by decide +kernel
theorem dX9_amnesty_29 : decode cX9_amnesty 29 = .ok (.ireturn, 1) := by decide +kernel
theorem dX9_copy_0 : decode cX9_copy 0 = .ok (.aload_n 0, 1) := by decide +kernel
theorem dX9_copy_1 : decode cX9_copy 1 = .ok (.getfield 19, 3) := by decide +kernel
theorem dX9_copy_4 : decode cX9_copy 4 = .ok (.iload_n 2, 1) := by decide +kernel
theorem dX9_copy_5 : decode cX9_copy 5 = .ok (.aload_n 0, 1) := by decide +kernel
theorem dX9_copy_6 : decode cX9_copy 6 = .ok (.getfield 19, 3) := by decide +kernel
theorem dX9_copy_9 : decode cX9_copy 9 = .ok (.iload_n 1, 1) := by decide +kernel
theorem dX9_copy_10 : decode cX9_copy 10 = .ok (.iaload, 1) := by decide +kernel
theorem dX9_copy_11 : decode cX9_copy 11 = .ok (.iastore, 1) := by decide +kernel
theorem dX9_copy_12 : decode cX9_copy 12 = .ok (.aload_n 0, 1) := by decide +kernel
theorem dX9_copy_13 : decode cX9_copy 13 = .ok (.getfield 22, 3) := by decide +kernel
theorem dX9_copy_16 : decode cX9_copy 16 = .ok (.iload_n 2, 1) := by decide +kernel
theorem dX9_copy_17 : decode cX9_copy 17 = .ok (.aload_n 0, 1) := by decide +kernel
theorem dX9_copy_18 : decode cX9_copy 18 = .ok (.getfield 22, 3) := by decide +kernel
theorem dX9_copy_21 : decode cX9_copy 21 = .ok (.iload_n 1, 1) := by decide +kernel
theorem dX9_copy_22 : decode cX9_copy 22 = .ok (.iaload, 1) := by decide +kernel
theorem dX9_copy_23 : decode cX9_copy 23 = .ok (.iastore, 1) := by decide +kernel
theorem dX9_copy_24 : decode cX9_copy 24 = .ok (.aload_n 0, 1) := by decide +kernel
theorem dX9_copy_25 : decode cX9_copy 25 = .ok (.getfield 25, 3) := by decide +kernel
theorem dX9_copy_28 : decode cX9_copy 28 = .ok (.iload_n 2, 1) := by decide +kernel
theorem dX9_copy_29 : decode cX9_copy 29 = .ok (.aload_n 0, 1) := by decide +kernel
theorem dX9_copy_30 : decode cX9_copy 30 = .ok (.getfield 25, 3) := by decide +kernel
theorem dX9_copy_33 : decode cX9_copy 33 = .ok (.iload_n 1, 1) := by decide +kernel
theorem dX9_copy_34 : decode cX9_copy 34 = .ok (.iaload, 1) := by decide +kernel
theorem dX9_copy_35 : decode cX9_copy 35 = .ok (.iastore, 1) := by decide +kernel
theorem dX9_copy_36 : decode cX9_copy 36 = .ok (.aload_n 0, 1) := by decide +kernel
theorem dX9_copy_37 : decode cX9_copy 37 = .ok (.getfield 34, 3) := by decide +kernel
theorem dX9_copy_40 : decode cX9_copy 40 = .ok (.iload_n 2, 1) := by decide +kernel
theorem dX9_copy_41 : decode cX9_copy 41 = .ok (.aload_n 0, 1) := by decide +kernel
theorem dX9_copy_42 : decode cX9_copy 42 = .ok (.getfield 34, 3) := by decide +kernel
theorem dX9_copy_45 : decode cX9_copy 45 = .ok (.iload_n 1, 1) := by decide +kernel
theorem dX9_copy_46 : decode cX9_copy 46 = .ok (.iaload, 1) := by decide +kernel
theorem dX9_copy_47 : decode cX9_copy 47 = .ok (.iastore, 1) := by decide +kernel
theorem dX9_copy_48 : decode cX9_copy 48 = .ok (.iconst 0, 1) := by decide +kernel
theorem dX9_copy_49 : decode cX9_copy 49 = .ok (.istore_n 3, 1) := by decide +kernel
theorem dX9_copy_50 : decode cX9_copy 50 = .ok (.iload_n 3, 1) := by decide +kernel
theorem dX9_copy_51 : decode cX9_copy 51 = .ok (.bipush 12, 2) := by decide +kernel
theorem dX9_copy_53 : decode cX9_copy 53 = .ok (.if_icmp .ge 31, 3) := by decide +kernel
theorem dX9_copy_56 : decode cX9_copy 56 = .ok (.aload_n 0, 1) := by decide +kernel
theorem dX9_copy_57 : decode cX9_copy 57 = .ok (.getfield 37, 3) := by decide +kernel
theorem dX9_copy_60 : decode cX9_copy 60 = .ok (.bipush 12, 2) := by decide +kernel
theorem dX9_copy_62 : decode cX9_copy 62 = .ok (.iload_n 2, 1) := by decide +kernel
theorem dX9_copy_63 : decode cX9_copy 63 = .ok (.imul, 1) := by decide +kernel
theorem dX9_copy_64 : decode cX9_copy 64 = .ok (.iload_n 3, 1) := by decide +kernel
theorem dX9_copy_65 : decode cX9_copy 65 = .ok (.iadd, 1) := by decide +kernel
theorem dX9_copy_66 : decode cX9_copy 66 = .ok (.aload_n 0, 1) := by decide +kernel
theorem dX9_copy_67 : decode cX9_copy 67 = .ok (.getfield 37, 3) := by decide +kernel
theorem dX9_copy_70 : decode cX9_copy 70 = .ok (.bipush 12, 2) := by decide +kernel
theorem dX9_copy_72 : decode cX9_copy 72 = .ok (.iload_n 1, 1) := by decide +kernel
theorem dX9_copy_73 : decode cX9_copy 73 = .ok (.imul, 1) := by decide +kernel
theorem dX9_copy_74 : decode cX9_copy 74 = .ok (.iload_n 3, 1) := by decide +kernel
theorem dX9_copy_75 : decode cX9_copy 75 = .ok (.iadd, 1) := by decide +kernel
theorem dX9_copy_76 : decode cX9_copy 76 = .ok (.iaload, 1) := by decide +kernel
theorem dX9_copy_77 : decode cX9_copy 77 = .ok (.iastore, 1) := by decide +kernel
theorem dX9_copy_78 : decode cX9_copy 78 = .ok (.iinc 3 1, 3) := by decide +kernel
theorem dX9_copy_81 : decode cX9_copy 81 = .ok (.goto (-31), 3) := by decide +kernel
theorem dX9_copy_84 : decode cX9_copy 84 = .ok (.return_, 1) := by decide +kernel
theorem dX9_keepRow_0 : decode cX9_keepRow 0 = .ok (.aload_n 0, 1) := by decide +kernel
theorem dX9_keepRow_1 : decode cX9_keepRow 1 = .ok (.getfield 53, 3) := by decide +kernel
theorem dX9_keepRow_4 : decode cX9_keepRow 4 = .ok (.iload_n 1, 1) := by decide +kernel
theorem dX9_keepRow_5 : decode cX9_keepRow 5 = .ok (.aload_n 0, 1) := by decide +kernel
theorem dX9_keepRow_6 : decode cX9_keepRow 6 = .ok (.getfield 22, 3) := by decide +kernel
theorem dX9_keepRow_9 : decode cX9_keepRow 9 = .ok (.iconst 4, 1) := by decide +kernel
theorem dX9_keepRow_10 : decode cX9_keepRow 10 = .ok (.iaload, 1) := by decide +kernel
theorem dX9_keepRow_11 : decode cX9_keepRow 11 = .ok (.iastore, 1) := by decide +kernel
theorem dX9_keepRow_12 : decode cX9_keepRow 12 = .ok (.aload_n 0, 1) := by decide +kernel
theorem dX9_keepRow_13 : decode cX9_keepRow 13 = .ok (.getfield 56, 3) := by decide +kernel
theorem dX9_keepRow_16 : decode cX9_keepRow 16 = .ok (.iload_n 1, 1) := by decide +kernel
theorem dX9_keepRow_17 : decode cX9_keepRow 17 = .ok (.aload_n 0, 1) := by decide +kernel
theorem dX9_keepRow_18 : decode cX9_keepRow 18 = .ok (.getfield 25, 3) := by decide +kernel
theorem dX9_keepRow_21 : decode cX9_keepRow 21 = .ok (.iconst 4, 1) := by decide +kernel
theorem dX9_keepRow_22 : decode cX9_keepRow 22 = .ok (.iaload, 1) := by decide +kernel
theorem dX9_keepRow_23 : decode cX9_keepRow 23 = .ok (.iastore, 1) := by decide +kernel
theorem dX9_keepRow_24 : decode cX9_keepRow 24 = .ok (.aload_n 0, 1) := by decide +kernel
theorem dX9_keepRow_25 : decode cX9_keepRow 25 = .ok (.getfield 59, 3) := by decide +kernel
theorem dX9_keepRow_28 : decode cX9_keepRow 28 = .ok (.iload_n 1, 1) := by decide +kernel
theorem dX9_keepRow_29 : decode cX9_keepRow 29 = .ok (.aload_n 0, 1) := by decide +kernel
theorem dX9_keepRow_30 : decode cX9_keepRow 30 = .ok (.getfield 34, 3) := by decide +kernel
theorem dX9_keepRow_33 : decode cX9_keepRow 33 = .ok (.iconst 4, 1) := by decide +kernel
theorem dX9_keepRow_34 : decode cX9_keepRow 34 = .ok (.iaload, 1) := by decide +kernel
theorem dX9_keepRow_35 : decode cX9_keepRow 35 = .ok (.iastore, 1) := by decide +kernel
theorem dX9_keepRow_36 : decode cX9_keepRow 36 = .ok (.aload_n 0, 1) := by decide +kernel
theorem dX9_keepRow_37 : decode cX9_keepRow 37 = .ok (.getfield 65, 3) := by decide +kernel
theorem dX9_keepRow_40 : decode cX9_keepRow 40 = .ok (.iload_n 1, 1) := by decide +kernel
theorem dX9_keepRow_41 : decode cX9_keepRow 41 = .ok (.iconst 0, 1) := by decide +kernel
theorem dX9_keepRow_42 : decode cX9_keepRow 42 = .ok (.iastore, 1) := by decide +kernel
theorem dX9_keepRow_43 : decode cX9_keepRow 43 = .ok (.iconst 0, 1) := by decide +kernel
theorem dX9_keepRow_44 : decode cX9_keepRow 44 = .ok (.istore_n 2, 1) := by decide +kernel
theorem dX9_keepRow_45 : decode cX9_keepRow 45 = .ok (.iload_n 2, 1) := by decide +kernel
theorem dX9_keepRow_46 : decode cX9_keepRow 46 = .ok (.bipush 12, 2) := by decide +kernel
theorem dX9_keepRow_48 : decode cX9_keepRow 48 = .ok (.if_icmp .ge 29, 3) := by decide +kernel
theorem dX9_keepRow_51 : decode cX9_keepRow 51 = .ok (.aload_n 0, 1) := by decide +kernel
theorem dX9_keepRow_52 : decode cX9_keepRow 52 = .ok (.getfield 62, 3) := by decide +kernel
theorem dX9_keepRow_55 : decode cX9_keepRow 55 = .ok (.bipush 12, 2) := by decide +kernel
theorem dX9_keepRow_57 : decode cX9_keepRow 57 = .ok (.iload_n 1, 1) := by decide +kernel
theorem dX9_keepRow_58 : decode cX9_keepRow 58 = .ok (.imul, 1) := by decide +kernel
theorem dX9_keepRow_59 : decode cX9_keepRow 59 = .ok (.iload_n 2, 1) := by decide +kernel
theorem dX9_keepRow_60 : decode cX9_keepRow 60 = .ok (.iadd, 1) := by decide +kernel
theorem dX9_keepRow_61 : decode cX9_keepRow 61 = .ok (.aload_n 0, 1) := by decide +kernel
theorem dX9_keepRow_62 : decode cX9_keepRow 62 = .ok (.getfield 37, 3) := by decide +kernel
theorem dX9_keepRow_65 : decode cX9_keepRow 65 = .ok (.bipush 48, 2) := by decide +kernel
theorem dX9_keepRow_67 : decode cX9_keepRow 67 = .ok (.iload_n 2, 1) := by decide +kernel
theorem dX9_keepRow_68 : decode cX9_keepRow 68 = .ok (.iadd, 1) := by decide +kernel
theorem dX9_keepRow_69 : decode cX9_keepRow 69 = .ok (.iaload, 1) := by decide +kernel
theorem dX9_keepRow_70 : decode cX9_keepRow 70 = .ok (.iastore, 1) := by decide +kernel
theorem dX9_keepRow_71 : decode cX9_keepRow 71 = .ok (.iinc 2 1, 3) := by decide +kernel
theorem dX9_keepRow_74 : decode cX9_keepRow 74 = .ok (.goto (-29), 3) := by decide +kernel
theorem dX9_keepRow_77 : decode cX9_keepRow 77 = .ok (.return_, 1) := by decide +kernel
theorem dX9_backRow_0 : decode cX9_backRow 0 = .ok (.aload_n 0, 1) := by decide +kernel
theorem dX9_backRow_1 : decode cX9_backRow 1 = .ok (.getfield 22, 3) := by decide +kernel
theorem dX9_backRow_4 : decode cX9_backRow 4 = .ok (.iconst 4, 1) := by decide +kernel
theorem dX9_backRow_5 : decode cX9_backRow 5 = .ok (.aload_n 0, 1) := by decide +kernel
theorem dX9_backRow_6 : decode cX9_backRow 6 = .ok (.getfield 53, 3) := by decide +kernel
theorem dX9_backRow_9 : decode cX9_backRow 9 = .ok (.iload_n 1, 1) := by decide +kernel
theorem dX9_backRow_10 : decode cX9_backRow 10 = .ok (.iaload, 1) := by decide +kernel
theorem dX9_backRow_11 : decode cX9_backRow 11 = .ok (.iastore, 1) := by decide +kernel
theorem dX9_backRow_12 : decode cX9_backRow 12 = .ok (.aload_n 0, 1) := by decide +kernel
theorem dX9_backRow_13 : decode cX9_backRow 13 = .ok (.getfield 25, 3) := by decide +kernel
theorem dX9_backRow_16 : decode cX9_backRow 16 = .ok (.iconst 4, 1) := by decide +kernel
theorem dX9_backRow_17 : decode cX9_backRow 17 = .ok (.aload_n 0, 1) := by decide +kernel
theorem dX9_backRow_18 : decode cX9_backRow 18 = .ok (.getfield 56, 3) := by decide +kernel
theorem dX9_backRow_21 : decode cX9_backRow 21 = .ok (.iload_n 1, 1) := by decide +kernel
theorem dX9_backRow_22 : decode cX9_backRow 22 = .ok (.iaload, 1) := by decide +kernel
theorem dX9_backRow_23 : decode cX9_backRow 23 = .ok (.iastore, 1) := by decide +kernel
