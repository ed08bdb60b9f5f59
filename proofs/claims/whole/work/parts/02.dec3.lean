theorem dX8_leave_1 : decode cX8_leave 1 = .ok (.iload_n 1, 1) := by decide +kernel
theorem dX8_leave_2 : decode cX8_leave 2 = .ok (.iload_n 2, 1) := by decide +kernel
theorem dX8_leave_3 : decode cX8_leave 3 = .ok (.invokevirtual 164, 3) := by decide +kernel
theorem dX8_leave_6 : decode cX8_leave 6 = .ok (.ifCond .ne 6, 3) := by decide +kernel
theorem dX8_leave_9 : decode cX8_leave 9 = .ok (.bipush (-101), 2) := by decide +kernel
theorem dX8_leave_11 : decode cX8_leave 11 = .ok (.ireturn, 1) := by decide +kernel
theorem dX8_leave_12 : decode cX8_leave 12 = .ok (.aload_n 0, 1) := by decide +kernel
theorem dX8_leave_13 : decode cX8_leave 13 = .ok (.getfield 26, 3) := by decide +kernel
theorem dX8_leave_16 : decode cX8_leave 16 = .ok (.iload_n 1, 1) := by decide +kernel
theorem dX8_leave_17 : decode cX8_leave 17 = .ok (.invokevirtual 126, 3) := by decide +kernel
theorem dX8_leave_20 : decode cX8_leave 20 = .ok (.astore_n 3, 1) := by decide +kernel
theorem dX8_leave_21 : decode cX8_leave 21 = .ok (.aload_n 3, 1) := by decide +kernel
theorem dX8_leave_22 : decode cX8_leave 22 = .ok (.iconst 1, 1) := by decide +kernel
theorem dX8_leave_23 : decode cX8_leave 23 = .ok (.putfield 185, 3) := by decide +kernel
theorem dX8_leave_26 : decode cX8_leave 26 = .ok (.aload_n 3, 1) := by decide +kernel
theorem dX8_leave_27 : decode cX8_leave 27 = .ok (.iconst 0, 1) := by decide +kernel
theorem dX8_leave_28 : decode cX8_leave 28 = .ok (.putfield 189, 3) := by decide +kernel
theorem dX8_leave_31 : decode cX8_leave 31 = .ok (.aload_n 3, 1) := by decide +kernel
theorem dX8_leave_32 : decode cX8_leave 32 = .ok (.getfield 168, 3) := by decide +kernel
theorem dX8_leave_35 : decode cX8_leave 35 = .ok (.aload_n 0, 1) := by decide +kernel
theorem dX8_leave_36 : decode cX8_leave 36 = .ok (.getfield 26, 3) := by decide +kernel
theorem dX8_leave_39 : decode cX8_leave 39 = .ok (.iload_n 2, 1) := by decide +kernel
theorem dX8_leave_40 : decode cX8_leave 40 = .ok (.invokevirtual 126, 3) := by decide +kernel
theorem dX8_leave_43 : decode cX8_leave 43 = .ok (.getfield 168, 3) := by decide +kernel
theorem dX8_leave_46 : decode cX8_leave 46 = .ok (.invokevirtual 192, 3) := by decide +kernel
theorem dX8_leave_49 : decode cX8_leave 49 = .ok (.ireturn, 1) := by decide +kernel
theorem dX8_amnesty_0 : decode cX8_amnesty 0 = .ok (.aload_n 0, 1) := by decide +kernel
theorem dX8_amnesty_1 : decode cX8_amnesty 1 = .ok (.getfield 26, 3) := by decide +kernel
theorem dX8_amnesty_4 : decode cX8_amnesty 4 = .ok (.invokevirtual 196, 3) := by decide +kernel
theorem dX8_amnesty_7 : decode cX8_amnesty 7 = .ok (.ireturn, 1) := by decide +kernel
theorem dX8_gain_0 : decode cX8_gain 0 = .ok (.aload_n 0, 1) := by decide +kernel
theorem dX8_gain_1 : decode cX8_gain 1 = .ok (.getfield 26, 3) := by decide +kernel
theorem dX8_gain_4 : decode cX8_gain 4 = .ok (.iload_n 1, 1) := by decide +kernel
theorem dX8_gain_5 : decode cX8_gain 5 = .ok (.invokevirtual 141, 3) := by decide +kernel
theorem dX8_gain_8 : decode cX8_gain 8 = .ok (.ifCond .ne 6, 3) := by decide +kernel
theorem dX8_gain_11 : decode cX8_gain 11 = .ok (.bipush (-101), 2) := by decide +kernel
theorem dX8_gain_13 : decode cX8_gain 13 = .ok (.ireturn, 1) := by decide +kernel
theorem dX8_gain_14 : decode cX8_gain 14 = .ok (.iload_n 2, 1) := by decide +kernel
theorem dX8_gain_15 : decode cX8_gain 15 = .ok (.ifCond .lt 18, 3) := by decide +kernel
theorem dX8_gain_18 : decode cX8_gain 18 = .ok (.iload_n 2, 1) := by decide +kernel
theorem dX8_gain_19 : decode cX8_gain 19 = .ok (.bipush 6, 2) := by decide +kernel
theorem dX8_gain_21 : decode cX8_gain 21 = .ok (.if_icmp .gt 12, 3) := by decide +kernel
theorem dX8_gain_24 : decode cX8_gain 24 = .ok (.iload_n 3, 1) := by decide +kernel
theorem dX8_gain_25 : decode cX8_gain 25 = .ok (.ifCond .lt 8, 3) := by decide +kernel
theorem dX8_gain_28 : decode cX8_gain 28 = .ok (.iload_n 3, 1) := by decide +kernel
theorem dX8_gain_29 : decode cX8_gain 29 = .ok (.iconst 1, 1) := by decide +kernel
theorem dX8_gain_30 : decode cX8_gain 30 = .ok (.if_icmp .le 6, 3) := by decide +kernel
theorem dX8_gain_33 : decode cX8_gain 33 = .ok (.bipush (-102), 2) := by decide +kernel
theorem dX8_gain_35 : decode cX8_gain 35 = .ok (.ireturn, 1) := by decide +kernel
theorem dX8_gain_36 : decode cX8_gain 36 = .ok (.aload_n 0, 1) := by decide +kernel
theorem dX8_gain_37 : decode cX8_gain 37 = .ok (.getfield 199, 3) := by decide +kernel
theorem dX8_gain_40 : decode cX8_gain 40 = .ok (.bipush 60, 2) := by decide +kernel
theorem dX8_gain_42 : decode cX8_gain 42 = .ok (.if_icmp .lt 6, 3) := by decide +kernel
theorem dX8_gain_45 : decode cX8_gain 45 = .ok (.bipush (-103), 2) := by decide +kernel
theorem dX8_gain_47 : decode cX8_gain 47 = .ok (.ireturn, 1) := by decide +kernel
theorem dX8_gain_48 : decode cX8_gain 48 = .ok (.aload_n 0, 1) := by decide +kernel
theorem dX8_gain_49 : decode cX8_gain 49 = .ok (.dup, 1) := by decide +kernel
theorem dX8_gain_50 : decode cX8_gain 50 = .ok (.getfield 199, 3) := by decide +kernel
theorem dX8_gain_53 : decode cX8_gain 53 = .ok (.iconst 1, 1) := by decide +kernel
theorem dX8_gain_54 : decode cX8_gain 54 = .ok (.iadd, 1) := by decide +kernel
theorem dX8_gain_55 : decode cX8_gain 55 = .ok (.putfield 199, 3) := by decide +kernel
theorem dX8_gain_58 : decode cX8_gain 58 = .ok (.aload_n 0, 1) := by decide +kernel
theorem dX8_gain_59 : decode cX8_gain 59 = .ok (.getfield 46, 3) := by decide +kernel
theorem dX8_gain_62 : decode cX8_gain 62 = .ok (.aload_n 0, 1) := by decide +kernel
theorem dX8_gain_63 : decode cX8_gain 63 = .ok (.getfield 26, 3) := by decide +kernel
theorem dX8_gain_66 : decode cX8_gain 66 = .ok (.iload_n 1, 1) := by decide +kernel
theorem dX8_gain_67 : decode cX8_gain 67 = .ok (.invokevirtual 126, 3) := by decide +kernel
theorem dX8_gain_70 : decode cX8_gain 70 = .ok (.aload_n 0, 1) := by decide +kernel
theorem dX8_gain_71 : decode cX8_gain 71 = .ok (.getfield 19, 3) := by decide +kernel
theorem dX8_gain_74 : decode cX8_gain 74 = .ok (.aload_n 0, 1) := by decide +kernel
theorem dX8_gain_75 : decode cX8_gain 75 = .ok (.getfield 26, 3) := by decide +kernel
theorem dX8_gain_78 : decode cX8_gain 78 = .ok (.getfield 151, 3) := by decide +kernel
theorem dX8_gain_81 : decode cX8_gain 81 = .ok (.iload_n 2, 1) := by decide +kernel
theorem dX8_gain_82 : decode cX8_gain 82 = .ok (.invokevirtual 202, 3) := by decide +kernel
theorem dX8_gain_85 : decode cX8_gain 85 = .ok (.iload_n 3, 1) := by decide +kernel
theorem dX8_gain_86 : decode cX8_gain 86 = .ok (.ifCond .ne 13, 3) := by decide +kernel
theorem dX8_gain_89 : decode cX8_gain 89 = .ok (.aload_n 0, 1) := by decide +kernel
theorem dX8_gain_90 : decode cX8_gain 90 = .ok (.getfield 46, 3) := by decide +kernel
theorem dX8_gain_93 : decode cX8_gain 93 = .ok (.getfield 206, 3) := by decide +kernel
theorem dX8_gain_96 : decode cX8_gain 96 = .ok (.goto 10, 3) := by decide +kernel
theorem dX8_gain_99 : decode cX8_gain 99 = .ok (.aload_n 0, 1) := by decide +kernel
theorem dX8_gain_100 : decode cX8_gain 100 = .ok (.getfield 46, 3) := by decide +kernel
theorem dX8_gain_103 : decode cX8_gain 103 = .ok (.getfield 209, 3) := by decide +kernel
theorem dX8_gain_106 : decode cX8_gain 106 = .ok (.ireturn, 1) := by decide +kernel
theorem dX8_soon_0 : decode cX8_soon 0 = .ok (.aload_n 0, 1) := by decide +kernel
theorem dX8_soon_1 : decode cX8_soon 1 = .ok (.getfield 26, 3) := by decide +kernel
theorem dX8_soon_4 : decode cX8_soon 4 = .ok (.iload_n 1, 1) := by decide +kernel
theorem dX8_soon_5 : decode cX8_soon 5 = .ok (.invokevirtual 141, 3) := by decide +kernel
theorem dX8_soon_8 : decode cX8_soon 8 = .ok (.ifCond .eq 10, 3) := by decide +kernel
theorem dX8_soon_11 : decode cX8_soon 11 = .ok (.iload_n 2, 1) := by decide +kernel
theorem dX8_soon_12 : decode cX8_soon 12 = .ok (.invokestatic 95, 3) := by decide +kernel
theorem dX8_soon_15 : decode cX8_soon 15 = .ok (.ifCond .ne 6, 3) := by decide +kernel
theorem dX8_soon_18 : decode cX8_soon 18 = .ok (.bipush (-101), 2) := by decide +kernel
theorem dX8_soon_20 : decode cX8_soon 20 = .ok (.ireturn, 1) := by decide +kernel
theorem dX8_soon_21 : decode cX8_soon 21 = .ok (.aload_n 0, 1) := by decide +kernel
theorem dX8_soon_22 : decode cX8_soon 22 = .ok (.getfield 26, 3) := by decide +kernel
theorem dX8_soon_25 : decode cX8_soon 25 = .ok (.iload_n 1, 1) := by decide +kernel
theorem dX8_soon_26 : decode cX8_soon 26 = .ok (.invokevirtual 126, 3) := by decide +kernel
theorem dX8_soon_29 : decode cX8_soon 29 = .ok (.getfield 189, 3) := by decide +kernel
theorem dX8_soon_32 : decode cX8_soon 32 = .ok (.ifCond .le 6, 3) := by decide +kernel
theorem dX8_soon_35 : decode cX8_soon 35 = .ok (.bipush (-103), 2) := by decide +kernel
theorem dX8_soon_37 : decode cX8_soon 37 = .ok (.ireturn, 1) := by decide +kernel
theorem dX8_soon_38 : decode cX8_soon 38 = .ok (.iconst (-1), 1) := by decide +kernel
theorem dX8_soon_39 : decode cX8_soon 39 = .ok (.istore_n 3, 1) := by decide +kernel
theorem dX8_soon_40 : decode cX8_soon 40 = .ok (.iconst 0, 1) := by decide +kernel
theorem dX8_soon_41 : decode cX8_soon 41 = .ok (.istore 4, 2) := by decide +kernel
theorem dX8_soon_43 : decode cX8_soon 43 = .ok (.iload 4, 2) := by decide +kernel
theorem dX8_soon_45 : decode cX8_soon 45 = .ok (.iconst 3, 1) := by decide +kernel
theorem dX8_soon_46 : decode cX8_soon 46 = .ok (.if_icmp .ge 66, 3) := by decide +kernel
theorem dX8_soon_49 : decode cX8_soon 49 = .ok (.aload_n 0, 1) := by decide +kernel
theorem dX8_soon_50 : decode cX8_soon 50 = .ok (.getfield 19, 3) := by decide +kernel
theorem dX8_soon_53 : decode cX8_soon 53 = .ok (.iload_n 2, 1) := by decide +kernel
theorem dX8_soon_54 : decode cX8_soon 54 = .ok (.invokevirtual 106, 3) := by decide +kernel
theorem dX8_soon_57 : decode cX8_soon 57 = .ok (.iconst 1, 1) := by decide +kernel
theorem dX8_soon_58 : decode cX8_soon 58 = .ok (.iload 4, 2) := by decide +kernel
theorem dX8_soon_60 : decode cX8_soon 60 = .ok (.ishl, 1) := by decide +kernel
theorem dX8_soon_61 : decode cX8_soon 61 = .ok (.iand, 1) := by decide +kernel
theorem dX8_soon_62 : decode cX8_soon 62 = .ok (.ifCond .eq 44, 3) := by decide +kernel
theorem dX8_soon_65 : decode cX8_soon 65 = .ok (.aload_n 0, 1) := by decide +kernel
theorem dX8_soon_66 : decode cX8_soon 66 = .ok (.aload_n 0, 1) := by decide +kernel
theorem dX8_soon_67 : decode cX8_soon 67 = .ok (.getfield 26, 3) := by decide +kernel
theorem dX8_soon_70 : decode cX8_soon 70 = .ok (.iload_n 1, 1) := by decide +kernel
theorem dX8_soon_71 : decode cX8_soon 71 = .ok (.invokevirtual 126, 3) := by decide +kernel
theorem dX8_soon_74 : decode cX8_soon 74 = .ok (.iload_n 2, 1) := by decide +kernel
theorem dX8_soon_75 : decode cX8_soon 75 = .ok (.iload 4, 2) := by decide +kernel
theorem dX8_soon_77 : decode cX8_soon 77 = .ok (.invokevirtual 212, 3) := by decide +kernel
theorem dX8_soon_80 : decode cX8_soon 80 = .ok (.istore 5, 2) := by decide +kernel
theorem dX8_soon_82 : decode cX8_soon 82 = .ok (.iload_n 3, 1) := by decide +kernel
theorem dX8_soon_83 : decode cX8_soon 83 = .ok (.iconst (-1), 1) := by decide +kernel
theorem dX8_soon_84 : decode cX8_soon 84 = .ok (.if_icmp .eq 15, 3) := by decide +kernel
theorem dX8_soon_87 : decode cX8_soon 87 = .ok (.iload 5, 2) := by decide +kernel
theorem dX8_soon_89 : decode cX8_soon 89 = .ok (.iconst (-1), 1) := by decide +kernel
theorem dX8_soon_90 : decode cX8_soon 90 = .ok (.if_icmp .eq 14, 3) := by decide +kernel
theorem dX8_soon_93 : decode cX8_soon 93 = .ok (.iload 5, 2) := by decide +kernel
theorem dX8_soon_95 : decode cX8_soon 95 = .ok (.iload_n 3, 1) := by decide +kernel
theorem dX8_soon_96 : decode cX8_soon 96 = .ok (.if_icmp .ge 8, 3) := by decide +kernel
theorem dX8_soon_99 : decode cX8_soon 99 = .ok (.iload 5, 2) := by decide +kernel
theorem dX8_soon_101 : decode cX8_soon 101 = .ok (.goto 4, 3) := by decide +kernel
theorem dX8_soon_104 : decode cX8_soon 104 = .ok (.iload_n 3, 1) := by decide +kernel
theorem dX8_soon_105 : decode cX8_soon 105 = .ok (.istore_n 3, 1) := by decide +kernel
theorem dX8_soon_106 : decode cX8_soon 106 = .ok (.iinc 4 1, 3) := by decide +kernel
theorem dX8_soon_109 : decode cX8_soon 109 = .ok (.goto (-66), 3) := by decide +kernel
theorem dX8_soon_112 : decode cX8_soon 112 = .ok (.iload_n 3, 1) := by decide +kernel
theorem dX8_soon_113 : decode cX8_soon 113 = .ok (.ireturn, 1) := by decide +kernel
theorem dX8_kept_0 : decode cX8_kept 0 = .ok (.iload_n 1, 1) := by decide +kernel
theorem dX8_kept_1 : decode cX8_kept 1 = .ok (.invokestatic 95, 3) := by decide +kernel
theorem dX8_kept_4 : decode cX8_kept 4 = .ok (.ifCond .ne 6, 3) := by decide +kernel
theorem dX8_kept_7 : decode cX8_kept 7 = .ok (.bipush (-101), 2) := by decide +kernel
theorem dX8_kept_9 : decode cX8_kept 9 = .ok (.ireturn, 1) := by decide +kernel
theorem dX8_kept_10 : decode cX8_kept 10 = .ok (.aload_n 0, 1) := by decide +kernel
theorem dX8_kept_11 : decode cX8_kept 11 = .ok (.getfield 83, 3) := by decide +kernel
theorem dX8_kept_14 : decode cX8_kept 14 = .ok (.ifCond .ne 6, 3) := by decide +kernel
theorem dX8_kept_17 : decode cX8_kept 17 = .ok (.bipush (-103), 2) := by decide +kernel
theorem dX8_kept_19 : decode cX8_kept 19 = .ok (.ireturn, 1) := by decide +kernel
theorem dX8_kept_20 : decode cX8_kept 20 = .ok (.iconst 1, 1) := by decide +kernel
theorem dX8_kept_21 : decode cX8_kept 21 = .ok (.istore_n 2, 1) := by decide +kernel
theorem dX8_kept_22 : decode cX8_kept 22 = .ok (.iload_n 2, 1) := by decide +kernel
theorem dX8_kept_23 : decode cX8_kept 23 = .ok (.bipush 9, 2) := by decide +kernel
theorem dX8_kept_25 : decode cX8_kept 25 = .ok (.if_icmp .gt 27, 3) := by decide +kernel
theorem dX8_kept_28 : decode cX8_kept 28 = .ok (.aload_n 0, 1) := by decide +kernel
theorem dX8_kept_29 : decode cX8_kept 29 = .ok (.getfield 26, 3) := by decide +kernel
theorem dX8_kept_32 : decode cX8_kept 32 = .ok (.iload_n 1, 1) := by decide +kernel
theorem dX8_kept_33 : decode cX8_kept 33 = .ok (.iload_n 2, 1) := by decide +kernel
theorem dX8_kept_34 : decode cX8_kept 34 = .ok (.aload_n 0, 1) := by decide +kernel
theorem dX8_kept_35 : decode cX8_kept 35 = .ok (.getfield 19, 3) := by decide +kernel
theorem dX8_kept_38 : decode cX8_kept 38 = .ok (.invokevirtual 216, 3) := by decide +kernel
theorem dX8_kept_41 : decode cX8_kept 41 = .ok (.ifCond .ne 5, 3) := by decide +kernel
theorem dX8_kept_44 : decode cX8_kept 44 = .ok (.iload_n 2, 1) := by decide +kernel
theorem dX8_kept_45 : decode cX8_kept 45 = .ok (.ireturn, 1) := by decide +kernel
theorem dX8_kept_46 : decode cX8_kept 46 = .ok (.iinc 2 1, 3) := by decide +kernel
theorem dX8_kept_49 : decode cX8_kept 49 = .ok (.goto (-27), 3) := by decide +kernel
theorem dX8_kept_52 : decode cX8_kept 52 = .ok (.iconst (-1), 1) := by decide +kernel
theorem dX8_kept_53 : decode cX8_kept 53 = .ok (.ireturn, 1) := by decide +kernel
theorem dX8_book_0 : decode cX8_book 0 = .ok (.aload_n 0, 1) := by decide +kernel
theorem dX8_book_1 : decode cX8_book 1 = .ok (.getfield 26, 3) := by decide +kernel
theorem dX8_book_4 : decode cX8_book 4 = .ok (.iload_n 1, 1) := by decide +kernel
theorem dX8_book_5 : decode cX8_book 5 = .ok (.invokevirtual 141, 3) := by decide +kernel
theorem dX8_book_8 : decode cX8_book 8 = .ok (.ifCond .ne 6, 3) := by decide +kernel
theorem dX8_book_11 : decode cX8_book 11 = .ok (.bipush (-101), 2) := by decide +kernel
theorem dX8_book_13 : decode cX8_book 13 = .ok (.ireturn, 1) := by decide +kernel
theorem dX8_book_14 : decode cX8_book 14 = .ok (.aload_n 0, 1) := by decide +kernel
theorem dX8_book_15 : decode cX8_book 15 = .ok (.getfield 26, 3) := by decide +kernel
theorem dX8_book_18 : decode cX8_book 18 = .ok (.iload_n 1, 1) := by decide +kernel
theorem dX8_book_19 : decode cX8_book 19 = .ok (.invokevirtual 126, 3) := by decide +kernel
theorem dX8_book_22 : decode cX8_book 22 = .ok (.getfield 220, 3) := by decide +kernel
theorem dX8_book_25 : decode cX8_book 25 = .ok (.ifCond .eq 6, 3) := by decide +kernel
theorem dX8_book_28 : decode cX8_book 28 = .ok (.bipush (-103), 2) := by decide +kernel
theorem dX8_book_30 : decode cX8_book 30 = .ok (.ireturn, 1) := by decide +kernel
theorem dX8_book_31 : decode cX8_book 31 = .ok (.aload_n 0, 1) := by decide +kernel
theorem dX8_book_32 : decode cX8_book 32 = .ok (.getfield 53, 3) := by decide +kernel
theorem dX8_book_35 : decode cX8_book 35 = .ok (.getfield 223, 3) := by decide +kernel
theorem dX8_book_38 : decode cX8_book 38 = .ok (.istore_n 2, 1) := by decide +kernel
theorem dX8_book_39 : decode cX8_book 39 = .ok (.aload_n 0, 1) := by decide +kernel
theorem dX8_book_40 : decode cX8_book 40 = .ok (.getfield 53, 3) := by decide +kernel
theorem dX8_book_43 : decode cX8_book 43 = .ok (.aload_n 0, 1) := by decide +kernel
theorem dX8_book_44 : decode cX8_book 44 = .ok (.getfield 26, 3) := by decide +kernel
theorem dX8_book_47 : decode cX8_book 47 = .ok (.iload_n 1, 1) := by decide +kernel
theorem dX8_book_48 : decode cX8_book 48 = .ok (.invokevirtual 126, 3) := by decide +kernel
theorem dX8_book_51 : decode cX8_book 51 = .ok (.aload_n 0, 1) := by decide +kernel
theorem dX8_book_52 : decode cX8_book 52 = .ok (.getfield 26, 3) := by decide +kernel
theorem dX8_book_55 : decode cX8_book 55 = .ok (.getfield 151, 3) := by decide +kernel
theorem dX8_book_58 : decode cX8_book 58 = .ok (.invokevirtual 224, 3) := by decide +kernel
theorem dX8_book_61 : decode cX8_book 61 = .ok (.iload_n 2, 1) := by decide +kernel
theorem dX8_book_62 : decode cX8_book 62 = .ok (.ireturn, 1) := by decide +kernel
theorem dX8_next_0 : decode cX8_next 0 = .ok (.aload_n 0, 1) := by decide +kernel
theorem dX8_next_1 : decode cX8_next 1 = .ok (.getfield 53, 3) := by decide +kernel
theorem dX8_next_4 : decode cX8_next 4 = .ok (.getfield 228, 3) := by decide +kernel
theorem dX8_next_7 : decode cX8_next 7 = .ok (.ifCond .ne 6, 3) := by decide +kernel
theorem dX8_next_10 : decode cX8_next 10 = .ok (.bipush (-103), 2) := by decide +kernel
theorem dX8_next_12 : decode cX8_next 12 = .ok (.ireturn, 1) := by decide +kernel
theorem dX8_next_13 : decode cX8_next 13 = .ok (.iload_n 1, 1) := by decide +kernel
theorem dX8_next_14 : decode cX8_next 14 = .ok (.ifCond .lt 10, 3) := by decide +kernel
theorem dX8_next_17 : decode cX8_next 17 = .ok (.iload_n 1, 1) := by decide +kernel
theorem dX8_next_18 : decode cX8_next 18 = .ok (.sipush 999, 3) := by decide +kernel
theorem dX8_next_21 : decode cX8_next 21 = .ok (.if_icmp .le 6, 3) := by decide +kernel
theorem dX8_next_24 : decode cX8_next 24 = .ok (.bipush (-102), 2) := by decide +kernel
theorem dX8_next_26 : decode cX8_next 26 = .ok (.ireturn, 1) := by decide +kernel
theorem dX8_next_27 : decode cX8_next 27 = .ok (.aload_n 0, 1) := by decide +kernel
theorem dX8_next_28 : decode cX8_next 28 = .ok (.getfield 53, 3) := by decide +kernel
theorem dX8_next_31 : decode cX8_next 31 = .ok (.invokevirtual 231, 3) := by decide +kernel
theorem dX8_next_34 : decode cX8_next 34 = .ok (.ifCond .ne 6, 3) := by decide +kernel
theorem dX8_next_37 : decode cX8_next 37 = .ok (.bipush (-104), 2) := by decide +kernel
theorem dX8_next_39 : decode cX8_next 39 = .ok (.ireturn, 1) := by decide +kernel
theorem dX8_next_40 : decode cX8_next 40 = .ok (.aload_n 0, 1) := by decide +kernel
theorem dX8_next_41 : decode cX8_next 41 = .ok (.getfield 53, 3) := by decide +kernel
theorem dX8_next_44 : decode cX8_next 44 = .ok (.iload_n 1, 1) := by decide +kernel
theorem dX8_next_45 : decode cX8_next 45 = .ok (.invokevirtual 232, 3) := by decide +kernel
theorem dX8_next_48 : decode cX8_next 48 = .ok (.aload_n 0, 1) := by decide +kernel
theorem dX8_next_49 : decode cX8_next 49 = .ok (.getfield 53, 3) := by decide +kernel
theorem dX8_next_52 : decode cX8_next 52 = .ok (.getfield 223, 3) := by decide +kernel
theorem dX8_next_55 : decode cX8_next 55 = .ok (.ireturn, 1) := by decide +kernel
theorem dX8_ways_0 : decode cX8_ways 0 = .ok (.aload_n 0, 1) := by decide +kernel
theorem dX8_ways_1 : decode cX8_ways 1 = .ok (.getfield 53, 3) := by decide +kernel
theorem dX8_ways_4 : decode cX8_ways 4 = .ok (.getfield 228, 3) := by decide +kernel
theorem dX8_ways_7 : decode cX8_ways 7 = .ok (.ifCond .eq 12, 3) := by decide +kernel
theorem dX8_ways_10 : decode cX8_ways 10 = .ok (.aload_n 0, 1) := by decide +kernel
theorem dX8_ways_11 : decode cX8_ways 11 = .ok (.getfield 233, 3) := by decide +kernel
theorem dX8_ways_14 : decode cX8_ways 14 = .ok (.bipush 40, 2) := by decide +kernel
theorem dX8_ways_16 : decode cX8_ways 16 = .ok (.if_icmp .lt 6, 3) := by decide +kernel
theorem dX8_ways_19 : decode cX8_ways 19 = .ok (.bipush (-103), 2) := by decide +kernel
theorem dX8_ways_21 : decode cX8_ways 21 = .ok (.ireturn, 1) := by decide +kernel
theorem dX8_ways_22 : decode cX8_ways 22 = .ok (.aload_n 0, 1) := by decide +kernel
theorem dX8_ways_23 : decode cX8_ways 23 = .ok (.dup, 1) := by decide +kernel
theorem dX8_ways_24 : decode cX8_ways 24 = .ok (.getfield 233, 3) := by decide +kernel
theorem dX8_ways_27 : decode cX8_ways 27 = .ok (.iconst 1, 1) := by decide +kernel
theorem dX8_ways_28 : decode cX8_ways 28 = .ok (.iadd, 1) := by decide +kernel
theorem dX8_ways_29 : decode cX8_ways 29 = .ok (.putfield 233, 3) := by decide +kernel
theorem dX8_ways_32 : decode cX8_ways 32 = .ok (.aload_n 0, 1) := by decide +kernel
theorem dX8_ways_33 : decode cX8_ways 33 = .ok (.getfield 53, 3) := by decide +kernel
theorem dX8_ways_36 : decode cX8_ways 36 = .ok (.aload_n 0, 1) := by decide +kernel
theorem dX8_ways_37 : decode cX8_ways 37 = .ok (.getfield 19, 3) := by decide +kernel
theorem dX8_ways_40 : decode cX8_ways 40 = .ok (.invokevirtual 236, 3) := by decide +kernel
theorem dX8_ways_43 : decode cX8_ways 43 = .ok (.aload_n 0, 1) := by decide +kernel
theorem dX8_ways_44 : decode cX8_ways 44 = .ok (.getfield 53, 3) := by decide +kernel
theorem dX8_ways_47 : decode cX8_ways 47 = .ok (.getfield 239, 3) := by decide +kernel
theorem dX8_ways_50 : decode cX8_ways 50 = .ok (.ireturn, 1) := by decide +kernel
theorem dX8_owed_0 : decode cX8_owed 0 = .ok (.aload_n 0, 1) := by decide +kernel
theorem dX8_owed_1 : decode cX8_owed 1 = .ok (.getfield 53, 3) := by decide +kernel
theorem dX8_owed_4 : decode cX8_owed 4 = .ok (.getfield 228, 3) := by decide +kernel
theorem dX8_owed_7 : decode cX8_owed 7 = .ok (.ifCond .eq 12, 3) := by decide +kernel
theorem dX8_owed_10 : decode cX8_owed 10 = .ok (.aload_n 0, 1) := by decide +kernel
theorem dX8_owed_11 : decode cX8_owed 11 = .ok (.getfield 233, 3) := by decide +kernel
theorem dX8_owed_14 : decode cX8_owed 14 = .ok (.bipush 40, 2) := by decide +kernel
theorem dX8_owed_16 : decode cX8_owed 16 = .ok (.if_icmp .lt 6, 3) := by decide +kernel
theorem dX8_owed_19 : decode cX8_owed 19 = .ok (.bipush (-103), 2) := by decide +kernel
theorem dX8_owed_21 : decode cX8_owed 21 = .ok (.ireturn, 1) := by decide +kernel
theorem dX8_owed_22 : decode cX8_owed 22 = .ok (.aload_n 0, 1) := by decide +kernel
theorem dX8_owed_23 : decode cX8_owed 23 = .ok (.dup, 1) := by decide +kernel
theorem dX8_owed_24 : decode cX8_owed 24 = .ok (.getfield 233, 3) := by decide +kernel
theorem dX8_owed_27 : decode cX8_owed 27 = .ok (.iconst 1, 1) := by decide +kernel
theorem dX8_owed_28 : decode cX8_owed 28 = .ok (.iadd, 1) := by decide +kernel
theorem dX8_owed_29 : decode cX8_owed 29 = .ok (.putfield 233, 3) := by decide +kernel
theorem dX8_owed_32 : decode cX8_owed 32 = .ok (.aload_n 0, 1) := by decide +kernel
theorem dX8_owed_33 : decode cX8_owed 33 = .ok (.getfield 53, 3) := by decide +kernel
theorem dX8_owed_36 : decode cX8_owed 36 = .ok (.aload_n 0, 1) := by decide +kernel
theorem dX8_owed_37 : decode cX8_owed 37 = .ok (.getfield 19, 3) := by decide +kernel
theorem dX8_owed_40 : decode cX8_owed 40 = .ok (.invokevirtual 236, 3) := by decide +kernel
theorem dX8_owed_43 : decode cX8_owed 43 = .ok (.aload_n 0, 1) := by decide +kernel
theorem dX8_owed_44 : decode cX8_owed 44 = .ok (.getfield 53, 3) := by decide +kernel
theorem dX8_owed_47 : decode cX8_owed 47 = .ok (.getfield 242, 3) := by decide +kernel
theorem dX8_owed_50 : decode cX8_owed 50 = .ok (.ireturn, 1) := by decide +kernel
theorem dX8_years_0 : decode cX8_years 0 = .ok (.iload_n 1, 1) := by decide +kernel
theorem dX8_years_1 : decode cX8_years 1 = .ok (.iconst 1, 1) := by decide +kernel
theorem dX8_years_2 : decode cX8_years 2 = .ok (.if_icmp .lt 22, 3) := by decide +kernel
theorem dX8_years_5 : decode cX8_years 5 = .ok (.iload_n 1, 1) := by decide +kernel
theorem dX8_years_6 : decode cX8_years 6 = .ok (.bipush 60, 2) := by decide +kernel
theorem dX8_years_8 : decode cX8_years 8 = .ok (.if_icmp .gt 16, 3) := by decide +kernel
theorem dX8_years_11 : decode cX8_years 11 = .ok (.iload_n 2, 1) := by decide +kernel
theorem dX8_years_12 : decode cX8_years 12 = .ok (.ifCond .lt 12, 3) := by decide +kernel
theorem dX8_years_15 : decode cX8_years 15 = .ok (.iload_n 3, 1) := by decide +kernel
theorem dX8_years_16 : decode cX8_years 16 = .ok (.ifCond .lt 8, 3) := by decide +kernel
theorem dX8_years_19 : decode cX8_years 19 = .ok (.iload_n 3, 1) := by decide +kernel
theorem dX8_years_20 : decode cX8_years 20 = .ok (.iconst 3, 1) := by decide +kernel
theorem dX8_years_21 : decode cX8_years 21 = .ok (.if_icmp .le 6, 3) := by decide +kernel
theorem dX8_years_24 : decode cX8_years 24 = .ok (.bipush (-102), 2) := by decide +kernel
theorem dX8_years_26 : decode cX8_years 26 = .ok (.ireturn, 1) := by decide +kernel
theorem dX8_years_27 : decode cX8_years 27 = .ok (.aload_n 0, 1) := by decide +kernel
theorem dX8_years_28 : decode cX8_years 28 = .ok (.getfield 83, 3) := by decide +kernel
theorem dX8_years_31 : decode cX8_years 31 = .ok (.ifCond .ne 6, 3) := by decide +kernel
theorem dX8_years_34 : decode cX8_years 34 = .ok (.bipush (-103), 2) := by decide +kernel
theorem dX8_years_36 : decode cX8_years 36 = .ok (.ireturn, 1) := by decide +kernel
theorem dX8_years_37 : decode cX8_years 37 = .ok (.aload_n 0, 1) := by decide +kernel
theorem dX8_years_38 : decode cX8_years 38 = .ok (.getfield 33, 3) := by decide +kernel
theorem dX8_years_41 : decode cX8_years 41 = .ok (.aload_n 0, 1) := by decide +kernel
theorem dX8_years_42 : decode cX8_years 42 = .ok (.getfield 26, 3) := by decide +kernel
theorem dX8_years_45 : decode cX8_years 45 = .ok (.invokevirtual 245, 3) := by decide +kernel
theorem dX8_years_48 : decode cX8_years 48 = .ok (.aload_n 0, 1) := by decide +kernel
theorem dX8_years_49 : decode cX8_years 49 = .ok (.getfield 33, 3) := by decide +kernel
theorem dX8_years_52 : decode cX8_years 52 = .ok (.iload_n 1, 1) := by decide +kernel
theorem dX8_years_53 : decode cX8_years 53 = .ok (.iload_n 2, 1) := by decide +kernel
theorem dX8_years_54 : decode cX8_years 54 = .ok (.aload_n 0, 1) := by decide +kernel
theorem dX8_years_55 : decode cX8_years 55 = .ok (.getfield 19, 3) := by decide +kernel
theorem dX8_years_58 : decode cX8_years 58 = .ok (.invokevirtual 248, 3) := by decide +kernel
theorem dX8_years_61 : decode cX8_years 61 = .ok (.iload_n 3, 1) := by decide +kernel
theorem dX8_years_62 : decode cX8_years 62 = .ok (.tableswitch 50 0 2 #[26, 34, 42], 26) := by decide +kernel
theorem dX8_years_88 : decode cX8_years 88 = .ok (.aload_n 0, 1) := by decide +kernel
theorem dX8_years_89 : decode cX8_years 89 = .ok (.getfield 33, 3) := by decide +kernel
theorem dX8_years_92 : decode cX8_years 92 = .ok (.invokevirtual 252, 3) := by decide +kernel
theorem dX8_years_95 : decode cX8_years 95 = .ok (.ireturn, 1) := by decide +kernel
theorem dX8_years_96 : decode cX8_years 96 = .ok (.aload_n 0, 1) := by decide +kernel
theorem dX8_years_97 : decode cX8_years 97 = .ok (.getfield 33, 3) := by decide +kernel
theorem dX8_years_100 : decode cX8_years 100 = .ok (.invokevirtual 255, 3) := by decide +kernel
theorem dX8_years_103 : decode cX8_years 103 = .ok (.ireturn, 1) := by decide +kernel
theorem dX8_years_104 : decode cX8_years 104 = .ok (.aload_n 0, 1) := by decide +kernel
theorem dX8_years_105 : decode cX8_years 105 = .ok (.getfield 33, 3) := by decide +kernel
theorem dX8_years_108 : decode cX8_years 108 = .ok (.getfield 258, 3) := by decide +kernel
theorem dX8_years_111 : decode cX8_years 111 = .ok (.ireturn, 1) := by decide +kernel
theorem dX8_years_112 : decode cX8_years 112 = .ok (.aload_n 0, 1) := by decide +kernel
theorem dX8_years_113 : decode cX8_years 113 = .ok (.getfield 33, 3) := by decide +kernel
theorem dX8_years_116 : decode cX8_years 116 = .ok (.getfield 261, 3) := by decide +kernel
theorem dX8_years_119 : decode cX8_years 119 = .ok (.ireturn, 1) := by decide +kernel
theorem dX8_image_0 : decode cX8_image 0 = .ok (.aload_n 0, 1) := by decide +kernel
theorem dX8_image_1 : decode cX8_image 1 = .ok (.getfield 30, 3) := by decide +kernel
theorem dX8_image_4 : decode cX8_image 4 = .ok (.aload_n 0, 1) := by decide +kernel
theorem dX8_image_5 : decode cX8_image 5 = .ok (.getfield 26, 3) := by decide +kernel
theorem dX8_image_8 : decode cX8_image 8 = .ok (.invokevirtual 245, 3) := by decide +kernel
theorem dX8_image_11 : decode cX8_image 11 = .ok (.aload_n 0, 1) := by decide +kernel
theorem dX8_image_12 : decode cX8_image 12 = .ok (.iconst 1, 1) := by decide +kernel
theorem dX8_image_13 : decode cX8_image 13 = .ok (.putfield 264, 3) := by decide +kernel
theorem dX8_image_16 : decode cX8_image 16 = .ok (.aload_n 0, 1) := by decide +kernel
theorem dX8_image_17 : decode cX8_image 17 = .ok (.getfield 26, 3) := by decide +kernel
theorem dX8_image_20 : decode cX8_image 20 = .ok (.getfield 151, 3) := by decide +kernel
theorem dX8_image_23 : decode cX8_image 23 = .ok (.ireturn, 1) := by decide +kernel
theorem dX8_restore_0 : decode cX8_restore 0 = .ok (.aload_n 0, 1) := by decide +kernel
theorem dX8_restore_1 : decode cX8_restore 1 = .ok (.getfield 264, 3) := by decide +kernel
theorem dX8_restore_4 : decode cX8_restore 4 = .ok (.ifCond .ne 6, 3) := by decide +kernel
theorem dX8_restore_7 : decode cX8_restore 7 = .ok (.bipush (-103), 2) := by decide +kernel
theorem dX8_restore_9 : decode cX8_restore 9 = .ok (.ireturn, 1) := by decide +kernel
theorem dX8_restore_10 : decode cX8_restore 10 = .ok (.aload_n 0, 1) := by decide +kernel
theorem dX8_restore_11 : decode cX8_restore 11 = .ok (.getfield 26, 3) := by decide +kernel
theorem dX8_restore_14 : decode cX8_restore 14 = .ok (.aload_n 0, 1) := by decide +kernel
theorem dX8_restore_15 : decode cX8_restore 15 = .ok (.getfield 30, 3) := by decide +kernel
theorem dX8_restore_18 : decode cX8_restore 18 = .ok (.invokevirtual 245, 3) := by decide +kernel
theorem dX8_restore_21 : decode cX8_restore 21 = .ok (.aload_n 0, 1) := by decide +kernel
theorem dX8_restore_22 : decode cX8_restore 22 = .ok (.getfield 26, 3) := by decide +kernel
theorem dX8_restore_25 : decode cX8_restore 25 = .ok (.aload_n 0, 1) := by decide +kernel
theorem dX8_restore_26 : decode cX8_restore 26 = .ok (.getfield 19, 3) := by decide +kernel
theorem dX8_restore_29 : decode cX8_restore 29 = .ok (.invokevirtual 89, 3) := by decide +kernel
theorem dX8_restore_32 : decode cX8_restore 32 = .ok (.aload_n 0, 1) := by decide +kernel
theorem dX8_restore_33 : decode cX8_restore 33 = .ok (.getfield 53, 3) := by decide +kernel
theorem dX8_restore_36 : decode cX8_restore 36 = .ok (.invokevirtual 86, 3) := by decide +kernel
theorem dX8_restore_39 : decode cX8_restore 39 = .ok (.aload_n 0, 1) := by decide +kernel
theorem dX8_restore_40 : decode cX8_restore 40 = .ok (.getfield 26, 3) := by decide +kernel
theorem dX8_restore_43 : decode cX8_restore 43 = .ok (.getfield 151, 3) := by decide +kernel
theorem dX8_restore_46 : decode cX8_restore 46 = .ok (.ireturn, 1) := by decide +kernel
theorem dX8_count_0 : decode cX8_count 0 = .ok (.iload_n 1, 1) := by decide +kernel
theorem dX8_count_1 : decode cX8_count 1 = .ok (.tableswitch 150 0 11 #[63, 71, 79, 87, 95, 103, 111, 119, 127, 135, 140, 145], 63) := by decide +kernel
theorem dX8_count_64 : decode cX8_count 64 = .ok (.aload_n 0, 1) := by decide +kernel
theorem dX8_count_65 : decode cX8_count 65 = .ok (.getfield 19, 3) := by decide +kernel
theorem dX8_count_68 : decode cX8_count 68 = .ok (.getfield 267, 3) := by decide +kernel
theorem dX8_count_71 : decode cX8_count 71 = .ok (.ireturn, 1) := by decide +kernel
theorem dX8_count_72 : decode cX8_count 72 = .ok (.aload_n 0, 1) := by decide +kernel
theorem dX8_count_73 : decode cX8_count 73 = .ok (.getfield 26, 3) := by decide +kernel
theorem dX8_count_76 : decode cX8_count 76 = .ok (.getfield 270, 3) := by decide +kernel
theorem dX8_count_79 : decode cX8_count 79 = .ok (.ireturn, 1) := by decide +kernel
theorem dX8_count_80 : decode cX8_count 80 = .ok (.aload_n 0, 1) := by decide +kernel
theorem dX8_count_81 : decode cX8_count 81 = .ok (.getfield 26, 3) := by decide +kernel
theorem dX8_count_84 : decode cX8_count 84 = .ok (.invokevirtual 271, 3) := by decide +kernel
theorem dX8_count_87 : decode cX8_count 87 = .ok (.ireturn, 1) := by decide +kernel
theorem dX8_count_88 : decode cX8_count 88 = .ok (.aload_n 0, 1) := by decide +kernel
theorem dX8_count_89 : decode cX8_count 89 = .ok (.getfield 26, 3) := by decide +kernel
theorem dX8_count_92 : decode cX8_count 92 = .ok (.getfield 151, 3) := by decide +kernel
theorem dX8_count_95 : decode cX8_count 95 = .ok (.ireturn, 1) := by decide +kernel
theorem dX8_count_96 : decode cX8_count 96 = .ok (.aload_n 0, 1) := by decide +kernel
theorem dX8_count_97 : decode cX8_count 97 = .ok (.getfield 26, 3) := by decide +kernel
theorem dX8_count_100 : decode cX8_count 100 = .ok (.invokevirtual 255, 3) := by decide +kernel
theorem dX8_count_103 : decode cX8_count 103 = .ok (.ireturn, 1) := by decide +kernel
theorem dX8_count_104 : decode cX8_count 104 = .ok (.aload_n 0, 1) := by decide +kernel
theorem dX8_count_105 : decode cX8_count 105 = .ok (.getfield 26, 3) := by decide +kernel
theorem dX8_count_108 : decode cX8_count 108 = .ok (.invokevirtual 252, 3) := by decide +kernel
theorem dX8_count_111 : decode cX8_count 111 = .ok (.ireturn, 1) := by decide +kernel
theorem dX8_count_112 : decode cX8_count 112 = .ok (.aload_n 0, 1) := by decide +kernel
theorem dX8_count_113 : decode cX8_count 113 = .ok (.getfield 26, 3) := by decide +kernel
theorem dX8_count_116 : decode cX8_count 116 = .ok (.invokevirtual 274, 3) := by decide +kernel
theorem dX8_count_119 : decode cX8_count 119 = .ok (.ireturn, 1) := by decide +kernel
theorem dX8_count_120 : decode cX8_count 120 = .ok (.aload_n 0, 1) := by decide +kernel
theorem dX8_count_121 : decode cX8_count 121 = .ok (.getfield 53, 3) := by decide +kernel
theorem dX8_count_124 : decode cX8_count 124 = .ok (.getfield 223, 3) := by decide +kernel
theorem dX8_count_127 : decode cX8_count 127 = .ok (.ireturn, 1) := by decide +kernel
theorem dX8_count_128 : decode cX8_count 128 = .ok (.aload_n 0, 1) := by decide +kernel
theorem dX8_count_129 : decode cX8_count 129 = .ok (.getfield 10, 3) := by decide +kernel
theorem dX8_count_132 : decode cX8_count 132 = .ok (.getfield 65, 3) := by decide +kernel
theorem dX8_count_135 : decode cX8_count 135 = .ok (.ireturn, 1) := by decide +kernel
theorem dX8_count_136 : decode cX8_count 136 = .ok (.aload_n 0, 1) := by decide +kernel
theorem dX8_count_137 : decode cX8_count 137 = .ok (.getfield 83, 3) := by decide +kernel
theorem dX8_count_140 : decode cX8_count 140 = .ok (.ireturn, 1) := by decide +kernel
theorem dX8_count_141 : decode cX8_count 141 = .ok (.aload_n 0, 1) := by decide +kernel
theorem dX8_count_142 : decode cX8_count 142 = .ok (.getfield 199, 3) := by decide +kernel
theorem dX8_count_145 : decode cX8_count 145 = .ok (.ireturn, 1) := by decide +kernel
theorem dX8_count_146 : decode cX8_count 146 = .ok (.aload_n 0, 1) := by decide +kernel
theorem dX8_count_147 : decode cX8_count 147 = .ok (.getfield 233, 3) := by decide +kernel
theorem dX8_count_150 : decode cX8_count 150 = .ok (.ireturn, 1) := by decide +kernel
theorem dX8_count_151 : decode cX8_count 151 = .ok (.bipush (-102), 2) := by decide +kernel
theorem dX8_count_153 : decode cX8_count 153 = .ok (.ireturn, 1) := by decide +kernel
theorem dX8_digest_0 : decode cX8_digest 0 = .ok (.ldc2_w 277, 3) := by decide +kernel
theorem dX8_digest_3 : decode cX8_digest 3 = .ok (.lstore_n 1, 1) := by decide +kernel
theorem dX8_digest_4 : decode cX8_digest 4 = .ok (.iconst 0, 1) := by decide +kernel
theorem dX8_digest_5 : decode cX8_digest 5 = .ok (.istore_n 3, 1) := by decide +kernel
theorem dX8_digest_6 : decode cX8_digest 6 = .ok (.aload_n 0, 1) := by decide +kernel
theorem dX8_digest_7 : decode cX8_digest 7 = .ok (.getfield 83, 3) := by decide +kernel
theorem dX8_digest_10 : decode cX8_digest 10 = .ok (.ifCond .le 21, 3) := by decide +kernel
theorem dX8_digest_13 : decode cX8_digest 13 = .ok (.iload_n 3, 1) := by decide +kernel
theorem dX8_digest_14 : decode cX8_digest 14 = .ok (.iconst 4, 1) := by decide +kernel
theorem dX8_digest_15 : decode cX8_digest 15 = .ok (.if_icmp .ge 16, 3) := by decide +kernel
theorem dX8_digest_18 : decode cX8_digest 18 = .ok (.aload_n 0, 1) := by decide +kernel
theorem dX8_digest_19 : decode cX8_digest 19 = .ok (.lload_n 1, 1) := by decide +kernel
theorem dX8_digest_20 : decode cX8_digest 20 = .ok (.iload_n 3, 1) := by decide +kernel
theorem dX8_digest_21 : decode cX8_digest 21 = .ok (.invokevirtual 279, 3) := by decide +kernel
theorem dX8_digest_24 : decode cX8_digest 24 = .ok (.lstore_n 1, 1) := by decide +kernel
theorem dX8_digest_25 : decode cX8_digest 25 = .ok (.iinc 3 1, 3) := by decide +kernel
theorem dX8_digest_28 : decode cX8_digest 28 = .ok (.goto (-22), 3) := by decide +kernel
theorem dX8_digest_31 : decode cX8_digest 31 = .ok (.iconst 0, 1) := by decide +kernel
theorem dX8_digest_32 : decode cX8_digest 32 = .ok (.istore_n 3, 1) := by decide +kernel
theorem dX8_digest_33 : decode cX8_digest 33 = .ok (.iload_n 3, 1) := by decide +kernel
theorem dX8_digest_34 : decode cX8_digest 34 = .ok (.aload_n 0, 1) := by decide +kernel
theorem dX8_digest_35 : decode cX8_digest 35 = .ok (.getfield 26, 3) := by decide +kernel
theorem dX8_digest_38 : decode cX8_digest 38 = .ok (.getfield 270, 3) := by decide +kernel
theorem dX8_digest_41 : decode cX8_digest 41 = .ok (.if_icmp .ge 16, 3) := by decide +kernel
theorem dX8_digest_44 : decode cX8_digest 44 = .ok (.aload_n 0, 1) := by decide +kernel
theorem dX8_digest_45 : decode cX8_digest 45 = .ok (.lload_n 1, 1) := by decide +kernel
theorem dX8_digest_46 : decode cX8_digest 46 = .ok (.iload_n 3, 1) := by decide +kernel
theorem dX8_digest_47 : decode cX8_digest 47 = .ok (.invokevirtual 283, 3) := by decide +kernel
theorem dX8_digest_50 : decode cX8_digest 50 = .ok (.lstore_n 1, 1) := by decide +kernel
theorem dX8_digest_51 : decode cX8_digest 51 = .ok (.iinc 3 1, 3) := by decide +kernel
theorem dX8_digest_54 : decode cX8_digest 54 = .ok (.goto (-21), 3) := by decide +kernel
theorem dX8_digest_57 : decode cX8_digest 57 = .ok (.iconst 0, 1) := by decide +kernel
theorem dX8_digest_58 : decode cX8_digest 58 = .ok (.istore_n 3, 1) := by decide +kernel
theorem dX8_digest_59 : decode cX8_digest 59 = .ok (.iload_n 3, 1) := by decide +kernel
theorem dX8_digest_60 : decode cX8_digest 60 = .ok (.aload_n 0, 1) := by decide +kernel
theorem dX8_digest_61 : decode cX8_digest 61 = .ok (.getfield 10, 3) := by decide +kernel
theorem dX8_digest_64 : decode cX8_digest 64 = .ok (.getfield 65, 3) := by decide +kernel
theorem dX8_digest_67 : decode cX8_digest 67 = .ok (.if_icmp .ge 25, 3) := by decide +kernel
theorem dX8_digest_70 : decode cX8_digest 70 = .ok (.ldc2_w 286, 3) := by decide +kernel
theorem dX8_digest_73 : decode cX8_digest 73 = .ok (.lload_n 1, 1) := by decide +kernel
theorem dX8_digest_74 : decode cX8_digest 74 = .ok (.lmul, 1) := by decide +kernel
theorem dX8_digest_75 : decode cX8_digest 75 = .ok (.aload_n 0, 1) := by decide +kernel
theorem dX8_digest_76 : decode cX8_digest 76 = .ok (.getfield 10, 3) := by decide +kernel
theorem dX8_digest_79 : decode cX8_digest 79 = .ok (.iload_n 3, 1) := by decide +kernel
theorem dX8_digest_80 : decode cX8_digest 80 = .ok (.invokevirtual 288, 3) := by decide +kernel
theorem dX8_digest_83 : decode cX8_digest 83 = .ok (.i2l, 1) := by decide +kernel
theorem dX8_digest_84 : decode cX8_digest 84 = .ok (.ladd, 1) := by decide +kernel
theorem dX8_digest_85 : decode cX8_digest 85 = .ok (.lstore_n 1, 1) := by decide +kernel
theorem dX8_digest_86 : decode cX8_digest 86 = .ok (.iinc 3 1, 3) := by decide +kernel
theorem dX8_digest_89 : decode cX8_digest 89 = .ok (.goto (-30), 3) := by decide +kernel
theorem dX8_digest_92 : decode cX8_digest 92 = .ok (.iconst 0, 1) := by decide +kernel
theorem dX8_digest_93 : decode cX8_digest 93 = .ok (.istore_n 3, 1) := by decide +kernel
theorem dX8_digest_94 : decode cX8_digest 94 = .ok (.iload_n 3, 1) := by decide +kernel
theorem dX8_digest_95 : decode cX8_digest 95 = .ok (.bipush 12, 2) := by decide +kernel
theorem dX8_digest_97 : decode cX8_digest 97 = .ok (.if_icmp .ge 22, 3) := by decide +kernel
theorem dX8_digest_100 : decode cX8_digest 100 = .ok (.ldc2_w 286, 3) := by decide +kernel
theorem dX8_digest_103 : decode cX8_digest 103 = .ok (.lload_n 1, 1) := by decide +kernel
theorem dX8_digest_104 : decode cX8_digest 104 = .ok (.lmul, 1) := by decide +kernel
theorem dX8_digest_105 : decode cX8_digest 105 = .ok (.aload_n 0, 1) := by decide +kernel
theorem dX8_digest_106 : decode cX8_digest 106 = .ok (.iload_n 3, 1) := by decide +kernel
theorem dX8_digest_107 : decode cX8_digest 107 = .ok (.invokevirtual 291, 3) := by decide +kernel
theorem dX8_digest_110 : decode cX8_digest 110 = .ok (.i2l, 1) := by decide +kernel
theorem dX8_digest_111 : decode cX8_digest 111 = .ok (.ladd, 1) := by decide +kernel
theorem dX8_digest_112 : decode cX8_digest 112 = .ok (.lstore_n 1, 1) := by decide +kernel
theorem dX8_digest_113 : decode cX8_digest 113 = .ok (.iinc 3 1, 3) := by decide +kernel
theorem dX8_digest_116 : decode cX8_digest 116 = .ok (.goto (-22), 3) := by decide +kernel
theorem dX8_digest_119 : decode cX8_digest 119 = .ok (.lload_n 1, 1) := by decide +kernel
theorem dX8_digest_120 : decode cX8_digest 120 = .ok (.lreturn, 1) := by decide +kernel
theorem dX8_withDeed_0 : decode cX8_withDeed 0 = .ok (.lload_n 1, 1) := by decide +kernel
theorem dX8_withDeed_1 : decode cX8_withDeed 1 = .ok (.lstore 4, 2) := by decide +kernel
theorem dX8_withDeed_3 : decode cX8_withDeed 3 = .ok (.iconst 0, 1) := by decide +kernel
theorem dX8_withDeed_4 : decode cX8_withDeed 4 = .ok (.istore 6, 2) := by decide +kernel
theorem dX8_withDeed_6 : decode cX8_withDeed 6 = .ok (.iload 6, 2) := by decide +kernel
theorem dX8_withDeed_8 : decode cX8_withDeed 8 = .ok (.iconst 3, 1) := by decide +kernel
theorem dX8_withDeed_9 : decode cX8_withDeed 9 = .ok (.if_icmp .ge 26, 3) := by decide +kernel
theorem dX8_withDeed_12 : decode cX8_withDeed 12 = .ok (.ldc2_w 286, 3) := by decide +kernel
theorem dX8_withDeed_15 : decode cX8_withDeed 15 = .ok (.lload 4, 2) := by decide +kernel
theorem dX8_withDeed_17 : decode cX8_withDeed 17 = .ok (.lmul, 1) := by decide +kernel
theorem dX8_withDeed_18 : decode cX8_withDeed 18 = .ok (.aload_n 0, 1) := by decide +kernel
theorem dX8_withDeed_19 : decode cX8_withDeed 19 = .ok (.iload_n 3, 1) := by decide +kernel
theorem dX8_withDeed_20 : decode cX8_withDeed 20 = .ok (.iload 6, 2) := by decide +kernel
theorem dX8_withDeed_22 : decode cX8_withDeed 22 = .ok (.invokevirtual 294, 3) := by decide +kernel
theorem dX8_withDeed_25 : decode cX8_withDeed 25 = .ok (.i2l, 1) := by decide +kernel
theorem dX8_withDeed_26 : decode cX8_withDeed 26 = .ok (.ladd, 1) := by decide +kernel
theorem dX8_withDeed_27 : decode cX8_withDeed 27 = .ok (.lstore 4, 2) := by decide +kernel
theorem dX8_withDeed_29 : decode cX8_withDeed 29 = .ok (.iinc 6 1, 3) := by decide +kernel
theorem dX8_withDeed_32 : decode cX8_withDeed 32 = .ok (.goto (-26), 3) := by decide +kernel
theorem dX8_withDeed_35 : decode cX8_withDeed 35 = .ok (.ldc2_w 286, 3) := by decide +kernel
theorem dX8_withDeed_38 : decode cX8_withDeed 38 = .ok (.lload 4, 2) := by decide +kernel
theorem dX8_withDeed_40 : decode cX8_withDeed 40 = .ok (.lmul, 1) := by decide +kernel
theorem dX8_withDeed_41 : decode cX8_withDeed 41 = .ok (.aload_n 0, 1) := by decide +kernel
theorem dX8_withDeed_42 : decode cX8_withDeed 42 = .ok (.iload_n 3, 1) := by decide +kernel
theorem dX8_withDeed_43 : decode cX8_withDeed 43 = .ok (.invokevirtual 298, 3) := by decide +kernel
theorem dX8_withDeed_46 : decode cX8_withDeed 46 = .ok (.i2l, 1) := by decide +kernel
theorem dX8_withDeed_47 : decode cX8_withDeed 47 = .ok (.ladd, 1) := by decide +kernel
theorem dX8_withDeed_48 : decode cX8_withDeed 48 = .ok (.lreturn, 1) := by decide +kernel
theorem dX8_withPerson_0 : decode cX8_withPerson 0 = .ok (.lload_n 1, 1) := by decide +kernel
theorem dX8_withPerson_1 : decode cX8_withPerson 1 = .ok (.lstore 4, 2) := by decide +kernel
theorem dX8_withPerson_3 : decode cX8_withPerson 3 = .ok (.iconst 0, 1) := by decide +kernel
theorem dX8_withPerson_4 : decode cX8_withPerson 4 = .ok (.istore 6, 2) := by decide +kernel
theorem dX8_withPerson_6 : decode cX8_withPerson 6 = .ok (.iload 6, 2) := by decide +kernel
theorem dX8_withPerson_8 : decode cX8_withPerson 8 = .ok (.bipush 10, 2) := by decide +kernel
theorem dX8_withPerson_10 : decode cX8_withPerson 10 = .ok (.if_icmp .ge 26, 3) := by decide +kernel
theorem dX8_withPerson_13 : decode cX8_withPerson 13 = .ok (.ldc2_w 286, 3) := by decide +kernel
theorem dX8_withPerson_16 : decode cX8_withPerson 16 = .ok (.lload 4, 2) := by decide +kernel
theorem dX8_withPerson_18 : decode cX8_withPerson 18 = .ok (.lmul, 1) := by decide +kernel
theorem dX8_withPerson_19 : decode cX8_withPerson 19 = .ok (.aload_n 0, 1) := by decide +kernel
theorem dX8_withPerson_20 : decode cX8_withPerson 20 = .ok (.iload_n 3, 1) := by decide +kernel
theorem dX8_withPerson_21 : decode cX8_withPerson 21 = .ok (.iload 6, 2) := by decide +kernel
theorem dX8_withPerson_23 : decode cX8_withPerson 23 = .ok (.invokevirtual 301, 3) := by decide +kernel
theorem dX8_withPerson_26 : decode cX8_withPerson 26 = .ok (.i2l, 1) := by decide +kernel
theorem dX8_withPerson_27 : decode cX8_withPerson 27 = .ok (.ladd, 1) := by decide +kernel
theorem dX8_withPerson_28 : decode cX8_withPerson 28 = .ok (.lstore 4, 2) := by decide +kernel
theorem dX8_withPerson_30 : decode cX8_withPerson 30 = .ok (.iinc 6 1, 3) := by decide +kernel
theorem dX8_withPerson_33 : decode cX8_withPerson 33 = .ok (.goto (-27), 3) := by decide +kernel
theorem dX8_withPerson_36 : decode cX8_withPerson 36 = .ok (.iconst 0, 1) := by decide +kernel
theorem dX8_withPerson_37 : decode cX8_withPerson 37 = .ok (.istore 6, 2) := by decide +kernel
theorem dX8_withPerson_39 : decode cX8_withPerson 39 = .ok (.aload_n 0, 1) := by decide +kernel
theorem dX8_withPerson_40 : decode cX8_withPerson 40 = .ok (.getfield 26, 3) := by decide +kernel
theorem dX8_withPerson_43 : decode cX8_withPerson 43 = .ok (.iload_n 3, 1) := by decide +kernel
theorem dX8_withPerson_44 : decode cX8_withPerson 44 = .ok (.invokevirtual 141, 3) := by decide +kernel
theorem dX8_withPerson_47 : decode cX8_withPerson 47 = .ok (.ifCond .eq 32, 3) := by decide +kernel
theorem dX8_withPerson_50 : decode cX8_withPerson 50 = .ok (.iload 6, 2) := by decide +kernel
theorem dX8_withPerson_52 : decode cX8_withPerson 52 = .ok (.iconst 4, 1) := by decide +kernel
theorem dX8_withPerson_53 : decode cX8_withPerson 53 = .ok (.if_icmp .ge 26, 3) := by decide +kernel
theorem dX8_withPerson_56 : decode cX8_withPerson 56 = .ok (.ldc2_w 286, 3) := by decide +kernel
theorem dX8_withPerson_59 : decode cX8_withPerson 59 = .ok (.lload 4, 2) := by decide +kernel
theorem dX8_withPerson_61 : decode cX8_withPerson 61 = .ok (.lmul, 1) := by decide +kernel
theorem dX8_withPerson_62 : decode cX8_withPerson 62 = .ok (.aload_n 0, 1) := by decide +kernel
theorem dX8_withPerson_63 : decode cX8_withPerson 63 = .ok (.iload_n 3, 1) := by decide +kernel
theorem dX8_withPerson_64 : decode cX8_withPerson 64 = .ok (.iload 6, 2) := by decide +kernel
theorem dX8_withPerson_66 : decode cX8_withPerson 66 = .ok (.invokevirtual 304, 3) := by decide +kernel
theorem dX8_withPerson_69 : decode cX8_withPerson 69 = .ok (.i2l, 1) := by decide +kernel
theorem dX8_withPerson_70 : decode cX8_withPerson 70 = .ok (.ladd, 1) := by decide +kernel
theorem dX8_withPerson_71 : decode cX8_withPerson 71 = .ok (.lstore 4, 2) := by decide +kernel
theorem dX8_withPerson_73 : decode cX8_withPerson 73 = .ok (.iinc 6 1, 3) := by decide +kernel
theorem dX8_withPerson_76 : decode cX8_withPerson 76 = .ok (.goto (-37), 3) := by decide +kernel
theorem dX8_withPerson_79 : decode cX8_withPerson 79 = .ok (.lload 4, 2) := by decide +kernel
theorem dX8_withPerson_81 : decode cX8_withPerson 81 = .ok (.lreturn, 1) := by decide +kernel
theorem dX8_weeksOfServing_0 : decode cX8_weeksOfServing 0 = .ok (.aload_n 0, 1) := by decide +kernel
theorem dX8_weeksOfServing_1 : decode cX8_weeksOfServing 1 = .ok (.getfield 26, 3) := by decide +kernel
theorem dX8_weeksOfServing_4 : decode cX8_weeksOfServing 4 = .ok (.getfield 151, 3) := by decide +kernel
theorem dX8_weeksOfServing_7 : decode cX8_weeksOfServing 7 = .ok (.istore 4, 2) := by decide +kernel
theorem dX8_weeksOfServing_9 : decode cX8_weeksOfServing 9 = .ok (.aload_n 0, 1) := by decide +kernel
theorem dX8_weeksOfServing_10 : decode cX8_weeksOfServing 10 = .ok (.getfield 39, 3) := by decide +kernel
theorem dX8_weeksOfServing_13 : decode cX8_weeksOfServing 13 = .ok (.aload_n 1, 1) := by decide +kernel
theorem dX8_weeksOfServing_14 : decode cX8_weeksOfServing 14 = .ok (.invokevirtual 307, 3) := by decide +kernel
theorem dX8_weeksOfServing_17 : decode cX8_weeksOfServing 17 = .ok (.aload_n 0, 1) := by decide +kernel
theorem dX8_weeksOfServing_18 : decode cX8_weeksOfServing 18 = .ok (.getfield 39, 3) := by decide +kernel
theorem dX8_weeksOfServing_21 : decode cX8_weeksOfServing 21 = .ok (.getfield 220, 3) := by decide +kernel
theorem dX8_weeksOfServing_24 : decode cX8_weeksOfServing 24 = .ok (.ifCond .eq 19, 3) := by decide +kernel
theorem dX8_weeksOfServing_27 : decode cX8_weeksOfServing 27 = .ok (.iinc 4 1, 3) := by decide +kernel
theorem dX8_weeksOfServing_30 : decode cX8_weeksOfServing 30 = .ok (.aload_n 0, 1) := by decide +kernel
theorem dX8_weeksOfServing_31 : decode cX8_weeksOfServing 31 = .ok (.getfield 39, 3) := by decide +kernel
theorem dX8_weeksOfServing_34 : decode cX8_weeksOfServing 34 = .ok (.iload 4, 2) := by decide +kernel
theorem dX8_weeksOfServing_36 : decode cX8_weeksOfServing 36 = .ok (.aload_n 0, 1) := by decide +kernel
theorem dX8_weeksOfServing_37 : decode cX8_weeksOfServing 37 = .ok (.getfield 19, 3) := by decide +kernel
theorem dX8_weeksOfServing_40 : decode cX8_weeksOfServing 40 = .ok (.invokevirtual 310, 3) := by decide +kernel
theorem dX8_weeksOfServing_43 : decode cX8_weeksOfServing 43 = .ok (.iconst 0, 1) := by decide +kernel
theorem dX8_weeksOfServing_44 : decode cX8_weeksOfServing 44 = .ok (.istore 5, 2) := by decide +kernel
theorem dX8_weeksOfServing_46 : decode cX8_weeksOfServing 46 = .ok (.iload 5, 2) := by decide +kernel
theorem dX8_weeksOfServing_48 : decode cX8_weeksOfServing 48 = .ok (.bipush 9, 2) := by decide +kernel
theorem dX8_weeksOfServing_50 : decode cX8_weeksOfServing 50 = .ok (.if_icmp .gt 66, 3) := by decide +kernel
theorem dX8_weeksOfServing_53 : decode cX8_weeksOfServing 53 = .ok (.aload_n 0, 1) := by decide +kernel
theorem dX8_weeksOfServing_54 : decode cX8_weeksOfServing 54 = .ok (.getfield 39, 3) := by decide +kernel
theorem dX8_weeksOfServing_57 : decode cX8_weeksOfServing 57 = .ok (.iload_n 2, 1) := by decide +kernel
theorem dX8_weeksOfServing_58 : decode cX8_weeksOfServing 58 = .ok (.aload_n 0, 1) := by decide +kernel
theorem dX8_weeksOfServing_59 : decode cX8_weeksOfServing 59 = .ok (.getfield 19, 3) := by decide +kernel
theorem dX8_weeksOfServing_62 : decode cX8_weeksOfServing 62 = .ok (.iload_n 2, 1) := by decide +kernel
theorem dX8_weeksOfServing_63 : decode cX8_weeksOfServing 63 = .ok (.invokevirtual 99, 3) := by decide +kernel
theorem dX8_weeksOfServing_66 : decode cX8_weeksOfServing 66 = .ok (.iconst 0, 1) := by decide +kernel
theorem dX8_weeksOfServing_67 : decode cX8_weeksOfServing 67 = .ok (.aload_n 0, 1) := by decide +kernel
theorem dX8_weeksOfServing_68 : decode cX8_weeksOfServing 68 = .ok (.getfield 19, 3) := by decide +kernel
theorem dX8_weeksOfServing_71 : decode cX8_weeksOfServing 71 = .ok (.invokevirtual 314, 3) := by decide +kernel
theorem dX8_weeksOfServing_74 : decode cX8_weeksOfServing 74 = .ok (.ifCond .eq 6, 3) := by decide +kernel
theorem dX8_weeksOfServing_77 : decode cX8_weeksOfServing 77 = .ok (.iload 5, 2) := by decide +kernel
theorem dX8_weeksOfServing_79 : decode cX8_weeksOfServing 79 = .ok (.ireturn, 1) := by decide +kernel
theorem dX8_weeksOfServing_80 : decode cX8_weeksOfServing 80 = .ok (.aload_n 0, 1) := by decide +kernel
theorem dX8_weeksOfServing_81 : decode cX8_weeksOfServing 81 = .ok (.getfield 39, 3) := by decide +kernel
theorem dX8_weeksOfServing_84 : decode cX8_weeksOfServing 84 = .ok (.iload_n 3, 1) := by decide +kernel
theorem dX8_weeksOfServing_85 : decode cX8_weeksOfServing 85 = .ok (.aload_n 0, 1) := by decide +kernel
theorem dX8_weeksOfServing_86 : decode cX8_weeksOfServing 86 = .ok (.getfield 19, 3) := by decide +kernel
theorem dX8_weeksOfServing_89 : decode cX8_weeksOfServing 89 = .ok (.iload 4, 2) := by decide +kernel
theorem dX8_weeksOfServing_91 : decode cX8_weeksOfServing 91 = .ok (.invokevirtual 154, 3) := by decide +kernel
theorem dX8_weeksOfServing_94 : decode cX8_weeksOfServing 94 = .ok (.iinc 4 1, 3) := by decide +kernel
theorem dX8_weeksOfServing_97 : decode cX8_weeksOfServing 97 = .ok (.aload_n 0, 1) := by decide +kernel
theorem dX8_weeksOfServing_98 : decode cX8_weeksOfServing 98 = .ok (.getfield 39, 3) := by decide +kernel
theorem dX8_weeksOfServing_101 : decode cX8_weeksOfServing 101 = .ok (.iload 4, 2) := by decide +kernel
theorem dX8_weeksOfServing_103 : decode cX8_weeksOfServing 103 = .ok (.aload_n 0, 1) := by decide +kernel
theorem dX8_weeksOfServing_104 : decode cX8_weeksOfServing 104 = .ok (.getfield 19, 3) := by decide +kernel
theorem dX8_weeksOfServing_107 : decode cX8_weeksOfServing 107 = .ok (.invokevirtual 310, 3) := by decide +kernel
theorem dX8_weeksOfServing_110 : decode cX8_weeksOfServing 110 = .ok (.iinc 5 1, 3) := by decide +kernel
theorem dX8_weeksOfServing_113 : decode cX8_weeksOfServing 113 = .ok (.goto (-67), 3) := by decide +kernel
theorem dX8_weeksOfServing_116 : decode cX8_weeksOfServing 116 = .ok (.iconst (-1), 1) := by decide +kernel
theorem dX8_weeksOfServing_117 : decode cX8_weeksOfServing 117 = .ok (.ireturn, 1) := by decide +kernel
theorem dX8_arePair_0 : decode cX8_arePair 0 = .ok (.aload_n 0, 1) := by decide +kernel
theorem dX8_arePair_1 : decode cX8_arePair 1 = .ok (.getfield 26, 3) := by decide +kernel
theorem dX8_arePair_4 : decode cX8_arePair 4 = .ok (.iload_n 1, 1) := by decide +kernel
theorem dX8_arePair_5 : decode cX8_arePair 5 = .ok (.invokevirtual 141, 3) := by decide +kernel
theorem dX8_arePair_8 : decode cX8_arePair 8 = .ok (.ifCond .eq 23, 3) := by decide +kernel
theorem dX8_arePair_11 : decode cX8_arePair 11 = .ok (.aload_n 0, 1) := by decide +kernel
theorem dX8_arePair_12 : decode cX8_arePair 12 = .ok (.getfield 26, 3) := by decide +kernel
theorem dX8_arePair_15 : decode cX8_arePair 15 = .ok (.iload_n 2, 1) := by decide +kernel
theorem dX8_arePair_16 : decode cX8_arePair 16 = .ok (.invokevirtual 141, 3) := by decide +kernel
theorem dX8_arePair_19 : decode cX8_arePair 19 = .ok (.ifCond .eq 12, 3) := by decide +kernel
theorem dX8_arePair_22 : decode cX8_arePair 22 = .ok (.iload_n 1, 1) := by decide +kernel
theorem dX8_arePair_23 : decode cX8_arePair 23 = .ok (.iload_n 2, 1) := by decide +kernel
theorem dX8_arePair_24 : decode cX8_arePair 24 = .ok (.if_icmp .eq 7, 3) := by decide +kernel
theorem dX8_arePair_27 : decode cX8_arePair 27 = .ok (.iconst 1, 1) := by decide +kernel
theorem dX8_arePair_28 : decode cX8_arePair 28 = .ok (.goto 4, 3) := by decide +kernel
theorem dX8_arePair_31 : decode cX8_arePair 31 = .ok (.iconst 0, 1) := by decide +kernel
theorem dX8_arePair_32 : decode cX8_arePair 32 = .ok (.ireturn, 1) := by decide +kernel
theorem dX8_isDeed_0 : decode cX8_isDeed 0 = .ok (.iload_n 0, 1) := by decide +kernel
theorem dX8_isDeed_1 : decode cX8_isDeed 1 = .ok (.ifCond .lt 12, 3) := by decide +kernel
theorem dX8_isDeed_4 : decode cX8_isDeed 4 = .ok (.iload_n 0, 1) := by decide +kernel
theorem dX8_isDeed_5 : decode cX8_isDeed 5 = .ok (.iconst 4, 1) := by decide +kernel
theorem dX8_isDeed_6 : decode cX8_isDeed 6 = .ok (.if_icmp .ge 7, 3) := by decide +kernel
theorem dX8_isDeed_9 : decode cX8_isDeed 9 = .ok (.iconst 1, 1) := by decide +kernel
theorem dX8_isDeed_10 : decode cX8_isDeed 10 = .ok (.goto 4, 3) := by decide +kernel
theorem dX8_isDeed_13 : decode cX8_isDeed 13 = .ok (.iconst 0, 1) := by decide +kernel
theorem dX8_isDeed_14 : decode cX8_isDeed 14 = .ok (.ireturn, 1) := by decide +kernel
theorem dX8_isServing_0 : decode cX8_isServing 0 = .ok (.iload_n 0, 1) := by decide +kernel
theorem dX8_isServing_1 : decode cX8_isServing 1 = .ok (.ifCond .lt 12, 3) := by decide +kernel
theorem dX8_isServing_4 : decode cX8_isServing 4 = .ok (.iload_n 0, 1) := by decide +kernel
theorem dX8_isServing_5 : decode cX8_isServing 5 = .ok (.iconst 3, 1) := by decide +kernel
theorem dX8_isServing_6 : decode cX8_isServing 6 = .ok (.if_icmp .ge 7, 3) := by decide +kernel
theorem dX8_isServing_9 : decode cX8_isServing 9 = .ok (.iconst 1, 1) := by decide +kernel
theorem dX8_isServing_10 : decode cX8_isServing 10 = .ok (.goto 4, 3) := by decide +kernel
theorem dX8_isServing_13 : decode cX8_isServing 13 = .ok (.iconst 0, 1) := by decide +kernel
theorem dX8_isServing_14 : decode cX8_isServing 14 = .ok (.ireturn, 1) := by decide +kernel
theorem dX8_isCoveredDeed_0 : decode cX8_isCoveredDeed 0 = .ok (.iload_n 0, 1) := by decide +kernel
theorem dX8_isCoveredDeed_1 : decode cX8_isCoveredDeed 1 = .ok (.bipush 10, 2) := by decide +kernel
theorem dX8_isCoveredDeed_3 : decode cX8_isCoveredDeed 3 = .ok (.if_icmp .lt 13, 3) := by decide +kernel
theorem dX8_isCoveredDeed_6 : decode cX8_isCoveredDeed 6 = .ok (.iload_n 0, 1) := by decide +kernel
theorem dX8_isCoveredDeed_7 : decode cX8_isCoveredDeed 7 = .ok (.bipush 14, 2) := by decide +kernel
theorem dX8_isCoveredDeed_9 : decode cX8_isCoveredDeed 9 = .ok (.if_icmp .ge 7, 3) := by decide +kernel
theorem dX8_isCoveredDeed_12 : decode cX8_isCoveredDeed 12 = .ok (.iconst 1, 1) := by decide +kernel
theorem dX8_isCoveredDeed_13 : decode cX8_isCoveredDeed 13 = .ok (.goto 4, 3) := by decide +kernel
theorem dX8_isCoveredDeed_16 : decode cX8_isCoveredDeed 16 = .ok (.iconst 0, 1) := by decide +kernel
theorem dX8_isCoveredDeed_17 : decode cX8_isCoveredDeed 17 = .ok (.ireturn, 1) := by decide +kernel
theorem dX8_isBareDeed_0 : decode cX8_isBareDeed 0 = .ok (.iload_n 0, 1) := by decide +kernel
theorem dX8_isBareDeed_1 : decode cX8_isBareDeed 1 = .ok (.bipush 20, 2) := by decide +kernel
theorem dX8_isBareDeed_3 : decode cX8_isBareDeed 3 = .ok (.if_icmp .lt 13, 3) := by decide +kernel
theorem dX8_isBareDeed_6 : decode cX8_isBareDeed 6 = .ok (.iload_n 0, 1) := by decide +kernel
theorem dX8_isBareDeed_7 : decode cX8_isBareDeed 7 = .ok (.bipush 24, 2) := by decide +kernel
theorem dX8_isBareDeed_9 : decode cX8_isBareDeed 9 = .ok (.if_icmp .ge 7, 3) := by decide +kernel
theorem dX8_isBareDeed_12 : decode cX8_isBareDeed 12 = .ok (.iconst 1, 1) := by decide +kernel
theorem dX8_isBareDeed_13 : decode cX8_isBareDeed 13 = .ok (.goto 4, 3) := by decide +kernel
theorem dX8_isBareDeed_16 : decode cX8_isBareDeed 16 = .ok (.iconst 0, 1) := by decide +kernel
theorem dX8_isBareDeed_17 : decode cX8_isBareDeed 17 = .ok (.ireturn, 1) := by decide +kernel
theorem dX8_isAct_0 : decode cX8_isAct 0 = .ok (.iload_n 0, 1) := by decide +kernel
theorem dX8_isAct_1 : decode cX8_isAct 1 = .ok (.invokestatic 318, 3) := by decide +kernel
theorem dX8_isAct_4 : decode cX8_isAct 4 = .ok (.ifCond .ne 17, 3) := by decide +kernel
theorem dX8_isAct_7 : decode cX8_isAct 7 = .ok (.iload_n 0, 1) := by decide +kernel
theorem dX8_isAct_8 : decode cX8_isAct 8 = .ok (.invokestatic 321, 3) := by decide +kernel
theorem dX8_isAct_11 : decode cX8_isAct 11 = .ok (.ifCond .ne 10, 3) := by decide +kernel
theorem dX8_isAct_14 : decode cX8_isAct 14 = .ok (.iload_n 0, 1) := by decide +kernel
theorem dX8_isAct_15 : decode cX8_isAct 15 = .ok (.invokestatic 324, 3) := by decide +kernel
theorem dX8_isAct_18 : decode cX8_isAct 18 = .ok (.ifCond .eq 7, 3) := by decide +kernel
theorem dX8_isAct_21 : decode cX8_isAct 21 = .ok (.iconst 1, 1) := by decide +kernel
theorem dX8_isAct_22 : decode cX8_isAct 22 = .ok (.goto 4, 3) := by decide +kernel
theorem dX8_isAct_25 : decode cX8_isAct 25 = .ok (.iconst 0, 1) := by decide +kernel
theorem dX8_isAct_26 : decode cX8_isAct 26 = .ok (.ireturn, 1) := by decide +kernel
theorem dX8_actAt_0 : decode cX8_actAt 0 = .ok (.iload_n 0, 1) := by decide +kernel
theorem dX8_actAt_1 : decode cX8_actAt 1 = .ok (.ifCond .lt 19, 3) := by decide +kernel
theorem dX8_actAt_4 : decode cX8_actAt 4 = .ok (.iload_n 0, 1) := by decide +kernel
theorem dX8_actAt_5 : decode cX8_actAt 5 = .ok (.getstatic 327, 3) := by decide +kernel
theorem dX8_actAt_8 : decode cX8_actAt 8 = .ok (.arraylength, 1) := by decide +kernel
theorem dX8_actAt_9 : decode cX8_actAt 9 = .ok (.if_icmp .ge 11, 3) := by decide +kernel
theorem dX8_actAt_12 : decode cX8_actAt 12 = .ok (.getstatic 327, 3) := by decide +kernel
theorem dX8_actAt_15 : decode cX8_actAt 15 = .ok (.iload_n 0, 1) := by decide +kernel
theorem dX8_actAt_16 : decode cX8_actAt 16 = .ok (.iaload, 1) := by decide +kernel
theorem dX8_actAt_17 : decode cX8_actAt 17 = .ok (.goto 5, 3) := by decide +kernel
theorem dX8_actAt_20 : decode cX8_actAt 20 = .ok (.bipush 9, 2) := by decide +kernel
theorem dX8_actAt_22 : decode cX8_actAt 22 = .ok (.ireturn, 1) := by decide +kernel
theorem dX9_init_0 : decode cX9_init 0 = .ok (.aload_n 0, 1) := by decide +kernel
theorem dX9_init_1 : decode cX9_init 1 = .ok (.invokespecial 1, 3) := by decide +kernel
theorem dX9_init_4 : decode cX9_init 4 = .ok (.aload_n 0, 1) := by decide +kernel
theorem dX9_init_5 : decode cX9_init 5 = .ok (.iconst 4, 1) := by decide +kernel
theorem dX9_init_6 : decode cX9_init 6 = .ok (.newarray .int, 2) := by decide +kernel
theorem dX9_init_8 : decode cX9_init 8 = .ok (.putfield 7, 3) := by decide +kernel
theorem dX9_init_11 : decode cX9_init 11 = .ok (.aload_n 0, 1) := by decide +kernel
theorem dX9_init_12 : decode cX9_init 12 = .ok (.iconst 4, 1) := by decide +kernel
theorem dX9_init_13 : decode cX9_init 13 = .ok (.newarray .int, 2) := by decide +kernel
theorem dX9_init_15 : decode cX9_init 15 = .ok (.putfield 13, 3) := by decide +kernel
theorem dX9_init_18 : decode cX9_init 18 = .ok (.aload_n 0, 1) := by decide +kernel
theorem dX9_init_19 : decode cX9_init 19 = .ok (.iconst 4, 1) := by decide +kernel
theorem dX9_init_20 : decode cX9_init 20 = .ok (.newarray .int, 2) := by decide +kernel
theorem dX9_init_22 : decode cX9_init 22 = .ok (.putfield 16, 3) := by decide +kernel
theorem dX9_init_25 : decode cX9_init 25 = .ok (.aload_n 0, 1) := by decide +kernel
theorem dX9_init_26 : decode cX9_init 26 = .ok (.iconst 5, 1) := by decide +kernel
theorem dX9_init_27 : decode cX9_init 27 = .ok (.newarray .int, 2) := by decide +kernel
theorem dX9_init_29 : decode cX9_init 29 = .ok (.putfield 19, 3) := by decide +kernel
theorem dX9_init_32 : decode cX9_init 32 = .ok (.aload_n 0, 1) := by decide +kernel
theorem dX9_init_33 : decode cX9_init 33 = .ok (.iconst 5, 1) := by decide +kernel
theorem dX9_init_34 : decode cX9_init 34 = .ok (.newarray .int, 2) := by decide +kernel
theorem dX9_init_36 : decode cX9_init 36 = .ok (.putfield 22, 3) := by decide +kernel
theorem dX9_init_39 : decode cX9_init 39 = .ok (.aload_n 0, 1) := by decide +kernel
theorem dX9_init_40 : decode cX9_init 40 = .ok (.iconst 5, 1) := by decide +kernel
theorem dX9_init_41 : decode cX9_init 41 = .ok (.newarray .int, 2) := by decide +kernel
theorem dX9_init_43 : decode cX9_init 43 = .ok (.putfield 25, 3) := by decide +kernel
theorem dX9_init_46 : decode cX9_init 46 = .ok (.aload_n 0, 1) := by decide +kernel
theorem dX9_init_47 : decode cX9_init 47 = .ok (.iconst 5, 1) := by decide +kernel
theorem dX9_init_48 : decode cX9_init 48 = .ok (.newarray .int, 2) := by decide +kernel
theorem dX9_init_50 : decode cX9_init 50 = .ok (.putfield 28, 3) := by decide +kernel
theorem dX9_init_53 : decode cX9_init 53 = .ok (.aload_n 0, 1) := by decide +kernel
theorem dX9_init_54 : decode cX9_init 54 = .ok (.iconst 5, 1) := by decide +kernel
theorem dX9_init_55 : decode cX9_init 55 = .ok (.newarray .int, 2) := by decide +kernel
theorem dX9_init_57 : decode cX9_init 57 = .ok (.putfield 31, 3) := by decide +kernel
theorem dX9_init_60 : decode cX9_init 60 = .ok (.aload_n 0, 1) := by decide +kernel
theorem dX9_init_61 : decode cX9_init 61 = .ok (.iconst 5, 1) := by decide +kernel
theorem dX9_init_62 : decode cX9_init 62 = .ok (.newarray .int, 2) := by decide +kernel
theorem dX9_init_64 : decode cX9_init 64 = .ok (.putfield 34, 3) := by decide +kernel
theorem dX9_init_67 : decode cX9_init 67 = .ok (.aload_n 0, 1) := by decide +kernel
theorem dX9_init_68 : decode cX9_init 68 = .ok (.bipush 60, 2) := by decide +kernel
theorem dX9_init_70 : decode cX9_init 70 = .ok (.newarray .int, 2) := by decide +kernel
theorem dX9_init_72 : decode cX9_init 72 = .ok (.putfield 37, 3) := by decide +kernel
theorem dX9_init_75 : decode cX9_init 75 = .ok (.aload_n 0, 1) := by decide +kernel
theorem dX9_init_76 : decode cX9_init 76 = .ok (.bipush 30, 2) := by decide +kernel
theorem dX9_init_78 : decode cX9_init 78 = .ok (.newarray .byte, 2) := by decide +kernel
theorem dX9_init_80 : decode cX9_init 80 = .ok (.putfield 40, 3) := by decide +kernel
theorem dX9_init_83 : decode cX9_init 83 = .ok (.aload_n 0, 1) := by decide +kernel
theorem dX9_init_84 : decode cX9_init 84 = .ok (.iconst 4, 1) := by decide +kernel
theorem dX9_init_85 : decode cX9_init 85 = .ok (.newarray .int, 2) := by decide +kernel
theorem dX9_init_87 : decode cX9_init 87 = .ok (.putfield 44, 3) := by decide +kernel
theorem dX9_init_90 : decode cX9_init 90 = .ok (.aload_n 0, 1) := by decide +kernel
theorem dX9_init_91 : decode cX9_init 91 = .ok (.iconst 4, 1) := by decide +kernel
theorem dX9_init_92 : decode cX9_init 92 = .ok (.newarray .int, 2) := by decide +kernel
theorem dX9_init_94 : decode cX9_init 94 = .ok (.putfield 47, 3) := by decide +kernel
theorem dX9_init_97 : decode cX9_init 97 = .ok (.aload_n 0, 1) := by decide +kernel
theorem dX9_init_98 : decode cX9_init 98 = .ok (.iconst 4, 1) := by decide +kernel
theorem dX9_init_99 : decode cX9_init 99 = .ok (.newarray .int, 2) := by decide +kernel
theorem dX9_init_101 : decode cX9_init 101 = .ok (.putfield 50, 3) := by decide +kernel
theorem dX9_init_104 : decode cX9_init 104 = .ok (.aload_n 0, 1) := by decide +kernel
theorem dX9_init_105 : decode cX9_init 105 = .ok (.bipush 8, 2) := by decide +kernel
theorem dX9_init_107 : decode cX9_init 107 = .ok (.newarray .int, 2) := by decide +kernel
theorem dX9_init_109 : decode cX9_init 109 = .ok (.putfield 53, 3) := by decide +kernel
theorem dX9_init_112 : decode cX9_init 112 = .ok (.aload_n 0, 1) := by decide +kernel
theorem dX9_init_113 : decode cX9_init 113 = .ok (.bipush 8, 2) := by decide +kernel
theorem dX9_init_115 : decode cX9_init 115 = .ok (.newarray .int, 2) := by decide +kernel
theorem dX9_init_117 : decode cX9_init 117 = .ok (.putfield 56, 3) := by decide +kernel
theorem dX9_init_120 : decode cX9_init 120 = .ok (.aload_n 0, 1) := by decide +kernel
theorem dX9_init_121 : decode cX9_init 121 = .ok (.bipush 8, 2) := by decide +kernel
theorem dX9_init_123 : decode cX9_init 123 = .ok (.newarray .int, 2) := by decide +kernel
theorem dX9_init_125 : decode cX9_init 125 = .ok (.putfield 59, 3) := by decide +kernel
theorem dX9_init_128 : decode cX9_init 128 = .ok (.aload_n 0, 1) := by decide +kernel
theorem dX9_init_129 : decode cX9_init 129 = .ok (.bipush 96, 2) := by decide +kernel
theorem dX9_init_131 : decode cX9_init 131 = .ok (.newarray .int, 2) := by decide +kernel
theorem dX9_init_133 : decode cX9_init 133 = .ok (.putfield 62, 3) := by decide +kernel
theorem dX9_init_136 : decode cX9_init 136 = .ok (.aload_n 0, 1) := by decide +kernel
theorem dX9_init_137 : decode cX9_init 137 = .ok (.bipush 8, 2) := by decide +kernel
theorem dX9_init_139 : decode cX9_init 139 = .ok (.newarray .int, 2) := by decide +kernel
theorem dX9_init_141 : decode cX9_init 141 = .ok (.putfield 65, 3) := by decide +kernel
theorem dX9_init_144 : decode cX9_init 144 = .ok (.aload_n 0, 1) := by decide +kernel
theorem dX9_init_145 : decode cX9_init 145 = .ok (.iconst (-1), 1) := by decide +kernel
theorem dX9_init_146 : decode cX9_init 146 = .ok (.putfield 68, 3) := by decide +kernel
theorem dX9_init_149 : decode cX9_init 149 = .ok (.aload_n 0, 1) := by decide +kernel
theorem dX9_init_150 : decode cX9_init 150 = .ok (.iconst 5, 1) := by decide +kernel
theorem dX9_init_151 : decode cX9_init 151 = .ok (.newarray .int, 2) := by decide +kernel
theorem dX9_init_153 : decode cX9_init 153 = .ok (.putfield 72, 3) := by decide +kernel
theorem dX9_init_156 : decode cX9_init 156 = .ok (.aload_n 0, 1) := by decide +kernel
theorem dX9_init_157 : decode cX9_init 157 = .ok (.bipush 12, 2) := by decide +kernel
theorem dX9_init_159 : decode cX9_init 159 = .ok (.newarray .int, 2) := by decide +kernel
theorem dX9_init_161 : decode cX9_init 161 = .ok (.putfield 75, 3) := by decide +kernel
theorem dX9_init_164 : decode cX9_init 164 = .ok (.aload_n 0, 1) := by decide +kernel
theorem dX9_init_165 : decode cX9_init 165 = .ok (.iconst 4, 1) := by decide +kernel
theorem dX9_init_166 : decode cX9_init 166 = .ok (.newarray .int, 2) := by decide +kernel
theorem dX9_init_168 : decode cX9_init 168 = .ok (.putfield 78, 3) := by decide +kernel
theorem dX9_init_171 : decode cX9_init 171 = .ok (.aload_n 0, 1) := by decide +kernel
theorem dX9_init_172 : decode cX9_init 172 = .ok (.iconst 4, 1) := by decide +kernel
theorem dX9_init_173 : decode cX9_init 173 = .ok (.newarray .int, 2) := by decide +kernel
theorem dX9_init_175 : decode cX9_init 175 = .ok (.putfield 81, 3) := by decide +kernel
theorem dX9_init_178 : decode cX9_init 178 = .ok (.aload_n 0, 1) := by decide +kernel
theorem dX9_init_179 : decode cX9_init 179 = .ok (.iconst 4, 1) := by decide +kernel
theorem dX9_init_180 : decode cX9_init 180 = .ok (.newarray .int, 2) := by decide +kernel
theorem dX9_init_182 : decode cX9_init 182 = .ok (.putfield 84, 3) := by decide +kernel
theorem dX9_init_185 : decode cX9_init 185 = .ok (.aload_n 0, 1) := by decide +kernel
theorem dX9_init_186 : decode cX9_init 186 = .ok (.iconst 4, 1) := by decide +kernel
theorem dX9_init_187 : decode cX9_init 187 = .ok (.newarray .int, 2) := by decide +kernel
theorem dX9_init_189 : decode cX9_init 189 = .ok (.putfield 87, 3) := by decide +kernel
theorem dX9_init_192 : decode cX9_init 192 = .ok (.aload_n 0, 1) := by decide +kernel
theorem dX9_init_193 : decode cX9_init 193 = .ok (.bipush 48, 2) := by decide +kernel
theorem dX9_init_195 : decode cX9_init 195 = .ok (.newarray .int, 2) := by decide +kernel
theorem dX9_init_197 : decode cX9_init 197 = .ok (.putfield 90, 3) := by decide +kernel
theorem dX9_init_200 : decode cX9_init 200 = .ok (.aload_n 0, 1) := by decide +kernel
theorem dX9_init_201 : decode cX9_init 201 = .ok (.iconst 4, 1) := by decide +kernel
theorem dX9_init_202 : decode cX9_init 202 = .ok (.newarray .int, 2) := by decide +kernel
theorem dX9_init_204 : decode cX9_init 204 = .ok (.putfield 93, 3) := by decide +kernel
theorem dX9_init_207 : decode cX9_init 207 = .ok (.aload_n 0, 1) := by decide +kernel
theorem dX9_init_208 : decode cX9_init 208 = .ok (.iconst 4, 1) := by decide +kernel
theorem dX9_init_209 : decode cX9_init 209 = .ok (.newarray .int, 2) := by decide +kernel
theorem dX9_init_211 : decode cX9_init 211 = .ok (.putfield 96, 3) := by decide +kernel
theorem dX9_init_214 : decode cX9_init 214 = .ok (.aload_n 0, 1) := by decide +kernel
theorem dX9_init_215 : decode cX9_init 215 = .ok (.iconst 4, 1) := by decide +kernel
theorem dX9_init_216 : decode cX9_init 216 = .ok (.newarray .int, 2) := by decide +kernel
theorem dX9_init_218 : decode cX9_init 218 = .ok (.putfield 99, 3) := by decide +kernel
theorem dX9_init_221 : decode cX9_init 221 = .ok (.aload_n 0, 1) := by decide +kernel
theorem dX9_init_222 : decode cX9_init 222 = .ok (.iconst 4, 1) := by decide +kernel
theorem dX9_init_223 : decode cX9_init 223 = .ok (.newarray .int, 2) := by decide +kernel
theorem dX9_init_225 : decode cX9_init 225 = .ok (.putfield 102, 3) := by decide +kernel
theorem dX9_init_228 : decode cX9_init 228 = .ok (.aload_n 0, 1) := by decide +kernel
theorem dX9_init_229 : decode cX9_init 229 = .ok (.iconst 4, 1) := by decide +kernel
theorem dX9_init_230 : decode cX9_init 230 = .ok (.newarray .int, 2) := by decide +kernel
theorem dX9_init_232 : decode cX9_init 232 = .ok (.putfield 105, 3) := by decide +kernel
theorem dX9_init_235 : decode cX9_init 235 = .ok (.aload_n 0, 1) := by decide +kernel
theorem dX9_init_236 : decode cX9_init 236 = .ok (.bipush 48, 2) := by decide +kernel
theorem dX9_init_238 : decode cX9_init 238 = .ok (.newarray .int, 2) := by decide +kernel
theorem dX9_init_240 : decode cX9_init 240 = .ok (.putfield 108, 3) := by decide +kernel
theorem dX9_init_243 : decode cX9_init 243 = .ok (.return_, 1) := by decide +kernel
theorem dX9_within_0 : decode cX9_within 0 = .ok (.iload_n 0, 1) := by decide +kernel
theorem dX9_within_1 : decode cX9_within 1 = .ok (.iload_n 1, 1) := by decide +kernel
theorem dX9_within_2 : decode cX9_within 2 = .ok (.if_icmp .lt 12, 3) := by decide +kernel
theorem dX9_within_5 : decode cX9_within 5 = .ok (.iload_n 0, 1) := by decide +kernel
theorem dX9_within_6 : decode cX9_within 6 = .ok (.iload_n 2, 1) := by decide +kernel
theorem dX9_within_7 : decode cX9_within 7 = .ok (.if_icmp .gt 7, 3) := by decide +kernel
theorem dX9_within_10 : decode cX9_within 10 = .ok (.iconst 1, 1) := by decide +kernel
theorem dX9_within_11 : decode cX9_within 11 = .ok (.goto 4, 3) := by decide +kernel
theorem dX9_within_14 : decode cX9_within 14 = .ok (.iconst 0, 1) := by decide +kernel
theorem dX9_within_15 : decode cX9_within 15 = .ok (.ireturn, 1) := by decide +kernel
theorem dX9_has_0 : decode cX9_has 0 = .ok (.iload_n 0, 1) := by decide +kernel
theorem dX9_has_1 : decode cX9_has 1 = .ok (.iload_n 1, 1) := by decide +kernel
theorem dX9_has_2 : decode cX9_has 2 = .ok (.ishr, 1) := by decide +kernel
theorem dX9_has_3 : decode cX9_has 3 = .ok (.iconst 1, 1) := by decide +kernel
theorem dX9_has_4 : decode cX9_has 4 = .ok (.iand, 1) := by decide +kernel
theorem dX9_has_5 : decode cX9_has 5 = .ok (.iconst 1, 1) := by decide +kernel
theorem dX9_has_6 : decode cX9_has 6 = .ok (.if_icmp .ne 7, 3) := by decide +kernel
theorem dX9_has_9 : decode cX9_has 9 = .ok (.iconst 1, 1) := by decide +kernel
theorem dX9_has_10 : decode cX9_has 10 = .ok (.goto 4, 3) := by decide +kernel
theorem dX9_has_13 : decode cX9_has 13 = .ok (.iconst 0, 1) := by decide +kernel
theorem dX9_has_14 : decode cX9_has 14 = .ok (.ireturn, 1) := by decide +kernel
theorem dX9_letter_0 : decode cX9_letter 0 = .ok (.iload_n 1, 1) := by decide +kernel
theorem dX9_letter_1 : decode cX9_letter 1 = .ok (.bipush 32, 2) := by decide +kernel
theorem dX9_letter_3 : decode cX9_letter 3 = .ok (.bipush 126, 2) := by decide +kernel
theorem dX9_letter_5 : decode cX9_letter 5 = .ok (.invokestatic 111, 3) := by decide +kernel
theorem dX9_letter_8 : decode cX9_letter 8 = .ok (.ifCond .ne 6, 3) := by decide +kernel
theorem dX9_letter_11 : decode cX9_letter 11 = .ok (.bipush (-102), 2) := by decide +kernel
theorem dX9_letter_13 : decode cX9_letter 13 = .ok (.ireturn, 1) := by decide +kernel
theorem dX9_letter_14 : decode cX9_letter 14 = .ok (.aload_n 0, 1) := by decide +kernel
theorem dX9_letter_15 : decode cX9_letter 15 = .ok (.getfield 115, 3) := by decide +kernel
theorem dX9_letter_18 : decode cX9_letter 18 = .ok (.bipush 30, 2) := by decide +kernel
theorem dX9_letter_20 : decode cX9_letter 20 = .ok (.if_icmp .ne 6, 3) := by decide +kernel
theorem dX9_letter_23 : decode cX9_letter 23 = .ok (.bipush (-104), 2) := by decide +kernel
theorem dX9_letter_25 : decode cX9_letter 25 = .ok (.ireturn, 1) := by decide +kernel
theorem dX9_letter_26 : decode cX9_letter 26 = .ok (.aload_n 0, 1) := by decide +kernel
theorem dX9_letter_27 : decode cX9_letter 27 = .ok (.getfield 40, 3) := by decide +kernel
theorem dX9_letter_30 : decode cX9_letter 30 = .ok (.aload_n 0, 1) := by decide +kernel
theorem dX9_letter_31 : decode cX9_letter 31 = .ok (.getfield 115, 3) := by decide +kernel
theorem dX9_letter_34 : decode cX9_letter 34 = .ok (.iload_n 1, 1) := by decide +kernel
theorem dX9_letter_35 : decode cX9_letter 35 = .ok (.i2b, 1) := by decide +kernel
theorem dX9_letter_36 : decode cX9_letter 36 = .ok (.bastore, 1) := by decide +kernel
theorem dX9_letter_37 : decode cX9_letter 37 = .ok (.aload_n 0, 1) := by decide +kernel
theorem dX9_letter_38 : decode cX9_letter 38 = .ok (.dup, 1) := by decide +kernel
theorem dX9_letter_39 : decode cX9_letter 39 = .ok (.getfield 115, 3) := by decide +kernel
theorem dX9_letter_42 : decode cX9_letter 42 = .ok (.iconst 1, 1) := by decide +kernel
theorem dX9_letter_43 : decode cX9_letter 43 = .ok (.iadd, 1) := by decide +kernel
theorem dX9_letter_44 : decode cX9_letter 44 = .ok (.putfield 115, 3) := by decide +kernel
theorem dX9_letter_47 : decode cX9_letter 47 = .ok (.aload_n 0, 1) := by decide +kernel
theorem dX9_letter_48 : decode cX9_letter 48 = .ok (.getfield 115, 3) := by decide +kernel
theorem dX9_letter_51 : decode cX9_letter 51 = .ok (.ireturn, 1) := by decide +kernel
theorem dX9_blank_0 : decode cX9_blank 0 = .ok (.aload_n 0, 1) := by decide +kernel
theorem dX9_blank_1 : decode cX9_blank 1 = .ok (.getfield 115, 3) := by decide +kernel
theorem dX9_blank_4 : decode cX9_blank 4 = .ok (.istore_n 1, 1) := by decide +kernel
theorem dX9_blank_5 : decode cX9_blank 5 = .ok (.aload_n 0, 1) := by decide +kernel
theorem dX9_blank_6 : decode cX9_blank 6 = .ok (.iconst 0, 1) := by decide +kernel
theorem dX9_blank_7 : decode cX9_blank 7 = .ok (.putfield 115, 3) := by decide +kernel
theorem dX9_blank_10 : decode cX9_blank 10 = .ok (.iload_n 1, 1) := by decide +kernel
theorem dX9_blank_11 : decode cX9_blank 11 = .ok (.ireturn, 1) := by decide +kernel
theorem dX9_nextState_0 : decode cX9_nextState 0 = .ok (.iload_n 2, 1) := by decide +kernel
theorem dX9_nextState_1 : decode cX9_nextState 1 = .ok (.bipush 48, 2) := by decide +kernel
theorem dX9_nextState_3 : decode cX9_nextState 3 = .ok (.isub, 1) := by decide +kernel
theorem dX9_nextState_4 : decode cX9_nextState 4 = .ok (.istore_n 3, 1) := by decide +kernel
theorem dX9_nextState_5 : decode cX9_nextState 5 = .ok (.iload_n 1, 1) := by decide +kernel
theorem dX9_nextState_6 : decode cX9_nextState 6 = .ok (.tableswitch 142 0 5 #[38, 64, 90, 112, 112, 120], 38) := by decide +kernel
theorem dX9_nextState_44 : decode cX9_nextState 44 = .ok (.aload_n 0, 1) := by decide +kernel
theorem dX9_nextState_45 : decode cX9_nextState 45 = .ok (.getfield 44, 3) := by decide +kernel
theorem dX9_nextState_48 : decode cX9_nextState 48 = .ok (.aload_n 0, 1) := by decide +kernel
theorem dX9_nextState_49 : decode cX9_nextState 49 = .ok (.getfield 118, 3) := by decide +kernel
theorem dX9_nextState_52 : decode cX9_nextState 52 = .ok (.iload_n 3, 1) := by decide +kernel
theorem dX9_nextState_53 : decode cX9_nextState 53 = .ok (.iastore, 1) := by decide +kernel
theorem dX9_nextState_54 : decode cX9_nextState 54 = .ok (.iload_n 3, 1) := by decide +kernel
theorem dX9_nextState_55 : decode cX9_nextState 55 = .ok (.iconst 1, 1) := by decide +kernel
theorem dX9_nextState_56 : decode cX9_nextState 56 = .ok (.bipush 9, 2) := by decide +kernel
theorem dX9_nextState_58 : decode cX9_nextState 58 = .ok (.invokestatic 111, 3) := by decide +kernel
theorem dX9_nextState_61 : decode cX9_nextState 61 = .ok (.ifCond .eq 7, 3) := by decide +kernel
theorem dX9_nextState_64 : decode cX9_nextState 64 = .ok (.iconst 1, 1) := by decide +kernel
theorem dX9_nextState_65 : decode cX9_nextState 65 = .ok (.goto 4, 3) := by decide +kernel
theorem dX9_nextState_68 : decode cX9_nextState 68 = .ok (.iconst (-1), 1) := by decide +kernel
theorem dX9_nextState_69 : decode cX9_nextState 69 = .ok (.ireturn, 1) := by decide +kernel
theorem dX9_nextState_70 : decode cX9_nextState 70 = .ok (.aload_n 0, 1) := by decide +kernel
theorem dX9_nextState_71 : decode cX9_nextState 71 = .ok (.getfield 47, 3) := by decide +kernel
theorem dX9_nextState_74 : decode cX9_nextState 74 = .ok (.aload_n 0, 1) := by decide +kernel
theorem dX9_nextState_75 : decode cX9_nextState 75 = .ok (.getfield 118, 3) := by decide +kernel
theorem dX9_nextState_78 : decode cX9_nextState 78 = .ok (.iload_n 3, 1) := by decide +kernel
theorem dX9_nextState_79 : decode cX9_nextState 79 = .ok (.iastore, 1) := by decide +kernel
theorem dX9_nextState_80 : decode cX9_nextState 80 = .ok (.iload_n 3, 1) := by decide +kernel
theorem dX9_nextState_81 : decode cX9_nextState 81 = .ok (.iconst 0, 1) := by decide +kernel
theorem dX9_nextState_82 : decode cX9_nextState 82 = .ok (.bipush 9, 2) := by decide +kernel
theorem dX9_nextState_84 : decode cX9_nextState 84 = .ok (.invokestatic 111, 3) := by decide +kernel
theorem dX9_nextState_87 : decode cX9_nextState 87 = .ok (.ifCond .eq 7, 3) := by decide +kernel
theorem dX9_nextState_90 : decode cX9_nextState 90 = .ok (.iconst 2, 1) := by decide +kernel
theorem dX9_nextState_91 : decode cX9_nextState 91 = .ok (.goto 4, 3) := by decide +kernel
theorem dX9_nextState_94 : decode cX9_nextState 94 = .ok (.iconst (-1), 1) := by decide +kernel
theorem dX9_nextState_95 : decode cX9_nextState 95 = .ok (.ireturn, 1) := by decide +kernel
theorem dX9_nextState_96 : decode cX9_nextState 96 = .ok (.aload_n 0, 1) := by decide +kernel
theorem dX9_nextState_97 : decode cX9_nextState 97 = .ok (.getfield 50, 3) := by decide +kernel
theorem dX9_nextState_100 : decode cX9_nextState 100 = .ok (.aload_n 0, 1) := by decide +kernel
theorem dX9_nextState_101 : decode cX9_nextState 101 = .ok (.getfield 118, 3) := by decide +kernel
theorem dX9_nextState_104 : decode cX9_nextState 104 = .ok (.iconst 0, 1) := by decide +kernel
theorem dX9_nextState_105 : decode cX9_nextState 105 = .ok (.iastore, 1) := by decide +kernel
theorem dX9_nextState_106 : decode cX9_nextState 106 = .ok (.iload_n 2, 1) := by decide +kernel
theorem dX9_nextState_107 : decode cX9_nextState 107 = .ok (.bipush 58, 2) := by decide +kernel
theorem dX9_nextState_109 : decode cX9_nextState 109 = .ok (.if_icmp .ne 7, 3) := by decide +kernel
theorem dX9_nextState_112 : decode cX9_nextState 112 = .ok (.iconst 3, 1) := by decide +kernel
theorem dX9_nextState_113 : decode cX9_nextState 113 = .ok (.goto 4, 3) := by decide +kernel
theorem dX9_nextState_116 : decode cX9_nextState 116 = .ok (.iconst (-1), 1) := by decide +kernel
theorem dX9_nextState_117 : decode cX9_nextState 117 = .ok (.ireturn, 1) := by decide +kernel
theorem dX9_nextState_118 : decode cX9_nextState 118 = .ok (.aload_n 0, 1) := by decide +kernel
theorem dX9_nextState_119 : decode cX9_nextState 119 = .ok (.iload_n 1, 1) := by decide +kernel
theorem dX9_nextState_120 : decode cX9_nextState 120 = .ok (.iload_n 2, 1) := by decide +kernel
theorem dX9_nextState_121 : decode cX9_nextState 121 = .ok (.iload_n 3, 1) := by decide +kernel
theorem dX9_nextState_122 : decode cX9_nextState 122 = .ok (.invokevirtual 121, 3) := by decide +kernel
theorem dX9_nextState_125 : decode cX9_nextState 125 = .ok (.ireturn, 1) := by decide +kernel
theorem dX9_nextState_126 : decode cX9_nextState 126 = .ok (.aload_n 0, 1) := by decide +kernel
theorem dX9_nextState_127 : decode cX9_nextState 127 = .ok (.iload_n 3, 1) := by decide +kernel
theorem dX9_nextState_128 : decode cX9_nextState 128 = .ok (.putfield 125, 3) := by decide +kernel
theorem dX9_nextState_131 : decode cX9_nextState 131 = .ok (.iload_n 3, 1) := by decide +kernel
theorem dX9_nextState_132 : decode cX9_nextState 132 = .ok (.iconst 1, 1) := by decide +kernel
theorem dX9_nextState_133 : decode cX9_nextState 133 = .ok (.bipush 9, 2) := by decide +kernel
theorem dX9_nextState_135 : decode cX9_nextState 135 = .ok (.invokestatic 111, 3) := by decide +kernel
theorem dX9_nextState_138 : decode cX9_nextState 138 = .ok (.ifCond .eq 8, 3) := by decide +kernel
theorem dX9_nextState_141 : decode cX9_nextState 141 = .ok (.bipush 6, 2) := by decide +kernel
theorem dX9_nextState_143 : decode cX9_nextState 143 = .ok (.goto 4, 3) := by decide +kernel
theorem dX9_nextState_146 : decode cX9_nextState 146 = .ok (.iconst (-1), 1) := by decide +kernel
theorem dX9_nextState_147 : decode cX9_nextState 147 = .ok (.ireturn, 1) := by decide +kernel
theorem dX9_nextState_148 : decode cX9_nextState 148 = .ok (.iconst (-1), 1) := by decide +kernel
theorem dX9_nextState_149 : decode cX9_nextState 149 = .ok (.ireturn, 1) := by decide +kernel
theorem dX9_sortState_0 : decode cX9_sortState 0 = .ok (.iload_n 3, 1) := by decide +kernel
theorem dX9_sortState_1 : decode cX9_sortState 1 = .ok (.iconst 0, 1) := by decide +kernel
theorem dX9_sortState_2 : decode cX9_sortState 2 = .ok (.iconst 2, 1) := by decide +kernel
theorem dX9_sortState_3 : decode cX9_sortState 3 = .ok (.invokestatic 111, 3) := by decide +kernel
theorem dX9_sortState_6 : decode cX9_sortState 6 = .ok (.ifCond .eq 36, 3) := by decide +kernel
theorem dX9_sortState_9 : decode cX9_sortState 9 = .ok (.aload_n 0, 1) := by decide +kernel
theorem dX9_sortState_10 : decode cX9_sortState 10 = .ok (.getfield 50, 3) := by decide +kernel
theorem dX9_sortState_13 : decode cX9_sortState 13 = .ok (.aload_n 0, 1) := by decide +kernel
theorem dX9_sortState_14 : decode cX9_sortState 14 = .ok (.getfield 118, 3) := by decide +kernel
theorem dX9_sortState_17 : decode cX9_sortState 17 = .ok (.iaload, 1) := by decide +kernel
theorem dX9_sortState_18 : decode cX9_sortState 18 = .ok (.iload_n 3, 1) := by decide +kernel
theorem dX9_sortState_19 : decode cX9_sortState 19 = .ok (.invokestatic 128, 3) := by decide +kernel
theorem dX9_sortState_22 : decode cX9_sortState 22 = .ok (.ifCond .ne 20, 3) := by decide +kernel
theorem dX9_sortState_25 : decode cX9_sortState 25 = .ok (.aload_n 0, 1) := by decide +kernel
theorem dX9_sortState_26 : decode cX9_sortState 26 = .ok (.getfield 50, 3) := by decide +kernel
theorem dX9_sortState_29 : decode cX9_sortState 29 = .ok (.aload_n 0, 1) := by decide +kernel
theorem dX9_sortState_30 : decode cX9_sortState 30 = .ok (.getfield 118, 3) := by decide +kernel
theorem dX9_sortState_33 : decode cX9_sortState 33 = .ok (.dup2, 1) := by decide +kernel
theorem dX9_sortState_34 : decode cX9_sortState 34 = .ok (.iaload, 1) := by decide +kernel
theorem dX9_sortState_35 : decode cX9_sortState 35 = .ok (.iconst 1, 1) := by decide +kernel
theorem dX9_sortState_36 : decode cX9_sortState 36 = .ok (.iload_n 3, 1) := by decide +kernel
theorem dX9_sortState_37 : decode cX9_sortState 37 = .ok (.ishl, 1) := by decide +kernel
theorem dX9_sortState_38 : decode cX9_sortState 38 = .ok (.ior, 1) := by decide +kernel
theorem dX9_sortState_39 : decode cX9_sortState 39 = .ok (.iastore, 1) := by decide +kernel
theorem dX9_sortState_40 : decode cX9_sortState 40 = .ok (.iconst 4, 1) := by decide +kernel
theorem dX9_sortState_41 : decode cX9_sortState 41 = .ok (.ireturn, 1) := by decide +kernel
theorem dX9_sortState_42 : decode cX9_sortState 42 = .ok (.iload_n 1, 1) := by decide +kernel
theorem dX9_sortState_43 : decode cX9_sortState 43 = .ok (.iconst 3, 1) := by decide +kernel
theorem dX9_sortState_44 : decode cX9_sortState 44 = .ok (.if_icmp .ne 5, 3) := by decide +kernel
theorem dX9_sortState_47 : decode cX9_sortState 47 = .ok (.iconst (-1), 1) := by decide +kernel
theorem dX9_sortState_48 : decode cX9_sortState 48 = .ok (.ireturn, 1) := by decide +kernel
theorem dX9_sortState_49 : decode cX9_sortState 49 = .ok (.iload_n 2, 1) := by decide +kernel
theorem dX9_sortState_50 : decode cX9_sortState 50 = .ok (.bipush 47, 2) := by decide +kernel
theorem dX9_sortState_52 : decode cX9_sortState 52 = .ok (.if_icmp .ne 23, 3) := by decide +kernel
theorem dX9_sortState_55 : decode cX9_sortState 55 = .ok (.aload_n 0, 1) := by decide +kernel
theorem dX9_sortState_56 : decode cX9_sortState 56 = .ok (.getfield 118, 3) := by decide +kernel
theorem dX9_sortState_59 : decode cX9_sortState 59 = .ok (.iconst 3, 1) := by decide +kernel
theorem dX9_sortState_60 : decode cX9_sortState 60 = .ok (.if_icmp .ge 15, 3) := by decide +kernel
theorem dX9_sortState_63 : decode cX9_sortState 63 = .ok (.aload_n 0, 1) := by decide +kernel
theorem dX9_sortState_64 : decode cX9_sortState 64 = .ok (.dup, 1) := by decide +kernel
theorem dX9_sortState_65 : decode cX9_sortState 65 = .ok (.getfield 118, 3) := by decide +kernel
theorem dX9_sortState_68 : decode cX9_sortState 68 = .ok (.iconst 1, 1) := by decide +kernel
theorem dX9_sortState_69 : decode cX9_sortState 69 = .ok (.iadd, 1) := by decide +kernel
theorem dX9_sortState_70 : decode cX9_sortState 70 = .ok (.putfield 118, 3) := by decide +kernel
theorem dX9_sortState_73 : decode cX9_sortState 73 = .ok (.iconst 0, 1) := by decide +kernel
theorem dX9_sortState_74 : decode cX9_sortState 74 = .ok (.ireturn, 1) := by decide +kernel
theorem dX9_sortState_75 : decode cX9_sortState 75 = .ok (.iload_n 2, 1) := by decide +kernel
theorem dX9_sortState_76 : decode cX9_sortState 76 = .ok (.bipush 59, 2) := by decide +kernel
theorem dX9_sortState_78 : decode cX9_sortState 78 = .ok (.if_icmp .ne 15, 3) := by decide +kernel
theorem dX9_sortState_81 : decode cX9_sortState 81 = .ok (.aload_n 0, 1) := by decide +kernel
theorem dX9_sortState_82 : decode cX9_sortState 82 = .ok (.getfield 118, 3) := by decide +kernel
theorem dX9_sortState_85 : decode cX9_sortState 85 = .ok (.iconst 3, 1) := by decide +kernel
theorem dX9_sortState_86 : decode cX9_sortState 86 = .ok (.if_icmp .ne 7, 3) := by decide +kernel
theorem dX9_sortState_89 : decode cX9_sortState 89 = .ok (.iconst 5, 1) := by decide +kernel
theorem dX9_sortState_90 : decode cX9_sortState 90 = .ok (.goto 4, 3) := by decide +kernel
theorem dX9_sortState_93 : decode cX9_sortState 93 = .ok (.iconst (-1), 1) := by decide +kernel
theorem dX9_sortState_94 : decode cX9_sortState 94 = .ok (.ireturn, 1) := by decide +kernel
theorem dX9_readLaw_0 : decode cX9_readLaw 0 = .ok (.aload_n 0, 1) := by decide +kernel
theorem dX9_readLaw_1 : decode cX9_readLaw 1 = .ok (.iconst 0, 1) := by decide +kernel
theorem dX9_readLaw_2 : decode cX9_readLaw 2 = .ok (.putfield 118, 3) := by decide +kernel
theorem dX9_readLaw_5 : decode cX9_readLaw 5 = .ok (.iconst 0, 1) := by decide +kernel
theorem dX9_readLaw_6 : decode cX9_readLaw 6 = .ok (.istore_n 1, 1) := by decide +kernel
theorem dX9_readLaw_7 : decode cX9_readLaw 7 = .ok (.iconst 0, 1) := by decide +kernel
theorem dX9_readLaw_8 : decode cX9_readLaw 8 = .ok (.istore_n 2, 1) := by decide +kernel
theorem dX9_readLaw_9 : decode cX9_readLaw 9 = .ok (.iconst 1, 1) := by decide +kernel
theorem dX9_readLaw_10 : decode cX9_readLaw 10 = .ok (.istore_n 3, 1) := by decide +kernel
theorem dX9_readLaw_11 : decode cX9_readLaw 11 = .ok (.iload_n 2, 1) := by decide +kernel
theorem dX9_readLaw_12 : decode cX9_readLaw 12 = .ok (.aload_n 0, 1) := by decide +kernel
theorem dX9_readLaw_13 : decode cX9_readLaw 13 = .ok (.getfield 115, 3) := by decide +kernel
theorem dX9_readLaw_16 : decode cX9_readLaw 16 = .ok (.if_icmp .ge 58, 3) := by decide +kernel
theorem dX9_readLaw_19 : decode cX9_readLaw 19 = .ok (.iload_n 3, 1) := by decide +kernel
theorem dX9_readLaw_20 : decode cX9_readLaw 20 = .ok (.ifCond .eq 54, 3) := by decide +kernel
theorem dX9_readLaw_23 : decode cX9_readLaw 23 = .ok (.aload_n 0, 1) := by decide +kernel
theorem dX9_readLaw_24 : decode cX9_readLaw 24 = .ok (.iload_n 1, 1) := by decide +kernel
theorem dX9_readLaw_25 : decode cX9_readLaw 25 = .ok (.aload_n 0, 1) := by decide +kernel
theorem dX9_readLaw_26 : decode cX9_readLaw 26 = .ok (.getfield 40, 3) := by decide +kernel
theorem dX9_readLaw_29 : decode cX9_readLaw 29 = .ok (.iload_n 2, 1) := by decide +kernel
theorem dX9_readLaw_30 : decode cX9_readLaw 30 = .ok (.baload, 1) := by decide +kernel
theorem dX9_readLaw_31 : decode cX9_readLaw 31 = .ok (.invokevirtual 132, 3) := by decide +kernel
theorem dX9_readLaw_34 : decode cX9_readLaw 34 = .ok (.istore 4, 2) := by decide +kernel
theorem dX9_readLaw_36 : decode cX9_readLaw 36 = .ok (.iload 4, 2) := by decide +kernel
theorem dX9_readLaw_38 : decode cX9_readLaw 38 = .ok (.iconst (-1), 1) := by decide +kernel
theorem dX9_readLaw_39 : decode cX9_readLaw 39 = .ok (.if_icmp .eq 7, 3) := by decide +kernel
theorem dX9_readLaw_42 : decode cX9_readLaw 42 = .ok (.iconst 1, 1) := by decide +kernel
theorem dX9_readLaw_43 : decode cX9_readLaw 43 = .ok (.goto 4, 3) := by decide +kernel
theorem dX9_readLaw_46 : decode cX9_readLaw 46 = .ok (.iconst 0, 1) := by decide +kernel
theorem dX9_readLaw_47 : decode cX9_readLaw 47 = .ok (.istore_n 3, 1) := by decide +kernel
theorem dX9_readLaw_48 : decode cX9_readLaw 48 = .ok (.iload_n 3, 1) := by decide +kernel
theorem dX9_readLaw_49 : decode cX9_readLaw 49 = .ok (.ifCond .eq 8, 3) := by decide +kernel
theorem dX9_readLaw_52 : decode cX9_readLaw 52 = .ok (.iload 4, 2) := by decide +kernel
theorem dX9_readLaw_54 : decode cX9_readLaw 54 = .ok (.goto 4, 3) := by decide +kernel
theorem dX9_readLaw_57 : decode cX9_readLaw 57 = .ok (.iload_n 1, 1) := by decide +kernel
theorem dX9_readLaw_58 : decode cX9_readLaw 58 = .ok (.istore_n 1, 1) := by decide +kernel
theorem dX9_readLaw_59 : decode cX9_readLaw 59 = .ok (.iload_n 2, 1) := by decide +kernel
theorem dX9_readLaw_60 : decode cX9_readLaw 60 = .ok (.iload_n 3, 1) := by decide +kernel
theorem dX9_readLaw_61 : decode cX9_readLaw 61 = .ok (.ifCond .eq 7, 3) := by decide +kernel
theorem dX9_readLaw_64 : decode cX9_readLaw 64 = .ok (.iconst 1, 1) := by decide +kernel
theorem dX9_readLaw_65 : decode cX9_readLaw 65 = .ok (.goto 4, 3) := by decide +kernel
theorem dX9_readLaw_68 : decode cX9_readLaw 68 = .ok (.iconst 0, 1) := by decide +kernel
theorem dX9_readLaw_69 : decode cX9_readLaw 69 = .ok (.iadd, 1) := by decide +kernel
theorem dX9_readLaw_70 : decode cX9_readLaw 70 = .ok (.istore_n 2, 1) := by decide +kernel
theorem dX9_readLaw_71 : decode cX9_readLaw 71 = .ok (.goto (-60), 3) := by decide +kernel
theorem dX9_readLaw_74 : decode cX9_readLaw 74 = .ok (.aload_n 0, 1) := by decide +kernel
theorem dX9_readLaw_75 : decode cX9_readLaw 75 = .ok (.iload_n 2, 1) := by decide +kernel
theorem dX9_readLaw_76 : decode cX9_readLaw 76 = .ok (.putfield 136, 3) := by decide +kernel
theorem dX9_readLaw_79 : decode cX9_readLaw 79 = .ok (.aload_n 0, 1) := by decide +kernel
theorem dX9_readLaw_80 : decode cX9_readLaw 80 = .ok (.iload_n 2, 1) := by decide +kernel
theorem dX9_readLaw_81 : decode cX9_readLaw 81 = .ok (.aload_n 0, 1) := by decide +kernel
theorem dX9_readLaw_82 : decode cX9_readLaw 82 = .ok (.getfield 115, 3) := by decide +kernel
theorem dX9_readLaw_85 : decode cX9_readLaw 85 = .ok (.if_icmp .ne 13, 3) := by decide +kernel
theorem dX9_readLaw_88 : decode cX9_readLaw 88 = .ok (.iload_n 1, 1) := by decide +kernel
theorem dX9_readLaw_89 : decode cX9_readLaw 89 = .ok (.bipush 6, 2) := by decide +kernel
theorem dX9_readLaw_91 : decode cX9_readLaw 91 = .ok (.if_icmp .ne 7, 3) := by decide +kernel
theorem dX9_readLaw_94 : decode cX9_readLaw 94 = .ok (.iconst 1, 1) := by decide +kernel
theorem dX9_readLaw_95 : decode cX9_readLaw 95 = .ok (.goto 4, 3) := by decide +kernel
theorem dX9_readLaw_98 : decode cX9_readLaw 98 = .ok (.iconst 0, 1) := by decide +kernel
theorem dX9_readLaw_99 : decode cX9_readLaw 99 = .ok (.putfield 139, 3) := by decide +kernel
theorem dX9_readLaw_102 : decode cX9_readLaw 102 = .ok (.return_, 1) := by decide +kernel
theorem dX9_fault_0 : decode cX9_fault 0 = .ok (.aload_n 0, 1) := by decide +kernel
theorem dX9_fault_1 : decode cX9_fault 1 = .ok (.invokevirtual 143, 3) := by decide +kernel
theorem dX9_fault_4 : decode cX9_fault 4 = .ok (.aload_n 0, 1) := by decide +kernel
theorem dX9_fault_5 : decode cX9_fault 5 = .ok (.getfield 136, 3) := by decide +kernel
theorem dX9_fault_8 : decode cX9_fault 8 = .ok (.ireturn, 1) := by decide +kernel
theorem dX9_law_0 : decode cX9_law 0 = .ok (.aload_n 0, 1) := by decide +kernel
theorem dX9_law_1 : decode cX9_law 1 = .ok (.invokevirtual 143, 3) := by decide +kernel
theorem dX9_law_4 : decode cX9_law 4 = .ok (.aload_n 0, 1) := by decide +kernel
theorem dX9_law_5 : decode cX9_law 5 = .ok (.getfield 139, 3) := by decide +kernel
theorem dX9_law_8 : decode cX9_law 8 = .ok (.ifCond .ne 6, 3) := by decide +kernel
theorem dX9_law_11 : decode cX9_law 11 = .ok (.bipush (-103), 2) := by decide +kernel
theorem dX9_law_13 : decode cX9_law 13 = .ok (.ireturn, 1) := by decide +kernel
theorem dX9_law_14 : decode cX9_law 14 = .ok (.iconst 0, 1) := by decide +kernel
theorem dX9_law_15 : decode cX9_law 15 = .ok (.istore_n 1, 1) := by decide +kernel
theorem dX9_law_16 : decode cX9_law 16 = .ok (.iconst 0, 1) := by decide +kernel
theorem dX9_law_17 : decode cX9_law 17 = .ok (.istore_n 2, 1) := by decide +kernel
theorem dX9_law_18 : decode cX9_law 18 = .ok (.iload_n 2, 1) := by decide +kernel
theorem dX9_law_19 : decode cX9_law 19 = .ok (.iconst 4, 1) := by decide +kernel
theorem dX9_law_20 : decode cX9_law 20 = .ok (.if_icmp .ge 54, 3) := by decide +kernel
theorem dX9_law_23 : decode cX9_law 23 = .ok (.aload_n 0, 1) := by decide +kernel
theorem dX9_law_24 : decode cX9_law 24 = .ok (.getfield 7, 3) := by decide +kernel
theorem dX9_law_27 : decode cX9_law 27 = .ok (.iload_n 2, 1) := by decide +kernel
theorem dX9_law_28 : decode cX9_law 28 = .ok (.aload_n 0, 1) := by decide +kernel
theorem dX9_law_29 : decode cX9_law 29 = .ok (.getfield 44, 3) := by decide +kernel
theorem dX9_law_32 : decode cX9_law 32 = .ok (.iload_n 2, 1) := by decide +kernel
theorem dX9_law_33 : decode cX9_law 33 = .ok (.iaload, 1) := by decide +kernel
theorem dX9_law_34 : decode cX9_law 34 = .ok (.iastore, 1) := by decide +kernel
theorem dX9_law_35 : decode cX9_law 35 = .ok (.aload_n 0, 1) := by decide +kernel
theorem dX9_law_36 : decode cX9_law 36 = .ok (.getfield 13, 3) := by decide +kernel
theorem dX9_law_39 : decode cX9_law 39 = .ok (.iload_n 2, 1) := by decide +kernel
theorem dX9_law_40 : decode cX9_law 40 = .ok (.aload_n 0, 1) := by decide +kernel
theorem dX9_law_41 : decode cX9_law 41 = .ok (.getfield 47, 3) := by decide +kernel
