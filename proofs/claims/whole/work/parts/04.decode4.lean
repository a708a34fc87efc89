theorem e_Mo_mean_0 : decode b_Mo_mean 0 = .ok (.aload_n 0, 1) := by decide +kernel
theorem e_Mo_mean_1 : decode b_Mo_mean 1 = .ok (.aload_n 0, 1) := by decide +kernel
theorem e_Mo_mean_2 : decode b_Mo_mean 2 = .ok (.iconst 1, 1) := by decide +kernel
theorem e_Mo_mean_3 : decode b_Mo_mean 3 = .ok (.invokevirtual 264, 3) := by decide +kernel
theorem e_Mo_mean_6 : decode b_Mo_mean 6 = .ok (.invokevirtual 268, 3) := by decide +kernel
theorem e_Mo_mean_9 : decode b_Mo_mean 9 = .ok (.istore_n 2, 1) := by decide +kernel
theorem e_Mo_mean_10 : decode b_Mo_mean 10 = .ok (.aload_n 0, 1) := by decide +kernel
theorem e_Mo_mean_11 : decode b_Mo_mean 11 = .ok (.iload_n 1, 1) := by decide +kernel
theorem e_Mo_mean_12 : decode b_Mo_mean 12 = .ok (.iconst 0, 1) := by decide +kernel
theorem e_Mo_mean_13 : decode b_Mo_mean 13 = .ok (.iconst 1, 1) := by decide +kernel
theorem e_Mo_mean_14 : decode b_Mo_mean 14 = .ok (.invokevirtual 249, 3) := by decide +kernel
theorem e_Mo_mean_17 : decode b_Mo_mean 17 = .ok (.ifCond .eq 20, 3) := by decide +kernel
theorem e_Mo_mean_20 : decode b_Mo_mean 20 = .ok (.iload_n 2, 1) := by decide +kernel
theorem e_Mo_mean_21 : decode b_Mo_mean 21 = .ok (.ifCond .le 16, 3) := by decide +kernel
theorem e_Mo_mean_24 : decode b_Mo_mean 24 = .ok (.aload_n 0, 1) := by decide +kernel
theorem e_Mo_mean_25 : decode b_Mo_mean 25 = .ok (.aload_n 0, 1) := by decide +kernel
theorem e_Mo_mean_26 : decode b_Mo_mean 26 = .ok (.invokevirtual 343, 3) := by decide +kernel
theorem e_Mo_mean_29 : decode b_Mo_mean 29 = .ok (.iload_n 2, 1) := by decide +kernel
theorem e_Mo_mean_30 : decode b_Mo_mean 30 = .ok (.iload_n 1, 1) := by decide +kernel
theorem e_Mo_mean_31 : decode b_Mo_mean 31 = .ok (.invokevirtual 398, 3) := by decide +kernel
theorem e_Mo_mean_34 : decode b_Mo_mean 34 = .ok (.goto 6, 3) := by decide +kernel
theorem e_Mo_mean_37 : decode b_Mo_mean 37 = .ok (.ldc2_w 396, 3) := by decide +kernel
theorem e_Mo_mean_40 : decode b_Mo_mean 40 = .ok (.lreturn, 1) := by decide +kernel
theorem e_Mo_plan_0 : decode b_Mo_plan 0 = .ok (.iload_n 1, 1) := by decide +kernel
theorem e_Mo_plan_1 : decode b_Mo_plan 1 = .ok (.iconst (-1), 1) := by decide +kernel
theorem e_Mo_plan_2 : decode b_Mo_plan 2 = .ok (.if_icmp .ne 10, 3) := by decide +kernel
theorem e_Mo_plan_5 : decode b_Mo_plan 5 = .ok (.aload_n 0, 1) := by decide +kernel
theorem e_Mo_plan_6 : decode b_Mo_plan 6 = .ok (.iconst 0, 1) := by decide +kernel
theorem e_Mo_plan_7 : decode b_Mo_plan 7 = .ok (.putfield 139, 3) := by decide +kernel
theorem e_Mo_plan_10 : decode b_Mo_plan 10 = .ok (.iconst 0, 1) := by decide +kernel
theorem e_Mo_plan_11 : decode b_Mo_plan 11 = .ok (.ireturn, 1) := by decide +kernel
theorem e_Mo_plan_12 : decode b_Mo_plan 12 = .ok (.aload_n 0, 1) := by decide +kernel
theorem e_Mo_plan_13 : decode b_Mo_plan 13 = .ok (.iload_n 1, 1) := by decide +kernel
theorem e_Mo_plan_14 : decode b_Mo_plan 14 = .ok (.iconst 0, 1) := by decide +kernel
theorem e_Mo_plan_15 : decode b_Mo_plan 15 = .ok (.iconst 3, 1) := by decide +kernel
theorem e_Mo_plan_16 : decode b_Mo_plan 16 = .ok (.invokevirtual 249, 3) := by decide +kernel
theorem e_Mo_plan_19 : decode b_Mo_plan 19 = .ok (.ifCond .eq 21, 3) := by decide +kernel
theorem e_Mo_plan_22 : decode b_Mo_plan 22 = .ok (.aload_n 0, 1) := by decide +kernel
theorem e_Mo_plan_23 : decode b_Mo_plan 23 = .ok (.iload_n 1, 1) := by decide +kernel
theorem e_Mo_plan_24 : decode b_Mo_plan 24 = .ok (.iconst 1, 1) := by decide +kernel
theorem e_Mo_plan_25 : decode b_Mo_plan 25 = .ok (.iconst 2, 1) := by decide +kernel
theorem e_Mo_plan_26 : decode b_Mo_plan 26 = .ok (.invokevirtual 249, 3) := by decide +kernel
theorem e_Mo_plan_29 : decode b_Mo_plan 29 = .ok (.ifCond .eq 13, 3) := by decide +kernel
theorem e_Mo_plan_32 : decode b_Mo_plan 32 = .ok (.aload_n 0, 1) := by decide +kernel
theorem e_Mo_plan_33 : decode b_Mo_plan 33 = .ok (.iload_n 2, 1) := by decide +kernel
theorem e_Mo_plan_34 : decode b_Mo_plan 34 = .ok (.invokevirtual 257, 3) := by decide +kernel
theorem e_Mo_plan_37 : decode b_Mo_plan 37 = .ok (.ifCond .ne 5, 3) := by decide +kernel
theorem e_Mo_plan_40 : decode b_Mo_plan 40 = .ok (.iconst (-1), 1) := by decide +kernel
theorem e_Mo_plan_41 : decode b_Mo_plan 41 = .ok (.ireturn, 1) := by decide +kernel
theorem e_Mo_plan_42 : decode b_Mo_plan 42 = .ok (.iload_n 1, 1) := by decide +kernel
theorem e_Mo_plan_43 : decode b_Mo_plan 43 = .ok (.iconst 3, 1) := by decide +kernel
theorem e_Mo_plan_44 : decode b_Mo_plan 44 = .ok (.if_icmp .ne 17, 3) := by decide +kernel
theorem e_Mo_plan_47 : decode b_Mo_plan 47 = .ok (.aload_n 0, 1) := by decide +kernel
theorem e_Mo_plan_48 : decode b_Mo_plan 48 = .ok (.iload_n 2, 1) := by decide +kernel
theorem e_Mo_plan_49 : decode b_Mo_plan 49 = .ok (.iconst 0, 1) := by decide +kernel
theorem e_Mo_plan_50 : decode b_Mo_plan 50 = .ok (.bipush 9, 2) := by decide +kernel
theorem e_Mo_plan_52 : decode b_Mo_plan 52 = .ok (.invokevirtual 249, 3) := by decide +kernel
theorem e_Mo_plan_55 : decode b_Mo_plan 55 = .ok (.ifCond .ne 6, 3) := by decide +kernel
theorem e_Mo_plan_58 : decode b_Mo_plan 58 = .ok (.bipush (-2), 2) := by decide +kernel
theorem e_Mo_plan_60 : decode b_Mo_plan 60 = .ok (.ireturn, 1) := by decide +kernel
theorem e_Mo_plan_61 : decode b_Mo_plan 61 = .ok (.aload_n 0, 1) := by decide +kernel
theorem e_Mo_plan_62 : decode b_Mo_plan 62 = .ok (.getfield 139, 3) := by decide +kernel
theorem e_Mo_plan_65 : decode b_Mo_plan 65 = .ok (.bipush 10, 2) := by decide +kernel
theorem e_Mo_plan_67 : decode b_Mo_plan 67 = .ok (.if_icmp .ne 6, 3) := by decide +kernel
theorem e_Mo_plan_70 : decode b_Mo_plan 70 = .ok (.bipush (-4), 2) := by decide +kernel
theorem e_Mo_plan_72 : decode b_Mo_plan 72 = .ok (.ireturn, 1) := by decide +kernel
theorem e_Mo_plan_73 : decode b_Mo_plan 73 = .ok (.aload_n 0, 1) := by decide +kernel
theorem e_Mo_plan_74 : decode b_Mo_plan 74 = .ok (.getfield 145, 3) := by decide +kernel
theorem e_Mo_plan_77 : decode b_Mo_plan 77 = .ok (.aload_n 0, 1) := by decide +kernel
theorem e_Mo_plan_78 : decode b_Mo_plan 78 = .ok (.getfield 139, 3) := by decide +kernel
theorem e_Mo_plan_81 : decode b_Mo_plan 81 = .ok (.iload_n 1, 1) := by decide +kernel
theorem e_Mo_plan_82 : decode b_Mo_plan 82 = .ok (.iastore, 1) := by decide +kernel
theorem e_Mo_plan_83 : decode b_Mo_plan 83 = .ok (.aload_n 0, 1) := by decide +kernel
theorem e_Mo_plan_84 : decode b_Mo_plan 84 = .ok (.getfield 148, 3) := by decide +kernel
theorem e_Mo_plan_87 : decode b_Mo_plan 87 = .ok (.aload_n 0, 1) := by decide +kernel
theorem e_Mo_plan_88 : decode b_Mo_plan 88 = .ok (.getfield 139, 3) := by decide +kernel
theorem e_Mo_plan_91 : decode b_Mo_plan 91 = .ok (.iload_n 1, 1) := by decide +kernel
theorem e_Mo_plan_92 : decode b_Mo_plan 92 = .ok (.ifCond .le 7, 3) := by decide +kernel
theorem e_Mo_plan_95 : decode b_Mo_plan 95 = .ok (.iload_n 2, 1) := by decide +kernel
theorem e_Mo_plan_96 : decode b_Mo_plan 96 = .ok (.goto 4, 3) := by decide +kernel
theorem e_Mo_plan_99 : decode b_Mo_plan 99 = .ok (.iconst 0, 1) := by decide +kernel
theorem e_Mo_plan_100 : decode b_Mo_plan 100 = .ok (.iastore, 1) := by decide +kernel
theorem e_Mo_plan_101 : decode b_Mo_plan 101 = .ok (.aload_n 0, 1) := by decide +kernel
theorem e_Mo_plan_102 : decode b_Mo_plan 102 = .ok (.dup, 1) := by decide +kernel
theorem e_Mo_plan_103 : decode b_Mo_plan 103 = .ok (.getfield 139, 3) := by decide +kernel
theorem e_Mo_plan_106 : decode b_Mo_plan 106 = .ok (.iconst 1, 1) := by decide +kernel
theorem e_Mo_plan_107 : decode b_Mo_plan 107 = .ok (.iadd, 1) := by decide +kernel
theorem e_Mo_plan_108 : decode b_Mo_plan 108 = .ok (.putfield 139, 3) := by decide +kernel
theorem e_Mo_plan_111 : decode b_Mo_plan 111 = .ok (.aload_n 0, 1) := by decide +kernel
theorem e_Mo_plan_112 : decode b_Mo_plan 112 = .ok (.getfield 139, 3) := by decide +kernel
theorem e_Mo_plan_115 : decode b_Mo_plan 115 = .ok (.ireturn, 1) := by decide +kernel
theorem e_Mo_goPlan_0 : decode b_Mo_goPlan 0 = .ok (.iload_n 1, 1) := by decide +kernel
theorem e_Mo_goPlan_1 : decode b_Mo_goPlan 1 = .ok (.ifCond .ne 7, 3) := by decide +kernel
theorem e_Mo_goPlan_4 : decode b_Mo_goPlan 4 = .ok (.aload_n 0, 1) := by decide +kernel
theorem e_Mo_goPlan_5 : decode b_Mo_goPlan 5 = .ok (.invokevirtual 350, 3) := by decide +kernel
theorem e_Mo_goPlan_8 : decode b_Mo_goPlan 8 = .ok (.iload_n 1, 1) := by decide +kernel
theorem e_Mo_goPlan_9 : decode b_Mo_goPlan 9 = .ok (.iconst 1, 1) := by decide +kernel
theorem e_Mo_goPlan_10 : decode b_Mo_goPlan 10 = .ok (.if_icmp .ne 17, 3) := by decide +kernel
theorem e_Mo_goPlan_13 : decode b_Mo_goPlan 13 = .ok (.aload_n 0, 1) := by decide +kernel
theorem e_Mo_goPlan_14 : decode b_Mo_goPlan 14 = .ok (.getfield 39, 3) := by decide +kernel
theorem e_Mo_goPlan_17 : decode b_Mo_goPlan 17 = .ok (.iload_n 2, 1) := by decide +kernel
theorem e_Mo_goPlan_18 : decode b_Mo_goPlan 18 = .ok (.iaload, 1) := by decide +kernel
theorem e_Mo_goPlan_19 : decode b_Mo_goPlan 19 = .ok (.ifCond .ne 8, 3) := by decide +kernel
theorem e_Mo_goPlan_22 : decode b_Mo_goPlan 22 = .ok (.aload_n 0, 1) := by decide +kernel
theorem e_Mo_goPlan_23 : decode b_Mo_goPlan 23 = .ok (.iload_n 2, 1) := by decide +kernel
theorem e_Mo_goPlan_24 : decode b_Mo_goPlan 24 = .ok (.invokevirtual 260, 3) := by decide +kernel
theorem e_Mo_goPlan_27 : decode b_Mo_goPlan 27 = .ok (.iload_n 1, 1) := by decide +kernel
theorem e_Mo_goPlan_28 : decode b_Mo_goPlan 28 = .ok (.iconst 2, 1) := by decide +kernel
theorem e_Mo_goPlan_29 : decode b_Mo_goPlan 29 = .ok (.if_icmp .ne 18, 3) := by decide +kernel
theorem e_Mo_goPlan_32 : decode b_Mo_goPlan 32 = .ok (.aload_n 0, 1) := by decide +kernel
theorem e_Mo_goPlan_33 : decode b_Mo_goPlan 33 = .ok (.getfield 39, 3) := by decide +kernel
theorem e_Mo_goPlan_36 : decode b_Mo_goPlan 36 = .ok (.iload_n 2, 1) := by decide +kernel
theorem e_Mo_goPlan_37 : decode b_Mo_goPlan 37 = .ok (.iaload, 1) := by decide +kernel
theorem e_Mo_goPlan_38 : decode b_Mo_goPlan 38 = .ok (.iconst 2, 1) := by decide +kernel
theorem e_Mo_goPlan_39 : decode b_Mo_goPlan 39 = .ok (.if_icmp .eq 8, 3) := by decide +kernel
theorem e_Mo_goPlan_42 : decode b_Mo_goPlan 42 = .ok (.aload_n 0, 1) := by decide +kernel
theorem e_Mo_goPlan_43 : decode b_Mo_goPlan 43 = .ok (.iload_n 2, 1) := by decide +kernel
theorem e_Mo_goPlan_44 : decode b_Mo_goPlan 44 = .ok (.invokevirtual 271, 3) := by decide +kernel
theorem e_Mo_goPlan_47 : decode b_Mo_goPlan 47 = .ok (.iload_n 1, 1) := by decide +kernel
theorem e_Mo_goPlan_48 : decode b_Mo_goPlan 48 = .ok (.iconst 3, 1) := by decide +kernel
theorem e_Mo_goPlan_49 : decode b_Mo_goPlan 49 = .ok (.if_icmp .ne 8, 3) := by decide +kernel
theorem e_Mo_goPlan_52 : decode b_Mo_goPlan 52 = .ok (.aload_n 0, 1) := by decide +kernel
theorem e_Mo_goPlan_53 : decode b_Mo_goPlan 53 = .ok (.iload_n 2, 1) := by decide +kernel
theorem e_Mo_goPlan_54 : decode b_Mo_goPlan 54 = .ok (.putfield 13, 3) := by decide +kernel
theorem e_Mo_goPlan_57 : decode b_Mo_goPlan 57 = .ok (.return_, 1) := by decide +kernel
theorem e_Mo_ends_0 : decode b_Mo_ends 0 = .ok (.aload_n 0, 1) := by decide +kernel
theorem e_Mo_ends_1 : decode b_Mo_ends 1 = .ok (.iload_n 1, 1) := by decide +kernel
theorem e_Mo_ends_2 : decode b_Mo_ends 2 = .ok (.iconst 0, 1) := by decide +kernel
theorem e_Mo_ends_3 : decode b_Mo_ends 3 = .ok (.iconst 1, 1) := by decide +kernel
theorem e_Mo_ends_4 : decode b_Mo_ends 4 = .ok (.invokevirtual 249, 3) := by decide +kernel
theorem e_Mo_ends_7 : decode b_Mo_ends 7 = .ok (.ifCond .ne 5, 3) := by decide +kernel
theorem e_Mo_ends_10 : decode b_Mo_ends 10 = .ok (.iconst (-1), 1) := by decide +kernel
theorem e_Mo_ends_11 : decode b_Mo_ends 11 = .ok (.ireturn, 1) := by decide +kernel
theorem e_Mo_ends_12 : decode b_Mo_ends 12 = .ok (.aload_n 0, 1) := by decide +kernel
theorem e_Mo_ends_13 : decode b_Mo_ends 13 = .ok (.invokevirtual 360, 3) := by decide +kernel
theorem e_Mo_ends_16 : decode b_Mo_ends 16 = .ok (.iconst 0, 1) := by decide +kernel
theorem e_Mo_ends_17 : decode b_Mo_ends 17 = .ok (.istore_n 2, 1) := by decide +kernel
theorem e_Mo_ends_18 : decode b_Mo_ends 18 = .ok (.iload_n 2, 1) := by decide +kernel
theorem e_Mo_ends_19 : decode b_Mo_ends 19 = .ok (.aload_n 0, 1) := by decide +kernel
theorem e_Mo_ends_20 : decode b_Mo_ends 20 = .ok (.getfield 139, 3) := by decide +kernel
theorem e_Mo_ends_23 : decode b_Mo_ends 23 = .ok (.if_icmp .ge 25, 3) := by decide +kernel
theorem e_Mo_ends_26 : decode b_Mo_ends 26 = .ok (.aload_n 0, 1) := by decide +kernel
theorem e_Mo_ends_27 : decode b_Mo_ends 27 = .ok (.aload_n 0, 1) := by decide +kernel
theorem e_Mo_ends_28 : decode b_Mo_ends 28 = .ok (.getfield 145, 3) := by decide +kernel
theorem e_Mo_ends_31 : decode b_Mo_ends 31 = .ok (.iload_n 2, 1) := by decide +kernel
theorem e_Mo_ends_32 : decode b_Mo_ends 32 = .ok (.iaload, 1) := by decide +kernel
theorem e_Mo_ends_33 : decode b_Mo_ends 33 = .ok (.aload_n 0, 1) := by decide +kernel
theorem e_Mo_ends_34 : decode b_Mo_ends 34 = .ok (.getfield 148, 3) := by decide +kernel
theorem e_Mo_ends_37 : decode b_Mo_ends 37 = .ok (.iload_n 2, 1) := by decide +kernel
theorem e_Mo_ends_38 : decode b_Mo_ends 38 = .ok (.iaload, 1) := by decide +kernel
theorem e_Mo_ends_39 : decode b_Mo_ends 39 = .ok (.invokevirtual 402, 3) := by decide +kernel
theorem e_Mo_ends_42 : decode b_Mo_ends 42 = .ok (.iinc 2 1, 3) := by decide +kernel
theorem e_Mo_ends_45 : decode b_Mo_ends 45 = .ok (.goto (-27), 3) := by decide +kernel
theorem e_Mo_ends_48 : decode b_Mo_ends 48 = .ok (.iload_n 1, 1) := by decide +kernel
theorem e_Mo_ends_49 : decode b_Mo_ends 49 = .ok (.ifCond .ne 10, 3) := by decide +kernel
theorem e_Mo_ends_52 : decode b_Mo_ends 52 = .ok (.aload_n 0, 1) := by decide +kernel
theorem e_Mo_ends_53 : decode b_Mo_ends 53 = .ok (.getfield 16, 3) := by decide +kernel
theorem e_Mo_ends_56 : decode b_Mo_ends 56 = .ok (.goto 8, 3) := by decide +kernel
theorem e_Mo_ends_59 : decode b_Mo_ends 59 = .ok (.aload_n 0, 1) := by decide +kernel
theorem e_Mo_ends_60 : decode b_Mo_ends 60 = .ok (.iconst 1, 1) := by decide +kernel
theorem e_Mo_ends_61 : decode b_Mo_ends 61 = .ok (.invokevirtual 264, 3) := by decide +kernel
theorem e_Mo_ends_64 : decode b_Mo_ends 64 = .ok (.istore_n 2, 1) := by decide +kernel
theorem e_Mo_ends_65 : decode b_Mo_ends 65 = .ok (.aload_n 0, 1) := by decide +kernel
theorem e_Mo_ends_66 : decode b_Mo_ends 66 = .ok (.invokevirtual 363, 3) := by decide +kernel
theorem e_Mo_ends_69 : decode b_Mo_ends 69 = .ok (.iload_n 2, 1) := by decide +kernel
theorem e_Mo_ends_70 : decode b_Mo_ends 70 = .ok (.ireturn, 1) := by decide +kernel
theorem e_Mo_book_0 : decode b_Mo_book 0 = .ok (.iload_n 1, 1) := by decide +kernel
theorem e_Mo_book_1 : decode b_Mo_book 1 = .ok (.iconst (-1), 1) := by decide +kernel
theorem e_Mo_book_2 : decode b_Mo_book 2 = .ok (.if_icmp .ne 10, 3) := by decide +kernel
theorem e_Mo_book_5 : decode b_Mo_book 5 = .ok (.aload_n 0, 1) := by decide +kernel
theorem e_Mo_book_6 : decode b_Mo_book 6 = .ok (.iconst 0, 1) := by decide +kernel
theorem e_Mo_book_7 : decode b_Mo_book 7 = .ok (.putfield 142, 3) := by decide +kernel
theorem e_Mo_book_10 : decode b_Mo_book 10 = .ok (.iconst 0, 1) := by decide +kernel
theorem e_Mo_book_11 : decode b_Mo_book 11 = .ok (.ireturn, 1) := by decide +kernel
theorem e_Mo_book_12 : decode b_Mo_book 12 = .ok (.aload_n 0, 1) := by decide +kernel
theorem e_Mo_book_13 : decode b_Mo_book 13 = .ok (.iload_n 1, 1) := by decide +kernel
theorem e_Mo_book_14 : decode b_Mo_book 14 = .ok (.invokevirtual 257, 3) := by decide +kernel
theorem e_Mo_book_17 : decode b_Mo_book 17 = .ok (.ifCond .ne 5, 3) := by decide +kernel
theorem e_Mo_book_20 : decode b_Mo_book 20 = .ok (.iconst (-1), 1) := by decide +kernel
theorem e_Mo_book_21 : decode b_Mo_book 21 = .ok (.ireturn, 1) := by decide +kernel
theorem e_Mo_book_22 : decode b_Mo_book 22 = .ok (.aload_n 0, 1) := by decide +kernel
theorem e_Mo_book_23 : decode b_Mo_book 23 = .ok (.iload_n 2, 1) := by decide +kernel
theorem e_Mo_book_24 : decode b_Mo_book 24 = .ok (.invokevirtual 253, 3) := by decide +kernel
theorem e_Mo_book_27 : decode b_Mo_book 27 = .ok (.ifCond .ne 6, 3) := by decide +kernel
theorem e_Mo_book_30 : decode b_Mo_book 30 = .ok (.bipush (-2), 2) := by decide +kernel
theorem e_Mo_book_32 : decode b_Mo_book 32 = .ok (.ireturn, 1) := by decide +kernel
theorem e_Mo_book_33 : decode b_Mo_book 33 = .ok (.aload_n 0, 1) := by decide +kernel
theorem e_Mo_book_34 : decode b_Mo_book 34 = .ok (.getfield 142, 3) := by decide +kernel
theorem e_Mo_book_37 : decode b_Mo_book 37 = .ok (.bipush 8, 2) := by decide +kernel
theorem e_Mo_book_39 : decode b_Mo_book 39 = .ok (.if_icmp .ne 6, 3) := by decide +kernel
theorem e_Mo_book_42 : decode b_Mo_book 42 = .ok (.bipush (-4), 2) := by decide +kernel
theorem e_Mo_book_44 : decode b_Mo_book 44 = .ok (.ireturn, 1) := by decide +kernel
theorem e_Mo_book_45 : decode b_Mo_book 45 = .ok (.aload_n 0, 1) := by decide +kernel
theorem e_Mo_book_46 : decode b_Mo_book 46 = .ok (.getfield 151, 3) := by decide +kernel
theorem e_Mo_book_49 : decode b_Mo_book 49 = .ok (.aload_n 0, 1) := by decide +kernel
theorem e_Mo_book_50 : decode b_Mo_book 50 = .ok (.getfield 142, 3) := by decide +kernel
theorem e_Mo_book_53 : decode b_Mo_book 53 = .ok (.iload_n 1, 1) := by decide +kernel
theorem e_Mo_book_54 : decode b_Mo_book 54 = .ok (.iastore, 1) := by decide +kernel
theorem e_Mo_book_55 : decode b_Mo_book 55 = .ok (.aload_n 0, 1) := by decide +kernel
theorem e_Mo_book_56 : decode b_Mo_book 56 = .ok (.getfield 154, 3) := by decide +kernel
theorem e_Mo_book_59 : decode b_Mo_book 59 = .ok (.aload_n 0, 1) := by decide +kernel
theorem e_Mo_book_60 : decode b_Mo_book 60 = .ok (.getfield 142, 3) := by decide +kernel
theorem e_Mo_book_63 : decode b_Mo_book 63 = .ok (.iload_n 2, 1) := by decide +kernel
theorem e_Mo_book_64 : decode b_Mo_book 64 = .ok (.iastore, 1) := by decide +kernel
theorem e_Mo_book_65 : decode b_Mo_book 65 = .ok (.aload_n 0, 1) := by decide +kernel
theorem e_Mo_book_66 : decode b_Mo_book 66 = .ok (.dup, 1) := by decide +kernel
theorem e_Mo_book_67 : decode b_Mo_book 67 = .ok (.getfield 142, 3) := by decide +kernel
theorem e_Mo_book_70 : decode b_Mo_book 70 = .ok (.iconst 1, 1) := by decide +kernel
theorem e_Mo_book_71 : decode b_Mo_book 71 = .ok (.iadd, 1) := by decide +kernel
theorem e_Mo_book_72 : decode b_Mo_book 72 = .ok (.putfield 142, 3) := by decide +kernel
theorem e_Mo_book_75 : decode b_Mo_book 75 = .ok (.aload_n 0, 1) := by decide +kernel
theorem e_Mo_book_76 : decode b_Mo_book 76 = .ok (.getfield 142, 3) := by decide +kernel
theorem e_Mo_book_79 : decode b_Mo_book 79 = .ok (.ireturn, 1) := by decide +kernel
theorem e_Mo_looked_0 : decode b_Mo_looked 0 = .ok (.iconst 0, 1) := by decide +kernel
theorem e_Mo_looked_1 : decode b_Mo_looked 1 = .ok (.istore_n 1, 1) := by decide +kernel
theorem e_Mo_looked_2 : decode b_Mo_looked 2 = .ok (.iload_n 1, 1) := by decide +kernel
theorem e_Mo_looked_3 : decode b_Mo_looked 3 = .ok (.aload_n 0, 1) := by decide +kernel
theorem e_Mo_looked_4 : decode b_Mo_looked 4 = .ok (.getfield 142, 3) := by decide +kernel
theorem e_Mo_looked_7 : decode b_Mo_looked 7 = .ok (.if_icmp .ge 31, 3) := by decide +kernel
theorem e_Mo_looked_10 : decode b_Mo_looked 10 = .ok (.aload_n 0, 1) := by decide +kernel
theorem e_Mo_looked_11 : decode b_Mo_looked 11 = .ok (.getfield 33, 3) := by decide +kernel
theorem e_Mo_looked_14 : decode b_Mo_looked 14 = .ok (.aload_n 0, 1) := by decide +kernel
theorem e_Mo_looked_15 : decode b_Mo_looked 15 = .ok (.getfield 151, 3) := by decide +kernel
theorem e_Mo_looked_18 : decode b_Mo_looked 18 = .ok (.iload_n 1, 1) := by decide +kernel
theorem e_Mo_looked_19 : decode b_Mo_looked 19 = .ok (.iaload, 1) := by decide +kernel
theorem e_Mo_looked_20 : decode b_Mo_looked 20 = .ok (.iaload, 1) := by decide +kernel
theorem e_Mo_looked_21 : decode b_Mo_looked 21 = .ok (.aload_n 0, 1) := by decide +kernel
theorem e_Mo_looked_22 : decode b_Mo_looked 22 = .ok (.getfield 154, 3) := by decide +kernel
theorem e_Mo_looked_25 : decode b_Mo_looked 25 = .ok (.iload_n 1, 1) := by decide +kernel
theorem e_Mo_looked_26 : decode b_Mo_looked 26 = .ok (.iaload, 1) := by decide +kernel
theorem e_Mo_looked_27 : decode b_Mo_looked 27 = .ok (.if_icmp .eq 5, 3) := by decide +kernel
theorem e_Mo_looked_30 : decode b_Mo_looked 30 = .ok (.iload_n 1, 1) := by decide +kernel
theorem e_Mo_looked_31 : decode b_Mo_looked 31 = .ok (.ireturn, 1) := by decide +kernel
theorem e_Mo_looked_32 : decode b_Mo_looked 32 = .ok (.iinc 1 1, 3) := by decide +kernel
theorem e_Mo_looked_35 : decode b_Mo_looked 35 = .ok (.goto (-33), 3) := by decide +kernel
theorem e_Mo_looked_38 : decode b_Mo_looked 38 = .ok (.bipush (-5), 2) := by decide +kernel
theorem e_Mo_looked_40 : decode b_Mo_looked 40 = .ok (.ireturn, 1) := by decide +kernel
theorem e_Mo_judge_0 : decode b_Mo_judge 0 = .ok (.aload_n 0, 1) := by decide +kernel
theorem e_Mo_judge_1 : decode b_Mo_judge 1 = .ok (.iload_n 1, 1) := by decide +kernel
theorem e_Mo_judge_2 : decode b_Mo_judge 2 = .ok (.invokevirtual 406, 3) := by decide +kernel
theorem e_Mo_judge_5 : decode b_Mo_judge 5 = .ok (.ifCond .ne 5, 3) := by decide +kernel
theorem e_Mo_judge_8 : decode b_Mo_judge 8 = .ok (.iconst (-1), 1) := by decide +kernel
theorem e_Mo_judge_9 : decode b_Mo_judge 9 = .ok (.ireturn, 1) := by decide +kernel
theorem e_Mo_judge_10 : decode b_Mo_judge 10 = .ok (.aload_n 0, 1) := by decide +kernel
theorem e_Mo_judge_11 : decode b_Mo_judge 11 = .ok (.getfield 232, 3) := by decide +kernel
theorem e_Mo_judge_14 : decode b_Mo_judge 14 = .ok (.iload_n 1, 1) := by decide +kernel
theorem e_Mo_judge_15 : decode b_Mo_judge 15 = .ok (.iaload, 1) := by decide +kernel
theorem e_Mo_judge_16 : decode b_Mo_judge 16 = .ok (.ifCond .lt 16, 3) := by decide +kernel
theorem e_Mo_judge_19 : decode b_Mo_judge 19 = .ok (.aload_n 0, 1) := by decide +kernel
theorem e_Mo_judge_20 : decode b_Mo_judge 20 = .ok (.getfield 232, 3) := by decide +kernel
theorem e_Mo_judge_23 : decode b_Mo_judge 23 = .ok (.iload_n 1, 1) := by decide +kernel
theorem e_Mo_judge_24 : decode b_Mo_judge 24 = .ok (.iaload, 1) := by decide +kernel
theorem e_Mo_judge_25 : decode b_Mo_judge 25 = .ok (.iconst 3, 1) := by decide +kernel
theorem e_Mo_judge_26 : decode b_Mo_judge 26 = .ok (.if_icmp .eq 6, 3) := by decide +kernel
theorem e_Mo_judge_29 : decode b_Mo_judge 29 = .ok (.bipush (-12), 2) := by decide +kernel
theorem e_Mo_judge_31 : decode b_Mo_judge 31 = .ok (.ireturn, 1) := by decide +kernel
theorem e_Mo_judge_32 : decode b_Mo_judge 32 = .ok (.iconst 0, 1) := by decide +kernel
theorem e_Mo_judge_33 : decode b_Mo_judge 33 = .ok (.istore_n 3, 1) := by decide +kernel
theorem e_Mo_judge_34 : decode b_Mo_judge 34 = .ok (.iload_n 3, 1) := by decide +kernel
theorem e_Mo_judge_35 : decode b_Mo_judge 35 = .ok (.aload_n 0, 1) := by decide +kernel
theorem e_Mo_judge_36 : decode b_Mo_judge 36 = .ok (.getfield 7, 3) := by decide +kernel
theorem e_Mo_judge_39 : decode b_Mo_judge 39 = .ok (.if_icmp .ge 67, 3) := by decide +kernel
theorem e_Mo_judge_42 : decode b_Mo_judge 42 = .ok (.aload_n 0, 1) := by decide +kernel
theorem e_Mo_judge_43 : decode b_Mo_judge 43 = .ok (.getfield 232, 3) := by decide +kernel
theorem e_Mo_judge_46 : decode b_Mo_judge 46 = .ok (.iload_n 1, 1) := by decide +kernel
theorem e_Mo_judge_47 : decode b_Mo_judge 47 = .ok (.iaload, 1) := by decide +kernel
theorem e_Mo_judge_48 : decode b_Mo_judge 48 = .ok (.ifCond .lt 21, 3) := by decide +kernel
theorem e_Mo_judge_51 : decode b_Mo_judge 51 = .ok (.iload_n 2, 1) := by decide +kernel
theorem e_Mo_judge_52 : decode b_Mo_judge 52 = .ok (.ifCond .lt 17, 3) := by decide +kernel
theorem e_Mo_judge_55 : decode b_Mo_judge 55 = .ok (.iload_n 2, 1) := by decide +kernel
theorem e_Mo_judge_56 : decode b_Mo_judge 56 = .ok (.aload_n 0, 1) := by decide +kernel
theorem e_Mo_judge_57 : decode b_Mo_judge 57 = .ok (.getfield 235, 3) := by decide +kernel
theorem e_Mo_judge_60 : decode b_Mo_judge 60 = .ok (.iload_n 1, 1) := by decide +kernel
theorem e_Mo_judge_61 : decode b_Mo_judge 61 = .ok (.iaload, 1) := by decide +kernel
theorem e_Mo_judge_62 : decode b_Mo_judge 62 = .ok (.iload_n 3, 1) := by decide +kernel
theorem e_Mo_judge_63 : decode b_Mo_judge 63 = .ok (.isub, 1) := by decide +kernel
theorem e_Mo_judge_64 : decode b_Mo_judge 64 = .ok (.iconst 1, 1) := by decide +kernel
theorem e_Mo_judge_65 : decode b_Mo_judge 65 = .ok (.isub, 1) := by decide +kernel
theorem e_Mo_judge_66 : decode b_Mo_judge 66 = .ok (.if_icmp .le 8, 3) := by decide +kernel
theorem e_Mo_judge_69 : decode b_Mo_judge 69 = .ok (.bipush 100, 2) := by decide +kernel
theorem e_Mo_judge_71 : decode b_Mo_judge 71 = .ok (.iload_n 3, 1) := by decide +kernel
theorem e_Mo_judge_72 : decode b_Mo_judge 72 = .ok (.iadd, 1) := by decide +kernel
theorem e_Mo_judge_73 : decode b_Mo_judge 73 = .ok (.ireturn, 1) := by decide +kernel
theorem e_Mo_judge_74 : decode b_Mo_judge 74 = .ok (.aload_n 0, 1) := by decide +kernel
theorem e_Mo_judge_75 : decode b_Mo_judge 75 = .ok (.getfield 238, 3) := by decide +kernel
theorem e_Mo_judge_78 : decode b_Mo_judge 78 = .ok (.bipush 60, 2) := by decide +kernel
theorem e_Mo_judge_80 : decode b_Mo_judge 80 = .ok (.iload_n 1, 1) := by decide +kernel
theorem e_Mo_judge_81 : decode b_Mo_judge 81 = .ok (.imul, 1) := by decide +kernel
theorem e_Mo_judge_82 : decode b_Mo_judge 82 = .ok (.iload_n 2, 1) := by decide +kernel
theorem e_Mo_judge_83 : decode b_Mo_judge 83 = .ok (.iadd, 1) := by decide +kernel
theorem e_Mo_judge_84 : decode b_Mo_judge 84 = .ok (.iload_n 3, 1) := by decide +kernel
theorem e_Mo_judge_85 : decode b_Mo_judge 85 = .ok (.iadd, 1) := by decide +kernel
theorem e_Mo_judge_86 : decode b_Mo_judge 86 = .ok (.laload, 1) := by decide +kernel
theorem e_Mo_judge_87 : decode b_Mo_judge 87 = .ok (.aload_n 0, 1) := by decide +kernel
theorem e_Mo_judge_88 : decode b_Mo_judge 88 = .ok (.getfield 42, 3) := by decide +kernel
theorem e_Mo_judge_91 : decode b_Mo_judge 91 = .ok (.iload_n 3, 1) := by decide +kernel
theorem e_Mo_judge_92 : decode b_Mo_judge 92 = .ok (.iaload, 1) := by decide +kernel
theorem e_Mo_judge_93 : decode b_Mo_judge 93 = .ok (.i2l, 1) := by decide +kernel
theorem e_Mo_judge_94 : decode b_Mo_judge 94 = .ok (.lcmp, 1) := by decide +kernel
theorem e_Mo_judge_95 : decode b_Mo_judge 95 = .ok (.ifCond .eq 5, 3) := by decide +kernel
theorem e_Mo_judge_98 : decode b_Mo_judge 98 = .ok (.iload_n 3, 1) := by decide +kernel
theorem e_Mo_judge_99 : decode b_Mo_judge 99 = .ok (.ireturn, 1) := by decide +kernel
theorem e_Mo_judge_100 : decode b_Mo_judge 100 = .ok (.iinc 3 1, 3) := by decide +kernel
theorem e_Mo_judge_103 : decode b_Mo_judge 103 = .ok (.goto (-69), 3) := by decide +kernel
theorem e_Mo_judge_106 : decode b_Mo_judge 106 = .ok (.bipush (-5), 2) := by decide +kernel
theorem e_Mo_judge_108 : decode b_Mo_judge 108 = .ok (.ireturn, 1) := by decide +kernel
theorem e_Mo_image_0 : decode b_Mo_image 0 = .ok (.aload_n 0, 1) := by decide +kernel
theorem e_Mo_image_1 : decode b_Mo_image 1 = .ok (.iconst 1, 1) := by decide +kernel
theorem e_Mo_image_2 : decode b_Mo_image 2 = .ok (.putfield 157, 3) := by decide +kernel
theorem e_Mo_image_5 : decode b_Mo_image 5 = .ok (.aload_n 0, 1) := by decide +kernel
theorem e_Mo_image_6 : decode b_Mo_image 6 = .ok (.aload_n 0, 1) := by decide +kernel
theorem e_Mo_image_7 : decode b_Mo_image 7 = .ok (.getfield 51, 3) := by decide +kernel
theorem e_Mo_image_10 : decode b_Mo_image 10 = .ok (.putfield 163, 3) := by decide +kernel
theorem e_Mo_image_13 : decode b_Mo_image 13 = .ok (.aload_n 0, 1) := by decide +kernel
theorem e_Mo_image_14 : decode b_Mo_image 14 = .ok (.aload_n 0, 1) := by decide +kernel
theorem e_Mo_image_15 : decode b_Mo_image 15 = .ok (.getfield 7, 3) := by decide +kernel
theorem e_Mo_image_18 : decode b_Mo_image 18 = .ok (.putfield 166, 3) := by decide +kernel
theorem e_Mo_image_21 : decode b_Mo_image 21 = .ok (.aload_n 0, 1) := by decide +kernel
theorem e_Mo_image_22 : decode b_Mo_image 22 = .ok (.aload_n 0, 1) := by decide +kernel
theorem e_Mo_image_23 : decode b_Mo_image 23 = .ok (.getfield 13, 3) := by decide +kernel
theorem e_Mo_image_26 : decode b_Mo_image 26 = .ok (.putfield 169, 3) := by decide +kernel
theorem e_Mo_image_29 : decode b_Mo_image 29 = .ok (.aload_n 0, 1) := by decide +kernel
theorem e_Mo_image_30 : decode b_Mo_image 30 = .ok (.aload_n 0, 1) := by decide +kernel
theorem e_Mo_image_31 : decode b_Mo_image 31 = .ok (.getfield 16, 3) := by decide +kernel
theorem e_Mo_image_34 : decode b_Mo_image 34 = .ok (.putfield 172, 3) := by decide +kernel
theorem e_Mo_image_37 : decode b_Mo_image 37 = .ok (.aload_n 0, 1) := by decide +kernel
theorem e_Mo_image_38 : decode b_Mo_image 38 = .ok (.aload_n 0, 1) := by decide +kernel
theorem e_Mo_image_39 : decode b_Mo_image 39 = .ok (.getfield 22, 3) := by decide +kernel
theorem e_Mo_image_42 : decode b_Mo_image 42 = .ok (.putfield 160, 3) := by decide +kernel
theorem e_Mo_image_45 : decode b_Mo_image 45 = .ok (.aload_n 0, 1) := by decide +kernel
theorem e_Mo_image_46 : decode b_Mo_image 46 = .ok (.aload_n 0, 1) := by decide +kernel
theorem e_Mo_image_47 : decode b_Mo_image 47 = .ok (.getfield 19, 3) := by decide +kernel
theorem e_Mo_image_50 : decode b_Mo_image 50 = .ok (.putfield 175, 3) := by decide +kernel
theorem e_Mo_image_53 : decode b_Mo_image 53 = .ok (.aload_n 0, 1) := by decide +kernel
theorem e_Mo_image_54 : decode b_Mo_image 54 = .ok (.aload_n 0, 1) := by decide +kernel
theorem e_Mo_image_55 : decode b_Mo_image 55 = .ok (.getfield 130, 3) := by decide +kernel
theorem e_Mo_image_58 : decode b_Mo_image 58 = .ok (.putfield 178, 3) := by decide +kernel
theorem e_Mo_image_61 : decode b_Mo_image 61 = .ok (.aload_n 0, 1) := by decide +kernel
theorem e_Mo_image_62 : decode b_Mo_image 62 = .ok (.aload_n 0, 1) := by decide +kernel
theorem e_Mo_image_63 : decode b_Mo_image 63 = .ok (.getfield 139, 3) := by decide +kernel
theorem e_Mo_image_66 : decode b_Mo_image 66 = .ok (.putfield 181, 3) := by decide +kernel
theorem e_Mo_image_69 : decode b_Mo_image 69 = .ok (.aload_n 0, 1) := by decide +kernel
theorem e_Mo_image_70 : decode b_Mo_image 70 = .ok (.aload_n 0, 1) := by decide +kernel
theorem e_Mo_image_71 : decode b_Mo_image 71 = .ok (.getfield 142, 3) := by decide +kernel
theorem e_Mo_image_74 : decode b_Mo_image 74 = .ok (.putfield 184, 3) := by decide +kernel
theorem e_Mo_image_77 : decode b_Mo_image 77 = .ok (.iconst 0, 1) := by decide +kernel
theorem e_Mo_image_78 : decode b_Mo_image 78 = .ok (.istore_n 1, 1) := by decide +kernel
theorem e_Mo_image_79 : decode b_Mo_image 79 = .ok (.iload_n 1, 1) := by decide +kernel
theorem e_Mo_image_80 : decode b_Mo_image 80 = .ok (.bipush 6, 2) := by decide +kernel
theorem e_Mo_image_82 : decode b_Mo_image 82 = .ok (.if_icmp .ge 81, 3) := by decide +kernel
theorem e_Mo_image_85 : decode b_Mo_image 85 = .ok (.aload_n 0, 1) := by decide +kernel
theorem e_Mo_image_86 : decode b_Mo_image 86 = .ok (.getfield 187, 3) := by decide +kernel
theorem e_Mo_image_89 : decode b_Mo_image 89 = .ok (.iload_n 1, 1) := by decide +kernel
theorem e_Mo_image_90 : decode b_Mo_image 90 = .ok (.aload_n 0, 1) := by decide +kernel
theorem e_Mo_image_91 : decode b_Mo_image 91 = .ok (.getfield 26, 3) := by decide +kernel
theorem e_Mo_image_94 : decode b_Mo_image 94 = .ok (.iload_n 1, 1) := by decide +kernel
theorem e_Mo_image_95 : decode b_Mo_image 95 = .ok (.iaload, 1) := by decide +kernel
theorem e_Mo_image_96 : decode b_Mo_image 96 = .ok (.iastore, 1) := by decide +kernel
theorem e_Mo_image_97 : decode b_Mo_image 97 = .ok (.aload_n 0, 1) := by decide +kernel
theorem e_Mo_image_98 : decode b_Mo_image 98 = .ok (.getfield 190, 3) := by decide +kernel
theorem e_Mo_image_101 : decode b_Mo_image 101 = .ok (.iload_n 1, 1) := by decide +kernel
theorem e_Mo_image_102 : decode b_Mo_image 102 = .ok (.aload_n 0, 1) := by decide +kernel
theorem e_Mo_image_103 : decode b_Mo_image 103 = .ok (.getfield 30, 3) := by decide +kernel
theorem e_Mo_image_106 : decode b_Mo_image 106 = .ok (.iload_n 1, 1) := by decide +kernel
theorem e_Mo_image_107 : decode b_Mo_image 107 = .ok (.iaload, 1) := by decide +kernel
theorem e_Mo_image_108 : decode b_Mo_image 108 = .ok (.iastore, 1) := by decide +kernel
theorem e_Mo_image_109 : decode b_Mo_image 109 = .ok (.aload_n 0, 1) := by decide +kernel
theorem e_Mo_image_110 : decode b_Mo_image 110 = .ok (.getfield 193, 3) := by decide +kernel
theorem e_Mo_image_113 : decode b_Mo_image 113 = .ok (.iload_n 1, 1) := by decide +kernel
theorem e_Mo_image_114 : decode b_Mo_image 114 = .ok (.aload_n 0, 1) := by decide +kernel
theorem e_Mo_image_115 : decode b_Mo_image 115 = .ok (.getfield 33, 3) := by decide +kernel
theorem e_Mo_image_118 : decode b_Mo_image 118 = .ok (.iload_n 1, 1) := by decide +kernel
theorem e_Mo_image_119 : decode b_Mo_image 119 = .ok (.iaload, 1) := by decide +kernel
theorem e_Mo_image_120 : decode b_Mo_image 120 = .ok (.iastore, 1) := by decide +kernel
theorem e_Mo_image_121 : decode b_Mo_image 121 = .ok (.aload_n 0, 1) := by decide +kernel
theorem e_Mo_image_122 : decode b_Mo_image 122 = .ok (.getfield 196, 3) := by decide +kernel
theorem e_Mo_image_125 : decode b_Mo_image 125 = .ok (.iload_n 1, 1) := by decide +kernel
theorem e_Mo_image_126 : decode b_Mo_image 126 = .ok (.aload_n 0, 1) := by decide +kernel
theorem e_Mo_image_127 : decode b_Mo_image 127 = .ok (.getfield 36, 3) := by decide +kernel
theorem e_Mo_image_130 : decode b_Mo_image 130 = .ok (.iload_n 1, 1) := by decide +kernel
theorem e_Mo_image_131 : decode b_Mo_image 131 = .ok (.iaload, 1) := by decide +kernel
theorem e_Mo_image_132 : decode b_Mo_image 132 = .ok (.iastore, 1) := by decide +kernel
theorem e_Mo_image_133 : decode b_Mo_image 133 = .ok (.aload_n 0, 1) := by decide +kernel
theorem e_Mo_image_134 : decode b_Mo_image 134 = .ok (.getfield 199, 3) := by decide +kernel
theorem e_Mo_image_137 : decode b_Mo_image 137 = .ok (.iload_n 1, 1) := by decide +kernel
theorem e_Mo_image_138 : decode b_Mo_image 138 = .ok (.aload_n 0, 1) := by decide +kernel
theorem e_Mo_image_139 : decode b_Mo_image 139 = .ok (.getfield 39, 3) := by decide +kernel
theorem e_Mo_image_142 : decode b_Mo_image 142 = .ok (.iload_n 1, 1) := by decide +kernel
theorem e_Mo_image_143 : decode b_Mo_image 143 = .ok (.iaload, 1) := by decide +kernel
theorem e_Mo_image_144 : decode b_Mo_image 144 = .ok (.iastore, 1) := by decide +kernel
theorem e_Mo_image_145 : decode b_Mo_image 145 = .ok (.aload_n 0, 1) := by decide +kernel
theorem e_Mo_image_146 : decode b_Mo_image 146 = .ok (.getfield 202, 3) := by decide +kernel
theorem e_Mo_image_149 : decode b_Mo_image 149 = .ok (.iload_n 1, 1) := by decide +kernel
theorem e_Mo_image_150 : decode b_Mo_image 150 = .ok (.aload_n 0, 1) := by decide +kernel
theorem e_Mo_image_151 : decode b_Mo_image 151 = .ok (.getfield 42, 3) := by decide +kernel
theorem e_Mo_image_154 : decode b_Mo_image 154 = .ok (.iload_n 1, 1) := by decide +kernel
theorem e_Mo_image_155 : decode b_Mo_image 155 = .ok (.iaload, 1) := by decide +kernel
theorem e_Mo_image_156 : decode b_Mo_image 156 = .ok (.iastore, 1) := by decide +kernel
theorem e_Mo_image_157 : decode b_Mo_image 157 = .ok (.iinc 1 1, 3) := by decide +kernel
theorem e_Mo_image_160 : decode b_Mo_image 160 = .ok (.goto (-81), 3) := by decide +kernel
theorem e_Mo_image_163 : decode b_Mo_image 163 = .ok (.iconst 0, 1) := by decide +kernel
theorem e_Mo_image_164 : decode b_Mo_image 164 = .ok (.istore_n 1, 1) := by decide +kernel
theorem e_Mo_image_165 : decode b_Mo_image 165 = .ok (.iload_n 1, 1) := by decide +kernel
theorem e_Mo_image_166 : decode b_Mo_image 166 = .ok (.bipush 24, 2) := by decide +kernel
theorem e_Mo_image_168 : decode b_Mo_image 168 = .ok (.if_icmp .ge 21, 3) := by decide +kernel
theorem e_Mo_image_171 : decode b_Mo_image 171 = .ok (.aload_n 0, 1) := by decide +kernel
theorem e_Mo_image_172 : decode b_Mo_image 172 = .ok (.getfield 205, 3) := by decide +kernel
theorem e_Mo_image_175 : decode b_Mo_image 175 = .ok (.iload_n 1, 1) := by decide +kernel
theorem e_Mo_image_176 : decode b_Mo_image 176 = .ok (.aload_n 0, 1) := by decide +kernel
theorem e_Mo_image_177 : decode b_Mo_image 177 = .ok (.getfield 45, 3) := by decide +kernel
theorem e_Mo_image_180 : decode b_Mo_image 180 = .ok (.iload_n 1, 1) := by decide +kernel
theorem e_Mo_image_181 : decode b_Mo_image 181 = .ok (.iaload, 1) := by decide +kernel
theorem e_Mo_image_182 : decode b_Mo_image 182 = .ok (.iastore, 1) := by decide +kernel
theorem e_Mo_image_183 : decode b_Mo_image 183 = .ok (.iinc 1 1, 3) := by decide +kernel
theorem e_Mo_image_186 : decode b_Mo_image 186 = .ok (.goto (-21), 3) := by decide +kernel
theorem e_Mo_image_189 : decode b_Mo_image 189 = .ok (.iconst 0, 1) := by decide +kernel
theorem e_Mo_image_190 : decode b_Mo_image 190 = .ok (.istore_n 1, 1) := by decide +kernel
theorem e_Mo_image_191 : decode b_Mo_image 191 = .ok (.iload_n 1, 1) := by decide +kernel
theorem e_Mo_image_192 : decode b_Mo_image 192 = .ok (.iconst 5, 1) := by decide +kernel
theorem e_Mo_image_193 : decode b_Mo_image 193 = .ok (.if_icmp .ge 33, 3) := by decide +kernel
theorem e_Mo_image_196 : decode b_Mo_image 196 = .ok (.aload_n 0, 1) := by decide +kernel
theorem e_Mo_image_197 : decode b_Mo_image 197 = .ok (.getfield 208, 3) := by decide +kernel
theorem e_Mo_image_200 : decode b_Mo_image 200 = .ok (.iload_n 1, 1) := by decide +kernel
theorem e_Mo_image_201 : decode b_Mo_image 201 = .ok (.aload_n 0, 1) := by decide +kernel
theorem e_Mo_image_202 : decode b_Mo_image 202 = .ok (.getfield 133, 3) := by decide +kernel
theorem e_Mo_image_205 : decode b_Mo_image 205 = .ok (.iload_n 1, 1) := by decide +kernel
theorem e_Mo_image_206 : decode b_Mo_image 206 = .ok (.iaload, 1) := by decide +kernel
theorem e_Mo_image_207 : decode b_Mo_image 207 = .ok (.iastore, 1) := by decide +kernel
theorem e_Mo_image_208 : decode b_Mo_image 208 = .ok (.aload_n 0, 1) := by decide +kernel
theorem e_Mo_image_209 : decode b_Mo_image 209 = .ok (.getfield 211, 3) := by decide +kernel
theorem e_Mo_image_212 : decode b_Mo_image 212 = .ok (.iload_n 1, 1) := by decide +kernel
theorem e_Mo_image_213 : decode b_Mo_image 213 = .ok (.aload_n 0, 1) := by decide +kernel
theorem e_Mo_image_214 : decode b_Mo_image 214 = .ok (.getfield 136, 3) := by decide +kernel
theorem e_Mo_image_217 : decode b_Mo_image 217 = .ok (.iload_n 1, 1) := by decide +kernel
theorem e_Mo_image_218 : decode b_Mo_image 218 = .ok (.iaload, 1) := by decide +kernel
theorem e_Mo_image_219 : decode b_Mo_image 219 = .ok (.iastore, 1) := by decide +kernel
theorem e_Mo_image_220 : decode b_Mo_image 220 = .ok (.iinc 1 1, 3) := by decide +kernel
theorem e_Mo_image_223 : decode b_Mo_image 223 = .ok (.goto (-32), 3) := by decide +kernel
theorem e_Mo_image_226 : decode b_Mo_image 226 = .ok (.iconst 0, 1) := by decide +kernel
theorem e_Mo_image_227 : decode b_Mo_image 227 = .ok (.istore_n 1, 1) := by decide +kernel
theorem e_Mo_image_228 : decode b_Mo_image 228 = .ok (.iload_n 1, 1) := by decide +kernel
theorem e_Mo_image_229 : decode b_Mo_image 229 = .ok (.bipush 10, 2) := by decide +kernel
theorem e_Mo_image_231 : decode b_Mo_image 231 = .ok (.if_icmp .ge 33, 3) := by decide +kernel
theorem e_Mo_image_234 : decode b_Mo_image 234 = .ok (.aload_n 0, 1) := by decide +kernel
theorem e_Mo_image_235 : decode b_Mo_image 235 = .ok (.getfield 214, 3) := by decide +kernel
theorem e_Mo_image_238 : decode b_Mo_image 238 = .ok (.iload_n 1, 1) := by decide +kernel
theorem e_Mo_image_239 : decode b_Mo_image 239 = .ok (.aload_n 0, 1) := by decide +kernel
theorem e_Mo_image_240 : decode b_Mo_image 240 = .ok (.getfield 145, 3) := by decide +kernel
theorem e_Mo_image_243 : decode b_Mo_image 243 = .ok (.iload_n 1, 1) := by decide +kernel
theorem e_Mo_image_244 : decode b_Mo_image 244 = .ok (.iaload, 1) := by decide +kernel
theorem e_Mo_image_245 : decode b_Mo_image 245 = .ok (.iastore, 1) := by decide +kernel
theorem e_Mo_image_246 : decode b_Mo_image 246 = .ok (.aload_n 0, 1) := by decide +kernel
theorem e_Mo_image_247 : decode b_Mo_image 247 = .ok (.getfield 217, 3) := by decide +kernel
theorem e_Mo_image_250 : decode b_Mo_image 250 = .ok (.iload_n 1, 1) := by decide +kernel
theorem e_Mo_image_251 : decode b_Mo_image 251 = .ok (.aload_n 0, 1) := by decide +kernel
theorem e_Mo_image_252 : decode b_Mo_image 252 = .ok (.getfield 148, 3) := by decide +kernel
theorem e_Mo_image_255 : decode b_Mo_image 255 = .ok (.iload_n 1, 1) := by decide +kernel
theorem e_Mo_image_256 : decode b_Mo_image 256 = .ok (.iaload, 1) := by decide +kernel
theorem e_Mo_image_257 : decode b_Mo_image 257 = .ok (.iastore, 1) := by decide +kernel
theorem e_Mo_image_258 : decode b_Mo_image 258 = .ok (.iinc 1 1, 3) := by decide +kernel
theorem e_Mo_image_261 : decode b_Mo_image 261 = .ok (.goto (-33), 3) := by decide +kernel
theorem e_Mo_image_264 : decode b_Mo_image 264 = .ok (.iconst 0, 1) := by decide +kernel
theorem e_Mo_image_265 : decode b_Mo_image 265 = .ok (.istore_n 1, 1) := by decide +kernel
theorem e_Mo_image_266 : decode b_Mo_image 266 = .ok (.iload_n 1, 1) := by decide +kernel
theorem e_Mo_image_267 : decode b_Mo_image 267 = .ok (.bipush 8, 2) := by decide +kernel
theorem e_Mo_image_269 : decode b_Mo_image 269 = .ok (.if_icmp .ge 33, 3) := by decide +kernel
theorem e_Mo_image_272 : decode b_Mo_image 272 = .ok (.aload_n 0, 1) := by decide +kernel
theorem e_Mo_image_273 : decode b_Mo_image 273 = .ok (.getfield 220, 3) := by decide +kernel
theorem e_Mo_image_276 : decode b_Mo_image 276 = .ok (.iload_n 1, 1) := by decide +kernel
theorem e_Mo_image_277 : decode b_Mo_image 277 = .ok (.aload_n 0, 1) := by decide +kernel
theorem e_Mo_image_278 : decode b_Mo_image 278 = .ok (.getfield 151, 3) := by decide +kernel
theorem e_Mo_image_281 : decode b_Mo_image 281 = .ok (.iload_n 1, 1) := by decide +kernel
theorem e_Mo_image_282 : decode b_Mo_image 282 = .ok (.iaload, 1) := by decide +kernel
theorem e_Mo_image_283 : decode b_Mo_image 283 = .ok (.iastore, 1) := by decide +kernel
theorem e_Mo_image_284 : decode b_Mo_image 284 = .ok (.aload_n 0, 1) := by decide +kernel
theorem e_Mo_image_285 : decode b_Mo_image 285 = .ok (.getfield 223, 3) := by decide +kernel
theorem e_Mo_image_288 : decode b_Mo_image 288 = .ok (.iload_n 1, 1) := by decide +kernel
theorem e_Mo_image_289 : decode b_Mo_image 289 = .ok (.aload_n 0, 1) := by decide +kernel
theorem e_Mo_image_290 : decode b_Mo_image 290 = .ok (.getfield 154, 3) := by decide +kernel
theorem e_Mo_image_293 : decode b_Mo_image 293 = .ok (.iload_n 1, 1) := by decide +kernel
theorem e_Mo_image_294 : decode b_Mo_image 294 = .ok (.iaload, 1) := by decide +kernel
theorem e_Mo_image_295 : decode b_Mo_image 295 = .ok (.iastore, 1) := by decide +kernel
theorem e_Mo_image_296 : decode b_Mo_image 296 = .ok (.iinc 1 1, 3) := by decide +kernel
theorem e_Mo_image_299 : decode b_Mo_image 299 = .ok (.goto (-33), 3) := by decide +kernel
theorem e_Mo_image_302 : decode b_Mo_image 302 = .ok (.aload_n 0, 1) := by decide +kernel
theorem e_Mo_image_303 : decode b_Mo_image 303 = .ok (.getfield 7, 3) := by decide +kernel
theorem e_Mo_image_306 : decode b_Mo_image 306 = .ok (.ireturn, 1) := by decide +kernel
theorem e_Mo_undo_0 : decode b_Mo_undo 0 = .ok (.aload_n 0, 1) := by decide +kernel
theorem e_Mo_undo_1 : decode b_Mo_undo 1 = .ok (.getfield 157, 3) := by decide +kernel
theorem e_Mo_undo_4 : decode b_Mo_undo 4 = .ok (.ifCond .ne 6, 3) := by decide +kernel
theorem e_Mo_undo_7 : decode b_Mo_undo 7 = .ok (.bipush (-3), 2) := by decide +kernel
theorem e_Mo_undo_9 : decode b_Mo_undo 9 = .ok (.ireturn, 1) := by decide +kernel
theorem e_Mo_undo_10 : decode b_Mo_undo 10 = .ok (.aload_n 0, 1) := by decide +kernel
theorem e_Mo_undo_11 : decode b_Mo_undo 11 = .ok (.aload_n 0, 1) := by decide +kernel
theorem e_Mo_undo_12 : decode b_Mo_undo 12 = .ok (.getfield 163, 3) := by decide +kernel
theorem e_Mo_undo_15 : decode b_Mo_undo 15 = .ok (.putfield 51, 3) := by decide +kernel
theorem e_Mo_undo_18 : decode b_Mo_undo 18 = .ok (.aload_n 0, 1) := by decide +kernel
theorem e_Mo_undo_19 : decode b_Mo_undo 19 = .ok (.aload_n 0, 1) := by decide +kernel
theorem e_Mo_undo_20 : decode b_Mo_undo 20 = .ok (.getfield 166, 3) := by decide +kernel
theorem e_Mo_undo_23 : decode b_Mo_undo 23 = .ok (.putfield 7, 3) := by decide +kernel
theorem e_Mo_undo_26 : decode b_Mo_undo 26 = .ok (.aload_n 0, 1) := by decide +kernel
theorem e_Mo_undo_27 : decode b_Mo_undo 27 = .ok (.aload_n 0, 1) := by decide +kernel
theorem e_Mo_undo_28 : decode b_Mo_undo 28 = .ok (.getfield 169, 3) := by decide +kernel
theorem e_Mo_undo_31 : decode b_Mo_undo 31 = .ok (.putfield 13, 3) := by decide +kernel
theorem e_Mo_undo_34 : decode b_Mo_undo 34 = .ok (.aload_n 0, 1) := by decide +kernel
theorem e_Mo_undo_35 : decode b_Mo_undo 35 = .ok (.aload_n 0, 1) := by decide +kernel
theorem e_Mo_undo_36 : decode b_Mo_undo 36 = .ok (.getfield 172, 3) := by decide +kernel
theorem e_Mo_undo_39 : decode b_Mo_undo 39 = .ok (.putfield 16, 3) := by decide +kernel
theorem e_Mo_undo_42 : decode b_Mo_undo 42 = .ok (.aload_n 0, 1) := by decide +kernel
theorem e_Mo_undo_43 : decode b_Mo_undo 43 = .ok (.aload_n 0, 1) := by decide +kernel
theorem e_Mo_undo_44 : decode b_Mo_undo 44 = .ok (.getfield 160, 3) := by decide +kernel
theorem e_Mo_undo_47 : decode b_Mo_undo 47 = .ok (.putfield 22, 3) := by decide +kernel
theorem e_Mo_undo_50 : decode b_Mo_undo 50 = .ok (.aload_n 0, 1) := by decide +kernel
theorem e_Mo_undo_51 : decode b_Mo_undo 51 = .ok (.aload_n 0, 1) := by decide +kernel
theorem e_Mo_undo_52 : decode b_Mo_undo 52 = .ok (.getfield 175, 3) := by decide +kernel
theorem e_Mo_undo_55 : decode b_Mo_undo 55 = .ok (.putfield 19, 3) := by decide +kernel
theorem e_Mo_undo_58 : decode b_Mo_undo 58 = .ok (.aload_n 0, 1) := by decide +kernel
theorem e_Mo_undo_59 : decode b_Mo_undo 59 = .ok (.aload_n 0, 1) := by decide +kernel
theorem e_Mo_undo_60 : decode b_Mo_undo 60 = .ok (.getfield 178, 3) := by decide +kernel
theorem e_Mo_undo_63 : decode b_Mo_undo 63 = .ok (.putfield 130, 3) := by decide +kernel
theorem e_Mo_undo_66 : decode b_Mo_undo 66 = .ok (.aload_n 0, 1) := by decide +kernel
theorem e_Mo_undo_67 : decode b_Mo_undo 67 = .ok (.aload_n 0, 1) := by decide +kernel
theorem e_Mo_undo_68 : decode b_Mo_undo 68 = .ok (.getfield 181, 3) := by decide +kernel
theorem e_Mo_undo_71 : decode b_Mo_undo 71 = .ok (.putfield 139, 3) := by decide +kernel
theorem e_Mo_undo_74 : decode b_Mo_undo 74 = .ok (.aload_n 0, 1) := by decide +kernel
theorem e_Mo_undo_75 : decode b_Mo_undo 75 = .ok (.aload_n 0, 1) := by decide +kernel
theorem e_Mo_undo_76 : decode b_Mo_undo 76 = .ok (.getfield 184, 3) := by decide +kernel
theorem e_Mo_undo_79 : decode b_Mo_undo 79 = .ok (.putfield 142, 3) := by decide +kernel
theorem e_Mo_undo_82 : decode b_Mo_undo 82 = .ok (.iconst 0, 1) := by decide +kernel
theorem e_Mo_undo_83 : decode b_Mo_undo 83 = .ok (.istore_n 1, 1) := by decide +kernel
theorem e_Mo_undo_84 : decode b_Mo_undo 84 = .ok (.iload_n 1, 1) := by decide +kernel
theorem e_Mo_undo_85 : decode b_Mo_undo 85 = .ok (.bipush 6, 2) := by decide +kernel
theorem e_Mo_undo_87 : decode b_Mo_undo 87 = .ok (.if_icmp .ge 81, 3) := by decide +kernel
theorem e_Mo_undo_90 : decode b_Mo_undo 90 = .ok (.aload_n 0, 1) := by decide +kernel
theorem e_Mo_undo_91 : decode b_Mo_undo 91 = .ok (.getfield 26, 3) := by decide +kernel
theorem e_Mo_undo_94 : decode b_Mo_undo 94 = .ok (.iload_n 1, 1) := by decide +kernel
theorem e_Mo_undo_95 : decode b_Mo_undo 95 = .ok (.aload_n 0, 1) := by decide +kernel
theorem e_Mo_undo_96 : decode b_Mo_undo 96 = .ok (.getfield 187, 3) := by decide +kernel
theorem e_Mo_undo_99 : decode b_Mo_undo 99 = .ok (.iload_n 1, 1) := by decide +kernel
theorem e_Mo_undo_100 : decode b_Mo_undo 100 = .ok (.iaload, 1) := by decide +kernel
theorem e_Mo_undo_101 : decode b_Mo_undo 101 = .ok (.iastore, 1) := by decide +kernel
theorem e_Mo_undo_102 : decode b_Mo_undo 102 = .ok (.aload_n 0, 1) := by decide +kernel
theorem e_Mo_undo_103 : decode b_Mo_undo 103 = .ok (.getfield 30, 3) := by decide +kernel
theorem e_Mo_undo_106 : decode b_Mo_undo 106 = .ok (.iload_n 1, 1) := by decide +kernel
theorem e_Mo_undo_107 : decode b_Mo_undo 107 = .ok (.aload_n 0, 1) := by decide +kernel
theorem e_Mo_undo_108 : decode b_Mo_undo 108 = .ok (.getfield 190, 3) := by decide +kernel
theorem e_Mo_undo_111 : decode b_Mo_undo 111 = .ok (.iload_n 1, 1) := by decide +kernel
theorem e_Mo_undo_112 : decode b_Mo_undo 112 = .ok (.iaload, 1) := by decide +kernel
theorem e_Mo_undo_113 : decode b_Mo_undo 113 = .ok (.iastore, 1) := by decide +kernel
theorem e_Mo_undo_114 : decode b_Mo_undo 114 = .ok (.aload_n 0, 1) := by decide +kernel
theorem e_Mo_undo_115 : decode b_Mo_undo 115 = .ok (.getfield 33, 3) := by decide +kernel
theorem e_Mo_undo_118 : decode b_Mo_undo 118 = .ok (.iload_n 1, 1) := by decide +kernel
theorem e_Mo_undo_119 : decode b_Mo_undo 119 = .ok (.aload_n 0, 1) := by decide +kernel
theorem e_Mo_undo_120 : decode b_Mo_undo 120 = .ok (.getfield 193, 3) := by decide +kernel
theorem e_Mo_undo_123 : decode b_Mo_undo 123 = .ok (.iload_n 1, 1) := by decide +kernel
theorem e_Mo_undo_124 : decode b_Mo_undo 124 = .ok (.iaload, 1) := by decide +kernel
theorem e_Mo_undo_125 : decode b_Mo_undo 125 = .ok (.iastore, 1) := by decide +kernel
theorem e_Mo_undo_126 : decode b_Mo_undo 126 = .ok (.aload_n 0, 1) := by decide +kernel
theorem e_Mo_undo_127 : decode b_Mo_undo 127 = .ok (.getfield 36, 3) := by decide +kernel
theorem e_Mo_undo_130 : decode b_Mo_undo 130 = .ok (.iload_n 1, 1) := by decide +kernel
theorem e_Mo_undo_131 : decode b_Mo_undo 131 = .ok (.aload_n 0, 1) := by decide +kernel
theorem e_Mo_undo_132 : decode b_Mo_undo 132 = .ok (.getfield 196, 3) := by decide +kernel
theorem e_Mo_undo_135 : decode b_Mo_undo 135 = .ok (.iload_n 1, 1) := by decide +kernel
theorem e_Mo_undo_136 : decode b_Mo_undo 136 = .ok (.iaload, 1) := by decide +kernel
theorem e_Mo_undo_137 : decode b_Mo_undo 137 = .ok (.iastore, 1) := by decide +kernel
theorem e_Mo_undo_138 : decode b_Mo_undo 138 = .ok (.aload_n 0, 1) := by decide +kernel
theorem e_Mo_undo_139 : decode b_Mo_undo 139 = .ok (.getfield 39, 3) := by decide +kernel
theorem e_Mo_undo_142 : decode b_Mo_undo 142 = .ok (.iload_n 1, 1) := by decide +kernel
theorem e_Mo_undo_143 : decode b_Mo_undo 143 = .ok (.aload_n 0, 1) := by decide +kernel
theorem e_Mo_undo_144 : decode b_Mo_undo 144 = .ok (.getfield 199, 3) := by decide +kernel
theorem e_Mo_undo_147 : decode b_Mo_undo 147 = .ok (.iload_n 1, 1) := by decide +kernel
theorem e_Mo_undo_148 : decode b_Mo_undo 148 = .ok (.iaload, 1) := by decide +kernel
theorem e_Mo_undo_149 : decode b_Mo_undo 149 = .ok (.iastore, 1) := by decide +kernel
theorem e_Mo_undo_150 : decode b_Mo_undo 150 = .ok (.aload_n 0, 1) := by decide +kernel
theorem e_Mo_undo_151 : decode b_Mo_undo 151 = .ok (.getfield 42, 3) := by decide +kernel
theorem e_Mo_undo_154 : decode b_Mo_undo 154 = .ok (.iload_n 1, 1) := by decide +kernel
theorem e_Mo_undo_155 : decode b_Mo_undo 155 = .ok (.aload_n 0, 1) := by decide +kernel
theorem e_Mo_undo_156 : decode b_Mo_undo 156 = .ok (.getfield 202, 3) := by decide +kernel
theorem e_Mo_undo_159 : decode b_Mo_undo 159 = .ok (.iload_n 1, 1) := by decide +kernel
theorem e_Mo_undo_160 : decode b_Mo_undo 160 = .ok (.iaload, 1) := by decide +kernel
theorem e_Mo_undo_161 : decode b_Mo_undo 161 = .ok (.iastore, 1) := by decide +kernel
theorem e_Mo_undo_162 : decode b_Mo_undo 162 = .ok (.iinc 1 1, 3) := by decide +kernel
theorem e_Mo_undo_165 : decode b_Mo_undo 165 = .ok (.goto (-81), 3) := by decide +kernel
theorem e_Mo_undo_168 : decode b_Mo_undo 168 = .ok (.iconst 0, 1) := by decide +kernel
theorem e_Mo_undo_169 : decode b_Mo_undo 169 = .ok (.istore_n 1, 1) := by decide +kernel
theorem e_Mo_undo_170 : decode b_Mo_undo 170 = .ok (.iload_n 1, 1) := by decide +kernel
theorem e_Mo_undo_171 : decode b_Mo_undo 171 = .ok (.bipush 24, 2) := by decide +kernel
theorem e_Mo_undo_173 : decode b_Mo_undo 173 = .ok (.if_icmp .ge 21, 3) := by decide +kernel
theorem e_Mo_undo_176 : decode b_Mo_undo 176 = .ok (.aload_n 0, 1) := by decide +kernel
theorem e_Mo_undo_177 : decode b_Mo_undo 177 = .ok (.getfield 45, 3) := by decide +kernel
theorem e_Mo_undo_180 : decode b_Mo_undo 180 = .ok (.iload_n 1, 1) := by decide +kernel
theorem e_Mo_undo_181 : decode b_Mo_undo 181 = .ok (.aload_n 0, 1) := by decide +kernel
theorem e_Mo_undo_182 : decode b_Mo_undo 182 = .ok (.getfield 205, 3) := by decide +kernel
theorem e_Mo_undo_185 : decode b_Mo_undo 185 = .ok (.iload_n 1, 1) := by decide +kernel
theorem e_Mo_undo_186 : decode b_Mo_undo 186 = .ok (.iaload, 1) := by decide +kernel
theorem e_Mo_undo_187 : decode b_Mo_undo 187 = .ok (.iastore, 1) := by decide +kernel
theorem e_Mo_undo_188 : decode b_Mo_undo 188 = .ok (.iinc 1 1, 3) := by decide +kernel
theorem e_Mo_undo_191 : decode b_Mo_undo 191 = .ok (.goto (-21), 3) := by decide +kernel
theorem e_Mo_undo_194 : decode b_Mo_undo 194 = .ok (.iconst 0, 1) := by decide +kernel
theorem e_Mo_undo_195 : decode b_Mo_undo 195 = .ok (.istore_n 1, 1) := by decide +kernel
theorem e_Mo_undo_196 : decode b_Mo_undo 196 = .ok (.iload_n 1, 1) := by decide +kernel
theorem e_Mo_undo_197 : decode b_Mo_undo 197 = .ok (.iconst 5, 1) := by decide +kernel
theorem e_Mo_undo_198 : decode b_Mo_undo 198 = .ok (.if_icmp .ge 33, 3) := by decide +kernel
theorem e_Mo_undo_201 : decode b_Mo_undo 201 = .ok (.aload_n 0, 1) := by decide +kernel
theorem e_Mo_undo_202 : decode b_Mo_undo 202 = .ok (.getfield 133, 3) := by decide +kernel
theorem e_Mo_undo_205 : decode b_Mo_undo 205 = .ok (.iload_n 1, 1) := by decide +kernel
theorem e_Mo_undo_206 : decode b_Mo_undo 206 = .ok (.aload_n 0, 1) := by decide +kernel
theorem e_Mo_undo_207 : decode b_Mo_undo 207 = .ok (.getfield 208, 3) := by decide +kernel
theorem e_Mo_undo_210 : decode b_Mo_undo 210 = .ok (.iload_n 1, 1) := by decide +kernel
theorem e_Mo_undo_211 : decode b_Mo_undo 211 = .ok (.iaload, 1) := by decide +kernel
theorem e_Mo_undo_212 : decode b_Mo_undo 212 = .ok (.iastore, 1) := by decide +kernel
theorem e_Mo_undo_213 : decode b_Mo_undo 213 = .ok (.aload_n 0, 1) := by decide +kernel
theorem e_Mo_undo_214 : decode b_Mo_undo 214 = .ok (.getfield 136, 3) := by decide +kernel
theorem e_Mo_undo_217 : decode b_Mo_undo 217 = .ok (.iload_n 1, 1) := by decide +kernel
theorem e_Mo_undo_218 : decode b_Mo_undo 218 = .ok (.aload_n 0, 1) := by decide +kernel
theorem e_Mo_undo_219 : decode b_Mo_undo 219 = .ok (.getfield 211, 3) := by decide +kernel
theorem e_Mo_undo_222 : decode b_Mo_undo 222 = .ok (.iload_n 1, 1) := by decide +kernel
theorem e_Mo_undo_223 : decode b_Mo_undo 223 = .ok (.iaload, 1) := by decide +kernel
theorem e_Mo_undo_224 : decode b_Mo_undo 224 = .ok (.iastore, 1) := by decide +kernel
theorem e_Mo_undo_225 : decode b_Mo_undo 225 = .ok (.iinc 1 1, 3) := by decide +kernel
theorem e_Mo_undo_228 : decode b_Mo_undo 228 = .ok (.goto (-32), 3) := by decide +kernel
theorem e_Mo_undo_231 : decode b_Mo_undo 231 = .ok (.iconst 0, 1) := by decide +kernel
theorem e_Mo_undo_232 : decode b_Mo_undo 232 = .ok (.istore_n 1, 1) := by decide +kernel
theorem e_Mo_undo_233 : decode b_Mo_undo 233 = .ok (.iload_n 1, 1) := by decide +kernel
theorem e_Mo_undo_234 : decode b_Mo_undo 234 = .ok (.bipush 10, 2) := by decide +kernel
theorem e_Mo_undo_236 : decode b_Mo_undo 236 = .ok (.if_icmp .ge 33, 3) := by decide +kernel
theorem e_Mo_undo_239 : decode b_Mo_undo 239 = .ok (.aload_n 0, 1) := by decide +kernel
theorem e_Mo_undo_240 : decode b_Mo_undo 240 = .ok (.getfield 145, 3) := by decide +kernel
theorem e_Mo_undo_243 : decode b_Mo_undo 243 = .ok (.iload_n 1, 1) := by decide +kernel
theorem e_Mo_undo_244 : decode b_Mo_undo 244 = .ok (.aload_n 0, 1) := by decide +kernel
theorem e_Mo_undo_245 : decode b_Mo_undo 245 = .ok (.getfield 214, 3) := by decide +kernel
theorem e_Mo_undo_248 : decode b_Mo_undo 248 = .ok (.iload_n 1, 1) := by decide +kernel
theorem e_Mo_undo_249 : decode b_Mo_undo 249 = .ok (.iaload, 1) := by decide +kernel
theorem e_Mo_undo_250 : decode b_Mo_undo 250 = .ok (.iastore, 1) := by decide +kernel
theorem e_Mo_undo_251 : decode b_Mo_undo 251 = .ok (.aload_n 0, 1) := by decide +kernel
theorem e_Mo_undo_252 : decode b_Mo_undo 252 = .ok (.getfield 148, 3) := by decide +kernel
theorem e_Mo_undo_255 : decode b_Mo_undo 255 = .ok (.iload_n 1, 1) := by decide +kernel
theorem e_Mo_undo_256 : decode b_Mo_undo 256 = .ok (.aload_n 0, 1) := by decide +kernel
theorem e_Mo_undo_257 : decode b_Mo_undo 257 = .ok (.getfield 217, 3) := by decide +kernel
theorem e_Mo_undo_260 : decode b_Mo_undo 260 = .ok (.iload_n 1, 1) := by decide +kernel
theorem e_Mo_undo_261 : decode b_Mo_undo 261 = .ok (.iaload, 1) := by decide +kernel
theorem e_Mo_undo_262 : decode b_Mo_undo 262 = .ok (.iastore, 1) := by decide +kernel
theorem e_Mo_undo_263 : decode b_Mo_undo 263 = .ok (.iinc 1 1, 3) := by decide +kernel
theorem e_Mo_undo_266 : decode b_Mo_undo 266 = .ok (.goto (-33), 3) := by decide +kernel
theorem e_Mo_undo_269 : decode b_Mo_undo 269 = .ok (.iconst 0, 1) := by decide +kernel
theorem e_Mo_undo_270 : decode b_Mo_undo 270 = .ok (.istore_n 1, 1) := by decide +kernel
theorem e_Mo_undo_271 : decode b_Mo_undo 271 = .ok (.iload_n 1, 1) := by decide +kernel
theorem e_Mo_undo_272 : decode b_Mo_undo 272 = .ok (.bipush 8, 2) := by decide +kernel
theorem e_Mo_undo_274 : decode b_Mo_undo 274 = .ok (.if_icmp .ge 33, 3) := by decide +kernel
theorem e_Mo_undo_277 : decode b_Mo_undo 277 = .ok (.aload_n 0, 1) := by decide +kernel
theorem e_Mo_undo_278 : decode b_Mo_undo 278 = .ok (.getfield 151, 3) := by decide +kernel
theorem e_Mo_undo_281 : decode b_Mo_undo 281 = .ok (.iload_n 1, 1) := by decide +kernel
theorem e_Mo_undo_282 : decode b_Mo_undo 282 = .ok (.aload_n 0, 1) := by decide +kernel
theorem e_Mo_undo_283 : decode b_Mo_undo 283 = .ok (.getfield 220, 3) := by decide +kernel
theorem e_Mo_undo_286 : decode b_Mo_undo 286 = .ok (.iload_n 1, 1) := by decide +kernel
theorem e_Mo_undo_287 : decode b_Mo_undo 287 = .ok (.iaload, 1) := by decide +kernel
theorem e_Mo_undo_288 : decode b_Mo_undo 288 = .ok (.iastore, 1) := by decide +kernel
theorem e_Mo_undo_289 : decode b_Mo_undo 289 = .ok (.aload_n 0, 1) := by decide +kernel
theorem e_Mo_undo_290 : decode b_Mo_undo 290 = .ok (.getfield 154, 3) := by decide +kernel
theorem e_Mo_undo_293 : decode b_Mo_undo 293 = .ok (.iload_n 1, 1) := by decide +kernel
theorem e_Mo_undo_294 : decode b_Mo_undo 294 = .ok (.aload_n 0, 1) := by decide +kernel
theorem e_Mo_undo_295 : decode b_Mo_undo 295 = .ok (.getfield 223, 3) := by decide +kernel
theorem e_Mo_undo_298 : decode b_Mo_undo 298 = .ok (.iload_n 1, 1) := by decide +kernel
theorem e_Mo_undo_299 : decode b_Mo_undo 299 = .ok (.iaload, 1) := by decide +kernel
theorem e_Mo_undo_300 : decode b_Mo_undo 300 = .ok (.iastore, 1) := by decide +kernel
theorem e_Mo_undo_301 : decode b_Mo_undo 301 = .ok (.iinc 1 1, 3) := by decide +kernel
theorem e_Mo_undo_304 : decode b_Mo_undo 304 = .ok (.goto (-33), 3) := by decide +kernel
theorem e_Mo_undo_307 : decode b_Mo_undo 307 = .ok (.aload_n 0, 1) := by decide +kernel
theorem e_Mo_undo_308 : decode b_Mo_undo 308 = .ok (.getfield 7, 3) := by decide +kernel
theorem e_Mo_undo_311 : decode b_Mo_undo 311 = .ok (.ireturn, 1) := by decide +kernel
theorem e_Mo_body_0 : decode b_Mo_body 0 = .ok (.aload_n 0, 1) := by decide +kernel
theorem e_Mo_body_1 : decode b_Mo_body 1 = .ok (.getfield 226, 3) := by decide +kernel
theorem e_Mo_body_4 : decode b_Mo_body 4 = .ok (.bipush 20, 2) := by decide +kernel
theorem e_Mo_body_6 : decode b_Mo_body 6 = .ok (.if_icmp .ge 13, 3) := by decide +kernel
theorem e_Mo_body_9 : decode b_Mo_body 9 = .ok (.aload_n 0, 1) := by decide +kernel
theorem e_Mo_body_10 : decode b_Mo_body 10 = .ok (.getfield 229, 3) := by decide +kernel
theorem e_Mo_body_13 : decode b_Mo_body 13 = .ok (.aload_n 0, 1) := by decide +kernel
theorem e_Mo_body_14 : decode b_Mo_body 14 = .ok (.getfield 226, 3) := by decide +kernel
theorem e_Mo_body_17 : decode b_Mo_body 17 = .ok (.iload_n 1, 1) := by decide +kernel
theorem e_Mo_body_18 : decode b_Mo_body 18 = .ok (.iastore, 1) := by decide +kernel
theorem e_Mo_body_19 : decode b_Mo_body 19 = .ok (.aload_n 0, 1) := by decide +kernel
theorem e_Mo_body_20 : decode b_Mo_body 20 = .ok (.dup, 1) := by decide +kernel
theorem e_Mo_body_21 : decode b_Mo_body 21 = .ok (.getfield 226, 3) := by decide +kernel
theorem e_Mo_body_24 : decode b_Mo_body 24 = .ok (.iconst 1, 1) := by decide +kernel
theorem e_Mo_body_25 : decode b_Mo_body 25 = .ok (.iadd, 1) := by decide +kernel
theorem e_Mo_body_26 : decode b_Mo_body 26 = .ok (.putfield 226, 3) := by decide +kernel
theorem e_Mo_body_29 : decode b_Mo_body 29 = .ok (.return_, 1) := by decide +kernel
theorem e_Mo_thingDrips_0 : decode b_Mo_thingDrips 0 = .ok (.aload_n 0, 1) := by decide +kernel
theorem e_Mo_thingDrips_1 : decode b_Mo_thingDrips 1 = .ok (.bipush 10, 2) := by decide +kernel
theorem e_Mo_thingDrips_3 : decode b_Mo_thingDrips 3 = .ok (.invokevirtual 409, 3) := by decide +kernel
theorem e_Mo_thingDrips_6 : decode b_Mo_thingDrips 6 = .ok (.iload_n 2, 1) := by decide +kernel
theorem e_Mo_thingDrips_7 : decode b_Mo_thingDrips 7 = .ok (.iload_n 1, 1) := by decide +kernel
theorem e_Mo_thingDrips_8 : decode b_Mo_thingDrips 8 = .ok (.iadd, 1) := by decide +kernel
theorem e_Mo_thingDrips_9 : decode b_Mo_thingDrips 9 = .ok (.ireturn, 1) := by decide +kernel
theorem e_Mo_dripsAct_0 : decode b_Mo_dripsAct 0 = .ok (.aload_n 0, 1) := by decide +kernel
theorem e_Mo_dripsAct_1 : decode b_Mo_dripsAct 1 = .ok (.getfield 26, 3) := by decide +kernel
theorem e_Mo_dripsAct_4 : decode b_Mo_dripsAct 4 = .ok (.iload_n 1, 1) := by decide +kernel
theorem e_Mo_dripsAct_5 : decode b_Mo_dripsAct 5 = .ok (.iaload, 1) := by decide +kernel
theorem e_Mo_dripsAct_6 : decode b_Mo_dripsAct 6 = .ok (.tableswitch 83 2 6 #[34, 83, 49, 34, 63], 34) := by decide +kernel
theorem e_Mo_dripsAct_40 : decode b_Mo_dripsAct 40 = .ok (.aload_n 0, 1) := by decide +kernel
theorem e_Mo_dripsAct_41 : decode b_Mo_dripsAct 41 = .ok (.bipush 30, 2) := by decide +kernel
theorem e_Mo_dripsAct_43 : decode b_Mo_dripsAct 43 = .ok (.invokevirtual 409, 3) := by decide +kernel
theorem e_Mo_dripsAct_46 : decode b_Mo_dripsAct 46 = .ok (.aload_n 0, 1) := by decide +kernel
theorem e_Mo_dripsAct_47 : decode b_Mo_dripsAct 47 = .ok (.iload_n 1, 1) := by decide +kernel
theorem e_Mo_dripsAct_48 : decode b_Mo_dripsAct 48 = .ok (.iload_n 2, 1) := by decide +kernel
theorem e_Mo_dripsAct_49 : decode b_Mo_dripsAct 49 = .ok (.iconst 3, 1) := by decide +kernel
theorem e_Mo_dripsAct_50 : decode b_Mo_dripsAct 50 = .ok (.imul, 1) := by decide +kernel
theorem e_Mo_dripsAct_51 : decode b_Mo_dripsAct 51 = .ok (.invokevirtual 412, 3) := by decide +kernel
theorem e_Mo_dripsAct_54 : decode b_Mo_dripsAct 54 = .ok (.ireturn, 1) := by decide +kernel
theorem e_Mo_dripsAct_55 : decode b_Mo_dripsAct 55 = .ok (.aload_n 0, 1) := by decide +kernel
theorem e_Mo_dripsAct_56 : decode b_Mo_dripsAct 56 = .ok (.bipush 50, 2) := by decide +kernel
theorem e_Mo_dripsAct_58 : decode b_Mo_dripsAct 58 = .ok (.invokevirtual 409, 3) := by decide +kernel
theorem e_Mo_dripsAct_61 : decode b_Mo_dripsAct 61 = .ok (.aload_n 0, 1) := by decide +kernel
theorem e_Mo_dripsAct_62 : decode b_Mo_dripsAct 62 = .ok (.iload_n 1, 1) := by decide +kernel
theorem e_Mo_dripsAct_63 : decode b_Mo_dripsAct 63 = .ok (.iload_n 2, 1) := by decide +kernel
theorem e_Mo_dripsAct_64 : decode b_Mo_dripsAct 64 = .ok (.invokevirtual 412, 3) := by decide +kernel
theorem e_Mo_dripsAct_67 : decode b_Mo_dripsAct 67 = .ok (.ineg, 1) := by decide +kernel
theorem e_Mo_dripsAct_68 : decode b_Mo_dripsAct 68 = .ok (.ireturn, 1) := by decide +kernel
theorem e_Mo_dripsAct_69 : decode b_Mo_dripsAct 69 = .ok (.aload_n 0, 1) := by decide +kernel
theorem e_Mo_dripsAct_70 : decode b_Mo_dripsAct 70 = .ok (.bipush 71, 2) := by decide +kernel
theorem e_Mo_dripsAct_72 : decode b_Mo_dripsAct 72 = .ok (.invokevirtual 409, 3) := by decide +kernel
theorem e_Mo_dripsAct_75 : decode b_Mo_dripsAct 75 = .ok (.aload_n 0, 1) := by decide +kernel
theorem e_Mo_dripsAct_76 : decode b_Mo_dripsAct 76 = .ok (.iload_n 1, 1) := by decide +kernel
theorem e_Mo_dripsAct_77 : decode b_Mo_dripsAct 77 = .ok (.iload_n 2, 1) := by decide +kernel
theorem e_Mo_dripsAct_78 : decode b_Mo_dripsAct 78 = .ok (.invokevirtual 412, 3) := by decide +kernel
theorem e_Mo_dripsAct_81 : decode b_Mo_dripsAct 81 = .ok (.aload_n 0, 1) := by decide +kernel
theorem e_Mo_dripsAct_82 : decode b_Mo_dripsAct 82 = .ok (.getfield 30, 3) := by decide +kernel
theorem e_Mo_dripsAct_85 : decode b_Mo_dripsAct 85 = .ok (.iload_n 1, 1) := by decide +kernel
theorem e_Mo_dripsAct_86 : decode b_Mo_dripsAct 86 = .ok (.iaload, 1) := by decide +kernel
theorem e_Mo_dripsAct_87 : decode b_Mo_dripsAct 87 = .ok (.ixor, 1) := by decide +kernel
theorem e_Mo_dripsAct_88 : decode b_Mo_dripsAct 88 = .ok (.ireturn, 1) := by decide +kernel
theorem e_Mo_dripsAct_89 : decode b_Mo_dripsAct 89 = .ok (.aload_n 0, 1) := by decide +kernel
theorem e_Mo_dripsAct_90 : decode b_Mo_dripsAct 90 = .ok (.iload_n 1, 1) := by decide +kernel
theorem e_Mo_dripsAct_91 : decode b_Mo_dripsAct 91 = .ok (.iload_n 2, 1) := by decide +kernel
theorem e_Mo_dripsAct_92 : decode b_Mo_dripsAct 92 = .ok (.invokevirtual 412, 3) := by decide +kernel
theorem e_Mo_dripsAct_95 : decode b_Mo_dripsAct 95 = .ok (.ireturn, 1) := by decide +kernel
theorem e_Mo_thingReddens_0 : decode b_Mo_thingReddens 0 = .ok (.aload_n 0, 1) := by decide +kernel
theorem e_Mo_thingReddens_1 : decode b_Mo_thingReddens 1 = .ok (.bipush 11, 2) := by decide +kernel
theorem e_Mo_thingReddens_3 : decode b_Mo_thingReddens 3 = .ok (.invokevirtual 409, 3) := by decide +kernel
theorem e_Mo_thingReddens_6 : decode b_Mo_thingReddens 6 = .ok (.aload_n 0, 1) := by decide +kernel
theorem e_Mo_thingReddens_7 : decode b_Mo_thingReddens 7 = .ok (.iload_n 1, 1) := by decide +kernel
theorem e_Mo_thingReddens_8 : decode b_Mo_thingReddens 8 = .ok (.iload_n 2, 1) := by decide +kernel
theorem e_Mo_thingReddens_9 : decode b_Mo_thingReddens 9 = .ok (.invokevirtual 415, 3) := by decide +kernel
theorem e_Mo_thingReddens_12 : decode b_Mo_thingReddens 12 = .ok (.aload_n 0, 1) := by decide +kernel
theorem e_Mo_thingReddens_13 : decode b_Mo_thingReddens 13 = .ok (.getfield 30, 3) := by decide +kernel
theorem e_Mo_thingReddens_16 : decode b_Mo_thingReddens 16 = .ok (.iload_n 1, 1) := by decide +kernel
theorem e_Mo_thingReddens_17 : decode b_Mo_thingReddens 17 = .ok (.iaload, 1) := by decide +kernel
theorem e_Mo_thingReddens_18 : decode b_Mo_thingReddens 18 = .ok (.isub, 1) := by decide +kernel
theorem e_Mo_thingReddens_19 : decode b_Mo_thingReddens 19 = .ok (.ireturn, 1) := by decide +kernel
theorem e_Mo_grudgeReddens_0 : decode b_Mo_grudgeReddens 0 = .ok (.aload_n 0, 1) := by decide +kernel
theorem e_Mo_grudgeReddens_1 : decode b_Mo_grudgeReddens 1 = .ok (.bipush 20, 2) := by decide +kernel
theorem e_Mo_grudgeReddens_3 : decode b_Mo_grudgeReddens 3 = .ok (.invokevirtual 409, 3) := by decide +kernel
theorem e_Mo_grudgeReddens_6 : decode b_Mo_grudgeReddens 6 = .ok (.aload_n 0, 1) := by decide +kernel
theorem e_Mo_grudgeReddens_7 : decode b_Mo_grudgeReddens 7 = .ok (.iload_n 1, 1) := by decide +kernel
theorem e_Mo_grudgeReddens_8 : decode b_Mo_grudgeReddens 8 = .ok (.iload_n 2, 1) := by decide +kernel
theorem e_Mo_grudgeReddens_9 : decode b_Mo_grudgeReddens 9 = .ok (.invokevirtual 418, 3) := by decide +kernel
theorem e_Mo_grudgeReddens_12 : decode b_Mo_grudgeReddens 12 = .ok (.bipush 6, 2) := by decide +kernel
theorem e_Mo_grudgeReddens_14 : decode b_Mo_grudgeReddens 14 = .ok (.ixor, 1) := by decide +kernel
theorem e_Mo_grudgeReddens_15 : decode b_Mo_grudgeReddens 15 = .ok (.ireturn, 1) := by decide +kernel
theorem e_Mo_reddensAct_0 : decode b_Mo_reddensAct 0 = .ok (.aload_n 0, 1) := by decide +kernel
theorem e_Mo_reddensAct_1 : decode b_Mo_reddensAct 1 = .ok (.getfield 26, 3) := by decide +kernel
theorem e_Mo_reddensAct_4 : decode b_Mo_reddensAct 4 = .ok (.iload_n 1, 1) := by decide +kernel
theorem e_Mo_reddensAct_5 : decode b_Mo_reddensAct 5 = .ok (.iaload, 1) := by decide +kernel
theorem e_Mo_reddensAct_6 : decode b_Mo_reddensAct 6 = .ok (.lookupswitch 78 #[(1, 34), (4, 41), (6, 56)], 34) := by decide +kernel
theorem e_Mo_reddensAct_40 : decode b_Mo_reddensAct 40 = .ok (.aload_n 0, 1) := by decide +kernel
theorem e_Mo_reddensAct_41 : decode b_Mo_reddensAct 41 = .ok (.iload_n 1, 1) := by decide +kernel
theorem e_Mo_reddensAct_42 : decode b_Mo_reddensAct 42 = .ok (.iload_n 2, 1) := by decide +kernel
theorem e_Mo_reddensAct_43 : decode b_Mo_reddensAct 43 = .ok (.invokevirtual 421, 3) := by decide +kernel
theorem e_Mo_reddensAct_46 : decode b_Mo_reddensAct 46 = .ok (.ireturn, 1) := by decide +kernel
theorem e_Mo_reddensAct_47 : decode b_Mo_reddensAct 47 = .ok (.aload_n 0, 1) := by decide +kernel
theorem e_Mo_reddensAct_48 : decode b_Mo_reddensAct 48 = .ok (.bipush 51, 2) := by decide +kernel
theorem e_Mo_reddensAct_50 : decode b_Mo_reddensAct 50 = .ok (.invokevirtual 409, 3) := by decide +kernel
theorem e_Mo_reddensAct_53 : decode b_Mo_reddensAct 53 = .ok (.aload_n 0, 1) := by decide +kernel
theorem e_Mo_reddensAct_54 : decode b_Mo_reddensAct 54 = .ok (.iload_n 1, 1) := by decide +kernel
theorem e_Mo_reddensAct_55 : decode b_Mo_reddensAct 55 = .ok (.iload_n 2, 1) := by decide +kernel
theorem e_Mo_reddensAct_56 : decode b_Mo_reddensAct 56 = .ok (.iconst 1, 1) := by decide +kernel
theorem e_Mo_reddensAct_57 : decode b_Mo_reddensAct 57 = .ok (.iadd, 1) := by decide +kernel
theorem e_Mo_reddensAct_58 : decode b_Mo_reddensAct 58 = .ok (.invokevirtual 421, 3) := by decide +kernel
theorem e_Mo_reddensAct_61 : decode b_Mo_reddensAct 61 = .ok (.ireturn, 1) := by decide +kernel
theorem e_Mo_reddensAct_62 : decode b_Mo_reddensAct 62 = .ok (.aload_n 0, 1) := by decide +kernel
theorem e_Mo_reddensAct_63 : decode b_Mo_reddensAct 63 = .ok (.bipush 70, 2) := by decide +kernel
theorem e_Mo_reddensAct_65 : decode b_Mo_reddensAct 65 = .ok (.invokevirtual 409, 3) := by decide +kernel
theorem e_Mo_reddensAct_68 : decode b_Mo_reddensAct 68 = .ok (.aload_n 0, 1) := by decide +kernel
theorem e_Mo_reddensAct_69 : decode b_Mo_reddensAct 69 = .ok (.iload_n 1, 1) := by decide +kernel
theorem e_Mo_reddensAct_70 : decode b_Mo_reddensAct 70 = .ok (.iload_n 2, 1) := by decide +kernel
theorem e_Mo_reddensAct_71 : decode b_Mo_reddensAct 71 = .ok (.invokevirtual 418, 3) := by decide +kernel
theorem e_Mo_reddensAct_74 : decode b_Mo_reddensAct 74 = .ok (.istore_n 3, 1) := by decide +kernel
theorem e_Mo_reddensAct_75 : decode b_Mo_reddensAct 75 = .ok (.iload_n 3, 1) := by decide +kernel
theorem e_Mo_reddensAct_76 : decode b_Mo_reddensAct 76 = .ok (.aload_n 0, 1) := by decide +kernel
theorem e_Mo_reddensAct_77 : decode b_Mo_reddensAct 77 = .ok (.iload_n 1, 1) := by decide +kernel
theorem e_Mo_reddensAct_78 : decode b_Mo_reddensAct 78 = .ok (.iconst 2, 1) := by decide +kernel
theorem e_Mo_reddensAct_79 : decode b_Mo_reddensAct 79 = .ok (.invokevirtual 412, 3) := by decide +kernel
theorem e_Mo_reddensAct_82 : decode b_Mo_reddensAct 82 = .ok (.iadd, 1) := by decide +kernel
theorem e_Mo_reddensAct_83 : decode b_Mo_reddensAct 83 = .ok (.ireturn, 1) := by decide +kernel
theorem e_Mo_reddensAct_84 : decode b_Mo_reddensAct 84 = .ok (.aload_n 0, 1) := by decide +kernel
theorem e_Mo_reddensAct_85 : decode b_Mo_reddensAct 85 = .ok (.iload_n 1, 1) := by decide +kernel
theorem e_Mo_reddensAct_86 : decode b_Mo_reddensAct 86 = .ok (.iload_n 2, 1) := by decide +kernel
theorem e_Mo_reddensAct_87 : decode b_Mo_reddensAct 87 = .ok (.invokevirtual 418, 3) := by decide +kernel
theorem e_Mo_reddensAct_90 : decode b_Mo_reddensAct 90 = .ok (.ireturn, 1) := by decide +kernel
theorem e_Mo_thingTells_0 : decode b_Mo_thingTells 0 = .ok (.aload_n 0, 1) := by decide +kernel
theorem e_Mo_thingTells_1 : decode b_Mo_thingTells 1 = .ok (.bipush 12, 2) := by decide +kernel
theorem e_Mo_thingTells_3 : decode b_Mo_thingTells 3 = .ok (.invokevirtual 409, 3) := by decide +kernel
theorem e_Mo_thingTells_6 : decode b_Mo_thingTells 6 = .ok (.aload_n 0, 1) := by decide +kernel
theorem e_Mo_thingTells_7 : decode b_Mo_thingTells 7 = .ok (.iload_n 1, 1) := by decide +kernel
theorem e_Mo_thingTells_8 : decode b_Mo_thingTells 8 = .ok (.iload_n 2, 1) := by decide +kernel
theorem e_Mo_thingTells_9 : decode b_Mo_thingTells 9 = .ok (.invokevirtual 424, 3) := by decide +kernel
theorem e_Mo_thingTells_12 : decode b_Mo_thingTells 12 = .ok (.iconst 2, 1) := by decide +kernel
theorem e_Mo_thingTells_13 : decode b_Mo_thingTells 13 = .ok (.imul, 1) := by decide +kernel
theorem e_Mo_thingTells_14 : decode b_Mo_thingTells 14 = .ok (.ireturn, 1) := by decide +kernel
theorem e_Mo_tellsAct_0 : decode b_Mo_tellsAct 0 = .ok (.aload_n 0, 1) := by decide +kernel
theorem e_Mo_tellsAct_1 : decode b_Mo_tellsAct 1 = .ok (.getfield 26, 3) := by decide +kernel
theorem e_Mo_tellsAct_4 : decode b_Mo_tellsAct 4 = .ok (.iload_n 1, 1) := by decide +kernel
theorem e_Mo_tellsAct_5 : decode b_Mo_tellsAct 5 = .ok (.iaload, 1) := by decide +kernel
theorem e_Mo_tellsAct_6 : decode b_Mo_tellsAct 6 = .ok (.tableswitch 67 3 6 #[30, 67, 52, 30], 30) := by decide +kernel
theorem e_Mo_tellsAct_36 : decode b_Mo_tellsAct 36 = .ok (.aload_n 0, 1) := by decide +kernel
theorem e_Mo_tellsAct_37 : decode b_Mo_tellsAct 37 = .ok (.bipush 40, 2) := by decide +kernel
theorem e_Mo_tellsAct_39 : decode b_Mo_tellsAct 39 = .ok (.invokevirtual 409, 3) := by decide +kernel
theorem e_Mo_tellsAct_42 : decode b_Mo_tellsAct 42 = .ok (.aload_n 0, 1) := by decide +kernel
theorem e_Mo_tellsAct_43 : decode b_Mo_tellsAct 43 = .ok (.iload_n 1, 1) := by decide +kernel
theorem e_Mo_tellsAct_44 : decode b_Mo_tellsAct 44 = .ok (.iload_n 2, 1) := by decide +kernel
theorem e_Mo_tellsAct_45 : decode b_Mo_tellsAct 45 = .ok (.invokevirtual 427, 3) := by decide +kernel
theorem e_Mo_tellsAct_48 : decode b_Mo_tellsAct 48 = .ok (.istore_n 3, 1) := by decide +kernel
theorem e_Mo_tellsAct_49 : decode b_Mo_tellsAct 49 = .ok (.iload_n 3, 1) := by decide +kernel
theorem e_Mo_tellsAct_50 : decode b_Mo_tellsAct 50 = .ok (.aload_n 0, 1) := by decide +kernel
theorem e_Mo_tellsAct_51 : decode b_Mo_tellsAct 51 = .ok (.iload_n 1, 1) := by decide +kernel
theorem e_Mo_tellsAct_52 : decode b_Mo_tellsAct 52 = .ok (.iconst 1, 1) := by decide +kernel
theorem e_Mo_tellsAct_53 : decode b_Mo_tellsAct 53 = .ok (.invokevirtual 424, 3) := by decide +kernel
theorem e_Mo_tellsAct_56 : decode b_Mo_tellsAct 56 = .ok (.iadd, 1) := by decide +kernel
theorem e_Mo_tellsAct_57 : decode b_Mo_tellsAct 57 = .ok (.ireturn, 1) := by decide +kernel
theorem e_Mo_tellsAct_58 : decode b_Mo_tellsAct 58 = .ok (.aload_n 0, 1) := by decide +kernel
theorem e_Mo_tellsAct_59 : decode b_Mo_tellsAct 59 = .ok (.bipush 60, 2) := by decide +kernel
theorem e_Mo_tellsAct_61 : decode b_Mo_tellsAct 61 = .ok (.invokevirtual 409, 3) := by decide +kernel
theorem e_Mo_tellsAct_64 : decode b_Mo_tellsAct 64 = .ok (.aload_n 0, 1) := by decide +kernel
theorem e_Mo_tellsAct_65 : decode b_Mo_tellsAct 65 = .ok (.iload_n 1, 1) := by decide +kernel
theorem e_Mo_tellsAct_66 : decode b_Mo_tellsAct 66 = .ok (.iload_n 2, 1) := by decide +kernel
theorem e_Mo_tellsAct_67 : decode b_Mo_tellsAct 67 = .ok (.iload_n 1, 1) := by decide +kernel
theorem e_Mo_tellsAct_68 : decode b_Mo_tellsAct 68 = .ok (.isub, 1) := by decide +kernel
theorem e_Mo_tellsAct_69 : decode b_Mo_tellsAct 69 = .ok (.invokevirtual 427, 3) := by decide +kernel
theorem e_Mo_tellsAct_72 : decode b_Mo_tellsAct 72 = .ok (.ireturn, 1) := by decide +kernel
theorem e_Mo_tellsAct_73 : decode b_Mo_tellsAct 73 = .ok (.aload_n 0, 1) := by decide +kernel
theorem e_Mo_tellsAct_74 : decode b_Mo_tellsAct 74 = .ok (.iload_n 1, 1) := by decide +kernel
theorem e_Mo_tellsAct_75 : decode b_Mo_tellsAct 75 = .ok (.iload_n 2, 1) := by decide +kernel
theorem e_Mo_tellsAct_76 : decode b_Mo_tellsAct 76 = .ok (.invokevirtual 427, 3) := by decide +kernel
theorem e_Mo_tellsAct_79 : decode b_Mo_tellsAct 79 = .ok (.ireturn, 1) := by decide +kernel
theorem e_Mo_act_0 : decode b_Mo_act 0 = .ok (.aload_n 0, 1) := by decide +kernel
theorem e_Mo_act_1 : decode b_Mo_act 1 = .ok (.iconst 0, 1) := by decide +kernel
theorem e_Mo_act_2 : decode b_Mo_act 2 = .ok (.putfield 226, 3) := by decide +kernel
theorem e_Mo_act_5 : decode b_Mo_act 5 = .ok (.aload_n 0, 1) := by decide +kernel
theorem e_Mo_act_6 : decode b_Mo_act 6 = .ok (.iload_n 1, 1) := by decide +kernel
theorem e_Mo_act_7 : decode b_Mo_act 7 = .ok (.invokevirtual 257, 3) := by decide +kernel
theorem e_Mo_act_10 : decode b_Mo_act 10 = .ok (.ifCond .eq 13, 3) := by decide +kernel
theorem e_Mo_act_13 : decode b_Mo_act 13 = .ok (.aload_n 0, 1) := by decide +kernel
theorem e_Mo_act_14 : decode b_Mo_act 14 = .ok (.iload_n 2, 1) := by decide +kernel
theorem e_Mo_act_15 : decode b_Mo_act 15 = .ok (.iconst 0, 1) := by decide +kernel
theorem e_Mo_act_16 : decode b_Mo_act 16 = .ok (.iconst 2, 1) := by decide +kernel
theorem e_Mo_act_17 : decode b_Mo_act 17 = .ok (.invokevirtual 249, 3) := by decide +kernel
theorem e_Mo_act_20 : decode b_Mo_act 20 = .ok (.ifCond .ne 5, 3) := by decide +kernel
theorem e_Mo_act_23 : decode b_Mo_act 23 = .ok (.iconst 0, 1) := by decide +kernel
theorem e_Mo_act_24 : decode b_Mo_act 24 = .ok (.ireturn, 1) := by decide +kernel
theorem e_Mo_act_25 : decode b_Mo_act 25 = .ok (.iload_n 2, 1) := by decide +kernel
theorem e_Mo_act_26 : decode b_Mo_act 26 = .ok (.ifCond .ne 12, 3) := by decide +kernel
theorem e_Mo_act_29 : decode b_Mo_act 29 = .ok (.aload_n 0, 1) := by decide +kernel
theorem e_Mo_act_30 : decode b_Mo_act 30 = .ok (.iload_n 1, 1) := by decide +kernel
theorem e_Mo_act_31 : decode b_Mo_act 31 = .ok (.iload_n 3, 1) := by decide +kernel
theorem e_Mo_act_32 : decode b_Mo_act 32 = .ok (.invokevirtual 415, 3) := by decide +kernel
theorem e_Mo_act_35 : decode b_Mo_act 35 = .ok (.goto 23, 3) := by decide +kernel
theorem e_Mo_act_38 : decode b_Mo_act 38 = .ok (.iload_n 2, 1) := by decide +kernel
theorem e_Mo_act_39 : decode b_Mo_act 39 = .ok (.iconst 1, 1) := by decide +kernel
theorem e_Mo_act_40 : decode b_Mo_act 40 = .ok (.if_icmp .ne 12, 3) := by decide +kernel
theorem e_Mo_act_43 : decode b_Mo_act 43 = .ok (.aload_n 0, 1) := by decide +kernel
theorem e_Mo_act_44 : decode b_Mo_act 44 = .ok (.iload_n 1, 1) := by decide +kernel
theorem e_Mo_act_45 : decode b_Mo_act 45 = .ok (.iload_n 3, 1) := by decide +kernel
theorem e_Mo_act_46 : decode b_Mo_act 46 = .ok (.invokevirtual 424, 3) := by decide +kernel
theorem e_Mo_act_49 : decode b_Mo_act 49 = .ok (.goto 9, 3) := by decide +kernel
theorem e_Mo_act_52 : decode b_Mo_act 52 = .ok (.aload_n 0, 1) := by decide +kernel
theorem e_Mo_act_53 : decode b_Mo_act 53 = .ok (.iload_n 1, 1) := by decide +kernel
theorem e_Mo_act_54 : decode b_Mo_act 54 = .ok (.iload_n 3, 1) := by decide +kernel
theorem e_Mo_act_55 : decode b_Mo_act 55 = .ok (.invokevirtual 430, 3) := by decide +kernel
theorem e_Mo_act_58 : decode b_Mo_act 58 = .ok (.ireturn, 1) := by decide +kernel
theorem e_Mo_trace_0 : decode b_Mo_trace 0 = .ok (.aload_n 0, 1) := by decide +kernel
theorem e_Mo_trace_1 : decode b_Mo_trace 1 = .ok (.iload_n 1, 1) := by decide +kernel
theorem e_Mo_trace_2 : decode b_Mo_trace 2 = .ok (.iconst 0, 1) := by decide +kernel
theorem e_Mo_trace_3 : decode b_Mo_trace 3 = .ok (.bipush 19, 2) := by decide +kernel
theorem e_Mo_trace_5 : decode b_Mo_trace 5 = .ok (.invokevirtual 249, 3) := by decide +kernel
theorem e_Mo_trace_8 : decode b_Mo_trace 8 = .ok (.ifCond .eq 20, 3) := by decide +kernel
theorem e_Mo_trace_11 : decode b_Mo_trace 11 = .ok (.iload_n 1, 1) := by decide +kernel
theorem e_Mo_trace_12 : decode b_Mo_trace 12 = .ok (.aload_n 0, 1) := by decide +kernel
theorem e_Mo_trace_13 : decode b_Mo_trace 13 = .ok (.getfield 226, 3) := by decide +kernel
theorem e_Mo_trace_16 : decode b_Mo_trace 16 = .ok (.if_icmp .ge 12, 3) := by decide +kernel
theorem e_Mo_trace_19 : decode b_Mo_trace 19 = .ok (.aload_n 0, 1) := by decide +kernel
theorem e_Mo_trace_20 : decode b_Mo_trace 20 = .ok (.getfield 229, 3) := by decide +kernel
theorem e_Mo_trace_23 : decode b_Mo_trace 23 = .ok (.iload_n 1, 1) := by decide +kernel
theorem e_Mo_trace_24 : decode b_Mo_trace 24 = .ok (.iaload, 1) := by decide +kernel
theorem e_Mo_trace_25 : decode b_Mo_trace 25 = .ok (.goto 4, 3) := by decide +kernel
theorem e_Mo_trace_28 : decode b_Mo_trace 28 = .ok (.iconst (-1), 1) := by decide +kernel
theorem e_Mo_trace_29 : decode b_Mo_trace 29 = .ok (.ireturn, 1) := by decide +kernel
theorem e_Mo_taken_0 : decode b_Mo_taken 0 = .ok (.aload_n 0, 1) := by decide +kernel
theorem e_Mo_taken_1 : decode b_Mo_taken 1 = .ok (.iload_n 2, 1) := by decide +kernel
theorem e_Mo_taken_2 : decode b_Mo_taken 2 = .ok (.iconst 0, 1) := by decide +kernel
theorem e_Mo_taken_3 : decode b_Mo_taken 3 = .ok (.bipush 6, 2) := by decide +kernel
theorem e_Mo_taken_5 : decode b_Mo_taken 5 = .ok (.invokevirtual 249, 3) := by decide +kernel
theorem e_Mo_taken_8 : decode b_Mo_taken 8 = .ok (.ifCond .ne 6, 3) := by decide +kernel
theorem e_Mo_taken_11 : decode b_Mo_taken 11 = .ok (.bipush (-2), 2) := by decide +kernel
theorem e_Mo_taken_13 : decode b_Mo_taken 13 = .ok (.ireturn, 1) := by decide +kernel
theorem e_Mo_taken_14 : decode b_Mo_taken 14 = .ok (.aload_n 0, 1) := by decide +kernel
theorem e_Mo_taken_15 : decode b_Mo_taken 15 = .ok (.iload_n 1, 1) := by decide +kernel
theorem e_Mo_taken_16 : decode b_Mo_taken 16 = .ok (.invokevirtual 257, 3) := by decide +kernel
theorem e_Mo_taken_19 : decode b_Mo_taken 19 = .ok (.ifCond .ne 6, 3) := by decide +kernel
theorem e_Mo_taken_22 : decode b_Mo_taken 22 = .ok (.bipush (-11), 2) := by decide +kernel
theorem e_Mo_taken_24 : decode b_Mo_taken 24 = .ok (.ireturn, 1) := by decide +kernel
theorem e_Mo_taken_25 : decode b_Mo_taken 25 = .ok (.aload_n 0, 1) := by decide +kernel
theorem e_Mo_taken_26 : decode b_Mo_taken 26 = .ok (.getfield 26, 3) := by decide +kernel
theorem e_Mo_taken_29 : decode b_Mo_taken 29 = .ok (.iload_n 1, 1) := by decide +kernel
theorem e_Mo_taken_30 : decode b_Mo_taken 30 = .ok (.iaload, 1) := by decide +kernel
theorem e_Mo_taken_31 : decode b_Mo_taken 31 = .ok (.istore_n 3, 1) := by decide +kernel
theorem e_Mo_taken_32 : decode b_Mo_taken 32 = .ok (.iload_n 2, 1) := by decide +kernel
theorem e_Mo_taken_33 : decode b_Mo_taken 33 = .ok (.ifCond .eq 39, 3) := by decide +kernel
theorem e_Mo_taken_36 : decode b_Mo_taken 36 = .ok (.iload_n 3, 1) := by decide +kernel
theorem e_Mo_taken_37 : decode b_Mo_taken 37 = .ok (.iload_n 2, 1) := by decide +kernel
theorem e_Mo_taken_38 : decode b_Mo_taken 38 = .ok (.if_icmp .eq 34, 3) := by decide +kernel
theorem e_Mo_taken_41 : decode b_Mo_taken 41 = .ok (.iload_n 2, 1) := by decide +kernel
theorem e_Mo_taken_42 : decode b_Mo_taken 42 = .ok (.iconst 1, 1) := by decide +kernel
theorem e_Mo_taken_43 : decode b_Mo_taken 43 = .ok (.if_icmp .ne 8, 3) := by decide +kernel
theorem e_Mo_taken_46 : decode b_Mo_taken 46 = .ok (.iload_n 3, 1) := by decide +kernel
theorem e_Mo_taken_47 : decode b_Mo_taken 47 = .ok (.iconst 4, 1) := by decide +kernel
theorem e_Mo_taken_48 : decode b_Mo_taken 48 = .ok (.if_icmp .eq 24, 3) := by decide +kernel
theorem e_Mo_taken_51 : decode b_Mo_taken 51 = .ok (.iload_n 2, 1) := by decide +kernel
theorem e_Mo_taken_52 : decode b_Mo_taken 52 = .ok (.iconst 2, 1) := by decide +kernel
theorem e_Mo_taken_53 : decode b_Mo_taken 53 = .ok (.if_icmp .ne 8, 3) := by decide +kernel
theorem e_Mo_taken_56 : decode b_Mo_taken 56 = .ok (.iload_n 3, 1) := by decide +kernel
theorem e_Mo_taken_57 : decode b_Mo_taken 57 = .ok (.iconst 5, 1) := by decide +kernel
theorem e_Mo_taken_58 : decode b_Mo_taken 58 = .ok (.if_icmp .eq 14, 3) := by decide +kernel
theorem e_Mo_taken_61 : decode b_Mo_taken 61 = .ok (.iload_n 2, 1) := by decide +kernel
theorem e_Mo_taken_62 : decode b_Mo_taken 62 = .ok (.iconst 3, 1) := by decide +kernel
theorem e_Mo_taken_63 : decode b_Mo_taken 63 = .ok (.if_icmp .ne 13, 3) := by decide +kernel
theorem e_Mo_taken_66 : decode b_Mo_taken 66 = .ok (.iload_n 3, 1) := by decide +kernel
theorem e_Mo_taken_67 : decode b_Mo_taken 67 = .ok (.bipush 6, 2) := by decide +kernel
theorem e_Mo_taken_69 : decode b_Mo_taken 69 = .ok (.if_icmp .ne 7, 3) := by decide +kernel
theorem e_Mo_taken_72 : decode b_Mo_taken 72 = .ok (.iload_n 3, 1) := by decide +kernel
theorem e_Mo_taken_73 : decode b_Mo_taken 73 = .ok (.goto 5, 3) := by decide +kernel
theorem e_Mo_taken_76 : decode b_Mo_taken 76 = .ok (.bipush (-12), 2) := by decide +kernel
theorem e_Mo_taken_78 : decode b_Mo_taken 78 = .ok (.ireturn, 1) := by decide +kernel
theorem e_Mo_count_0 : decode b_Mo_count 0 = .ok (.iload_n 1, 1) := by decide +kernel
theorem e_Mo_count_1 : decode b_Mo_count 1 = .ok (.tableswitch 78 0 6 #[43, 48, 53, 58, 63, 68, 73], 43) := by decide +kernel
theorem e_Mo_count_44 : decode b_Mo_count 44 = .ok (.aload_n 0, 1) := by decide +kernel
theorem e_Mo_count_45 : decode b_Mo_count 45 = .ok (.getfield 7, 3) := by decide +kernel
theorem e_Mo_count_48 : decode b_Mo_count 48 = .ok (.ireturn, 1) := by decide +kernel
theorem e_Mo_count_49 : decode b_Mo_count 49 = .ok (.aload_n 0, 1) := by decide +kernel
theorem e_Mo_count_50 : decode b_Mo_count 50 = .ok (.getfield 48, 3) := by decide +kernel
theorem e_Mo_count_53 : decode b_Mo_count 53 = .ok (.ireturn, 1) := by decide +kernel
theorem e_Mo_count_54 : decode b_Mo_count 54 = .ok (.aload_n 0, 1) := by decide +kernel
theorem e_Mo_count_55 : decode b_Mo_count 55 = .ok (.getfield 130, 3) := by decide +kernel
theorem e_Mo_count_58 : decode b_Mo_count 58 = .ok (.ireturn, 1) := by decide +kernel
theorem e_Mo_count_59 : decode b_Mo_count 59 = .ok (.aload_n 0, 1) := by decide +kernel
theorem e_Mo_count_60 : decode b_Mo_count 60 = .ok (.getfield 139, 3) := by decide +kernel
theorem e_Mo_count_63 : decode b_Mo_count 63 = .ok (.ireturn, 1) := by decide +kernel
theorem e_Mo_count_64 : decode b_Mo_count 64 = .ok (.aload_n 0, 1) := by decide +kernel
theorem e_Mo_count_65 : decode b_Mo_count 65 = .ok (.getfield 142, 3) := by decide +kernel
theorem e_Mo_count_68 : decode b_Mo_count 68 = .ok (.ireturn, 1) := by decide +kernel
theorem e_Mo_count_69 : decode b_Mo_count 69 = .ok (.aload_n 0, 1) := by decide +kernel
theorem e_Mo_count_70 : decode b_Mo_count 70 = .ok (.getfield 54, 3) := by decide +kernel
theorem e_Mo_count_73 : decode b_Mo_count 73 = .ok (.ireturn, 1) := by decide +kernel
theorem e_Mo_count_74 : decode b_Mo_count 74 = .ok (.aload_n 0, 1) := by decide +kernel
theorem e_Mo_count_75 : decode b_Mo_count 75 = .ok (.getfield 226, 3) := by decide +kernel
theorem e_Mo_count_78 : decode b_Mo_count 78 = .ok (.ireturn, 1) := by decide +kernel
theorem e_Mo_count_79 : decode b_Mo_count 79 = .ok (.bipush (-2), 2) := by decide +kernel
theorem e_Mo_count_81 : decode b_Mo_count 81 = .ok (.ireturn, 1) := by decide +kernel
theorem e_Mo_isTape_0 : decode b_Mo_isTape 0 = .ok (.aload_n 0, 1) := by decide +kernel
theorem e_Mo_isTape_1 : decode b_Mo_isTape 1 = .ok (.iload_n 1, 1) := by decide +kernel
theorem e_Mo_isTape_2 : decode b_Mo_isTape 2 = .ok (.iconst 0, 1) := by decide +kernel
theorem e_Mo_isTape_3 : decode b_Mo_isTape 3 = .ok (.iconst 5, 1) := by decide +kernel
theorem e_Mo_isTape_4 : decode b_Mo_isTape 4 = .ok (.invokevirtual 249, 3) := by decide +kernel
theorem e_Mo_isTape_7 : decode b_Mo_isTape 7 = .ok (.ireturn, 1) := by decide +kernel
theorem e_Mo_tape_0 : decode b_Mo_tape 0 = .ok (.aload_n 0, 1) := by decide +kernel
theorem e_Mo_tape_1 : decode b_Mo_tape 1 = .ok (.iload_n 1, 1) := by decide +kernel
theorem e_Mo_tape_2 : decode b_Mo_tape 2 = .ok (.invokevirtual 406, 3) := by decide +kernel
theorem e_Mo_tape_5 : decode b_Mo_tape 5 = .ok (.ifCond .ne 5, 3) := by decide +kernel
theorem e_Mo_tape_8 : decode b_Mo_tape 8 = .ok (.iconst (-1), 1) := by decide +kernel
theorem e_Mo_tape_9 : decode b_Mo_tape 9 = .ok (.ireturn, 1) := by decide +kernel
theorem e_Mo_tape_10 : decode b_Mo_tape 10 = .ok (.aload_n 0, 1) := by decide +kernel
theorem e_Mo_tape_11 : decode b_Mo_tape 11 = .ok (.iload_n 2, 1) := by decide +kernel
theorem e_Mo_tape_12 : decode b_Mo_tape 12 = .ok (.iconst (-1), 1) := by decide +kernel
theorem e_Mo_tape_13 : decode b_Mo_tape 13 = .ok (.iconst 4, 1) := by decide +kernel
theorem e_Mo_tape_14 : decode b_Mo_tape 14 = .ok (.invokevirtual 249, 3) := by decide +kernel
theorem e_Mo_tape_17 : decode b_Mo_tape 17 = .ok (.ifCond .eq 13, 3) := by decide +kernel
theorem e_Mo_tape_20 : decode b_Mo_tape 20 = .ok (.iload_n 2, 1) := by decide +kernel
theorem e_Mo_tape_21 : decode b_Mo_tape 21 = .ok (.ifCond .lt 12, 3) := by decide +kernel
theorem e_Mo_tape_24 : decode b_Mo_tape 24 = .ok (.iload_n 3, 1) := by decide +kernel
theorem e_Mo_tape_25 : decode b_Mo_tape 25 = .ok (.bipush 60, 2) := by decide +kernel
theorem e_Mo_tape_27 : decode b_Mo_tape 27 = .ok (.if_icmp .le 6, 3) := by decide +kernel
theorem e_Mo_tape_30 : decode b_Mo_tape 30 = .ok (.bipush (-2), 2) := by decide +kernel
theorem e_Mo_tape_32 : decode b_Mo_tape 32 = .ok (.ireturn, 1) := by decide +kernel
theorem e_Mo_tape_33 : decode b_Mo_tape 33 = .ok (.iload_n 2, 1) := by decide +kernel
theorem e_Mo_tape_34 : decode b_Mo_tape 34 = .ok (.ifCond .lt 10, 3) := by decide +kernel
theorem e_Mo_tape_37 : decode b_Mo_tape 37 = .ok (.iload_n 3, 1) := by decide +kernel
theorem e_Mo_tape_38 : decode b_Mo_tape 38 = .ok (.ifCond .ge 6, 3) := by decide +kernel
theorem e_Mo_tape_41 : decode b_Mo_tape 41 = .ok (.bipush (-14), 2) := by decide +kernel
theorem e_Mo_tape_43 : decode b_Mo_tape 43 = .ok (.ireturn, 1) := by decide +kernel
theorem e_Mo_tape_44 : decode b_Mo_tape 44 = .ok (.aload_n 0, 1) := by decide +kernel
theorem e_Mo_tape_45 : decode b_Mo_tape 45 = .ok (.getfield 232, 3) := by decide +kernel
theorem e_Mo_tape_48 : decode b_Mo_tape 48 = .ok (.iload_n 1, 1) := by decide +kernel
theorem e_Mo_tape_49 : decode b_Mo_tape 49 = .ok (.iload_n 2, 1) := by decide +kernel
theorem e_Mo_tape_50 : decode b_Mo_tape 50 = .ok (.iastore, 1) := by decide +kernel
theorem e_Mo_tape_51 : decode b_Mo_tape 51 = .ok (.aload_n 0, 1) := by decide +kernel
theorem e_Mo_tape_52 : decode b_Mo_tape 52 = .ok (.getfield 235, 3) := by decide +kernel
theorem e_Mo_tape_55 : decode b_Mo_tape 55 = .ok (.iload_n 1, 1) := by decide +kernel
theorem e_Mo_tape_56 : decode b_Mo_tape 56 = .ok (.iload_n 2, 1) := by decide +kernel
theorem e_Mo_tape_57 : decode b_Mo_tape 57 = .ok (.ifCond .ge 7, 3) := by decide +kernel
theorem e_Mo_tape_60 : decode b_Mo_tape 60 = .ok (.iconst 0, 1) := by decide +kernel
theorem e_Mo_tape_61 : decode b_Mo_tape 61 = .ok (.goto 4, 3) := by decide +kernel
theorem e_Mo_tape_64 : decode b_Mo_tape 64 = .ok (.iload_n 3, 1) := by decide +kernel
theorem e_Mo_tape_65 : decode b_Mo_tape 65 = .ok (.iastore, 1) := by decide +kernel
theorem e_Mo_tape_66 : decode b_Mo_tape 66 = .ok (.iconst 0, 1) := by decide +kernel
theorem e_Mo_tape_67 : decode b_Mo_tape 67 = .ok (.istore 4, 2) := by decide +kernel
theorem e_Mo_tape_69 : decode b_Mo_tape 69 = .ok (.iload 4, 2) := by decide +kernel
theorem e_Mo_tape_71 : decode b_Mo_tape 71 = .ok (.bipush 60, 2) := by decide +kernel
theorem e_Mo_tape_73 : decode b_Mo_tape 73 = .ok (.if_icmp .ge 22, 3) := by decide +kernel
theorem e_Mo_tape_76 : decode b_Mo_tape 76 = .ok (.aload_n 0, 1) := by decide +kernel
theorem e_Mo_tape_77 : decode b_Mo_tape 77 = .ok (.getfield 238, 3) := by decide +kernel
theorem e_Mo_tape_80 : decode b_Mo_tape 80 = .ok (.bipush 60, 2) := by decide +kernel
theorem e_Mo_tape_82 : decode b_Mo_tape 82 = .ok (.iload_n 1, 1) := by decide +kernel
theorem e_Mo_tape_83 : decode b_Mo_tape 83 = .ok (.imul, 1) := by decide +kernel
theorem e_Mo_tape_84 : decode b_Mo_tape 84 = .ok (.iload 4, 2) := by decide +kernel
theorem e_Mo_tape_86 : decode b_Mo_tape 86 = .ok (.iadd, 1) := by decide +kernel
theorem e_Mo_tape_87 : decode b_Mo_tape 87 = .ok (.lconst 0, 1) := by decide +kernel
theorem e_Mo_tape_88 : decode b_Mo_tape 88 = .ok (.lastore, 1) := by decide +kernel
theorem e_Mo_tape_89 : decode b_Mo_tape 89 = .ok (.iinc 4 1, 3) := by decide +kernel
theorem e_Mo_tape_92 : decode b_Mo_tape 92 = .ok (.goto (-23), 3) := by decide +kernel
theorem e_Mo_tape_95 : decode b_Mo_tape 95 = .ok (.iconst 1, 1) := by decide +kernel
theorem e_Mo_tape_96 : decode b_Mo_tape 96 = .ok (.ireturn, 1) := by decide +kernel
theorem e_Mo_narrow_0 : decode b_Mo_narrow 0 = .ok (.iload_n 1, 1) := by decide +kernel
theorem e_Mo_narrow_1 : decode b_Mo_narrow 1 = .ok (.ifCond .ne 10, 3) := by decide +kernel
theorem e_Mo_narrow_4 : decode b_Mo_narrow 4 = .ok (.lload_n 2, 1) := by decide +kernel
theorem e_Mo_narrow_5 : decode b_Mo_narrow 5 = .ok (.l2i, 1) := by decide +kernel
theorem e_Mo_narrow_6 : decode b_Mo_narrow 6 = .ok (.i2b, 1) := by decide +kernel
theorem e_Mo_narrow_7 : decode b_Mo_narrow 7 = .ok (.i2l, 1) := by decide +kernel
theorem e_Mo_narrow_8 : decode b_Mo_narrow 8 = .ok (.goto 46, 3) := by decide +kernel
theorem e_Mo_narrow_11 : decode b_Mo_narrow 11 = .ok (.iload_n 1, 1) := by decide +kernel
theorem e_Mo_narrow_12 : decode b_Mo_narrow 12 = .ok (.iconst 1, 1) := by decide +kernel
theorem e_Mo_narrow_13 : decode b_Mo_narrow 13 = .ok (.if_icmp .ne 10, 3) := by decide +kernel
theorem e_Mo_narrow_16 : decode b_Mo_narrow 16 = .ok (.lload_n 2, 1) := by decide +kernel
theorem e_Mo_narrow_17 : decode b_Mo_narrow 17 = .ok (.l2i, 1) := by decide +kernel
theorem e_Mo_narrow_18 : decode b_Mo_narrow 18 = .ok (.i2s, 1) := by decide +kernel
theorem e_Mo_narrow_19 : decode b_Mo_narrow 19 = .ok (.i2l, 1) := by decide +kernel
theorem e_Mo_narrow_20 : decode b_Mo_narrow 20 = .ok (.goto 34, 3) := by decide +kernel
theorem e_Mo_narrow_23 : decode b_Mo_narrow 23 = .ok (.iload_n 1, 1) := by decide +kernel
theorem e_Mo_narrow_24 : decode b_Mo_narrow 24 = .ok (.iconst 2, 1) := by decide +kernel
theorem e_Mo_narrow_25 : decode b_Mo_narrow 25 = .ok (.if_icmp .ne 9, 3) := by decide +kernel
theorem e_Mo_narrow_28 : decode b_Mo_narrow 28 = .ok (.lload_n 2, 1) := by decide +kernel
theorem e_Mo_narrow_29 : decode b_Mo_narrow 29 = .ok (.l2i, 1) := by decide +kernel
theorem e_Mo_narrow_30 : decode b_Mo_narrow 30 = .ok (.i2l, 1) := by decide +kernel
theorem e_Mo_narrow_31 : decode b_Mo_narrow 31 = .ok (.goto 23, 3) := by decide +kernel
theorem e_Mo_narrow_34 : decode b_Mo_narrow 34 = .ok (.iload_n 1, 1) := by decide +kernel
theorem e_Mo_narrow_35 : decode b_Mo_narrow 35 = .ok (.iconst 4, 1) := by decide +kernel
theorem e_Mo_narrow_36 : decode b_Mo_narrow 36 = .ok (.if_icmp .ne 17, 3) := by decide +kernel
theorem e_Mo_narrow_39 : decode b_Mo_narrow 39 = .ok (.lload_n 2, 1) := by decide +kernel
theorem e_Mo_narrow_40 : decode b_Mo_narrow 40 = .ok (.lconst 0, 1) := by decide +kernel
theorem e_Mo_narrow_41 : decode b_Mo_narrow 41 = .ok (.lcmp, 1) := by decide +kernel
theorem e_Mo_narrow_42 : decode b_Mo_narrow 42 = .ok (.ifCond .eq 7, 3) := by decide +kernel
theorem e_Mo_narrow_45 : decode b_Mo_narrow 45 = .ok (.lconst 1, 1) := by decide +kernel
theorem e_Mo_narrow_46 : decode b_Mo_narrow 46 = .ok (.goto 8, 3) := by decide +kernel
theorem e_Mo_narrow_49 : decode b_Mo_narrow 49 = .ok (.lconst 0, 1) := by decide +kernel
theorem e_Mo_narrow_50 : decode b_Mo_narrow 50 = .ok (.goto 4, 3) := by decide +kernel
theorem e_Mo_narrow_53 : decode b_Mo_narrow 53 = .ok (.lload_n 2, 1) := by decide +kernel
theorem e_Mo_narrow_54 : decode b_Mo_narrow 54 = .ok (.lreturn, 1) := by decide +kernel
theorem e_Mo_item_0 : decode b_Mo_item 0 = .ok (.aload_n 0, 1) := by decide +kernel
theorem e_Mo_item_1 : decode b_Mo_item 1 = .ok (.iload_n 1, 1) := by decide +kernel
theorem e_Mo_item_2 : decode b_Mo_item 2 = .ok (.invokevirtual 406, 3) := by decide +kernel
theorem e_Mo_item_5 : decode b_Mo_item 5 = .ok (.ifCond .ne 5, 3) := by decide +kernel
theorem e_Mo_item_8 : decode b_Mo_item 8 = .ok (.iconst (-1), 1) := by decide +kernel
theorem e_Mo_item_9 : decode b_Mo_item 9 = .ok (.ireturn, 1) := by decide +kernel
theorem e_Mo_item_10 : decode b_Mo_item 10 = .ok (.aload_n 0, 1) := by decide +kernel
theorem e_Mo_item_11 : decode b_Mo_item 11 = .ok (.getfield 232, 3) := by decide +kernel
theorem e_Mo_item_14 : decode b_Mo_item 14 = .ok (.iload_n 1, 1) := by decide +kernel
theorem e_Mo_item_15 : decode b_Mo_item 15 = .ok (.iaload, 1) := by decide +kernel
theorem e_Mo_item_16 : decode b_Mo_item 16 = .ok (.ifCond .ge 6, 3) := by decide +kernel
theorem e_Mo_item_19 : decode b_Mo_item 19 = .ok (.bipush (-11), 2) := by decide +kernel
theorem e_Mo_item_21 : decode b_Mo_item 21 = .ok (.ireturn, 1) := by decide +kernel
theorem e_Mo_item_22 : decode b_Mo_item 22 = .ok (.aload_n 0, 1) := by decide +kernel
theorem e_Mo_item_23 : decode b_Mo_item 23 = .ok (.iload_n 2, 1) := by decide +kernel
theorem e_Mo_item_24 : decode b_Mo_item 24 = .ok (.iconst 0, 1) := by decide +kernel
theorem e_Mo_item_25 : decode b_Mo_item 25 = .ok (.aload_n 0, 1) := by decide +kernel
theorem e_Mo_item_26 : decode b_Mo_item 26 = .ok (.getfield 235, 3) := by decide +kernel
theorem e_Mo_item_29 : decode b_Mo_item 29 = .ok (.iload_n 1, 1) := by decide +kernel
theorem e_Mo_item_30 : decode b_Mo_item 30 = .ok (.iaload, 1) := by decide +kernel
theorem e_Mo_item_31 : decode b_Mo_item 31 = .ok (.iconst 1, 1) := by decide +kernel
theorem e_Mo_item_32 : decode b_Mo_item 32 = .ok (.isub, 1) := by decide +kernel
theorem e_Mo_item_33 : decode b_Mo_item 33 = .ok (.invokevirtual 249, 3) := by decide +kernel
theorem e_Mo_item_36 : decode b_Mo_item 36 = .ok (.ifCond .ne 6, 3) := by decide +kernel
theorem e_Mo_item_39 : decode b_Mo_item 39 = .ok (.bipush (-13), 2) := by decide +kernel
theorem e_Mo_item_41 : decode b_Mo_item 41 = .ok (.ireturn, 1) := by decide +kernel
theorem e_Mo_item_42 : decode b_Mo_item 42 = .ok (.aload_n 0, 1) := by decide +kernel
theorem e_Mo_item_43 : decode b_Mo_item 43 = .ok (.getfield 238, 3) := by decide +kernel
theorem e_Mo_item_46 : decode b_Mo_item 46 = .ok (.bipush 60, 2) := by decide +kernel
theorem e_Mo_item_48 : decode b_Mo_item 48 = .ok (.iload_n 1, 1) := by decide +kernel
theorem e_Mo_item_49 : decode b_Mo_item 49 = .ok (.imul, 1) := by decide +kernel
theorem e_Mo_item_50 : decode b_Mo_item 50 = .ok (.iload_n 2, 1) := by decide +kernel
theorem e_Mo_item_51 : decode b_Mo_item 51 = .ok (.iadd, 1) := by decide +kernel
theorem e_Mo_item_52 : decode b_Mo_item 52 = .ok (.aload_n 0, 1) := by decide +kernel
theorem e_Mo_item_53 : decode b_Mo_item 53 = .ok (.aload_n 0, 1) := by decide +kernel
theorem e_Mo_item_54 : decode b_Mo_item 54 = .ok (.getfield 232, 3) := by decide +kernel
theorem e_Mo_item_57 : decode b_Mo_item 57 = .ok (.iload_n 1, 1) := by decide +kernel
theorem e_Mo_item_58 : decode b_Mo_item 58 = .ok (.iaload, 1) := by decide +kernel
theorem e_Mo_item_59 : decode b_Mo_item 59 = .ok (.lload_n 3, 1) := by decide +kernel
theorem e_Mo_item_60 : decode b_Mo_item 60 = .ok (.invokevirtual 433, 3) := by decide +kernel
theorem e_Mo_item_63 : decode b_Mo_item 63 = .ok (.lastore, 1) := by decide +kernel
theorem e_Mo_item_64 : decode b_Mo_item 64 = .ok (.iconst 1, 1) := by decide +kernel
theorem e_Mo_item_65 : decode b_Mo_item 65 = .ok (.ireturn, 1) := by decide +kernel
theorem e_Mo_read_0 : decode b_Mo_read 0 = .ok (.aload_n 0, 1) := by decide +kernel
theorem e_Mo_read_1 : decode b_Mo_read 1 = .ok (.iload_n 1, 1) := by decide +kernel
theorem e_Mo_read_2 : decode b_Mo_read 2 = .ok (.invokevirtual 406, 3) := by decide +kernel
theorem e_Mo_read_5 : decode b_Mo_read 5 = .ok (.ifCond .eq 29, 3) := by decide +kernel
theorem e_Mo_read_8 : decode b_Mo_read 8 = .ok (.aload_n 0, 1) := by decide +kernel
theorem e_Mo_read_9 : decode b_Mo_read 9 = .ok (.getfield 232, 3) := by decide +kernel
theorem e_Mo_read_12 : decode b_Mo_read 12 = .ok (.iload_n 1, 1) := by decide +kernel
theorem e_Mo_read_13 : decode b_Mo_read 13 = .ok (.iaload, 1) := by decide +kernel
theorem e_Mo_read_14 : decode b_Mo_read 14 = .ok (.ifCond .lt 20, 3) := by decide +kernel
theorem e_Mo_read_17 : decode b_Mo_read 17 = .ok (.aload_n 0, 1) := by decide +kernel
theorem e_Mo_read_18 : decode b_Mo_read 18 = .ok (.iload_n 2, 1) := by decide +kernel
theorem e_Mo_read_19 : decode b_Mo_read 19 = .ok (.iconst 0, 1) := by decide +kernel
theorem e_Mo_read_20 : decode b_Mo_read 20 = .ok (.aload_n 0, 1) := by decide +kernel
theorem e_Mo_read_21 : decode b_Mo_read 21 = .ok (.getfield 235, 3) := by decide +kernel
theorem e_Mo_read_24 : decode b_Mo_read 24 = .ok (.iload_n 1, 1) := by decide +kernel
theorem e_Mo_read_25 : decode b_Mo_read 25 = .ok (.iaload, 1) := by decide +kernel
theorem e_Mo_read_26 : decode b_Mo_read 26 = .ok (.iconst 1, 1) := by decide +kernel
theorem e_Mo_read_27 : decode b_Mo_read 27 = .ok (.isub, 1) := by decide +kernel
theorem e_Mo_read_28 : decode b_Mo_read 28 = .ok (.invokevirtual 249, 3) := by decide +kernel
theorem e_Mo_read_31 : decode b_Mo_read 31 = .ok (.ifCond .ne 9, 3) := by decide +kernel
theorem e_Mo_read_34 : decode b_Mo_read 34 = .ok (.ldc2_w 396, 3) := by decide +kernel
theorem e_Mo_read_37 : decode b_Mo_read 37 = .ok (.goto 14, 3) := by decide +kernel
theorem e_Mo_read_40 : decode b_Mo_read 40 = .ok (.aload_n 0, 1) := by decide +kernel
theorem e_Mo_read_41 : decode b_Mo_read 41 = .ok (.getfield 238, 3) := by decide +kernel
theorem e_Mo_read_44 : decode b_Mo_read 44 = .ok (.bipush 60, 2) := by decide +kernel
theorem e_Mo_read_46 : decode b_Mo_read 46 = .ok (.iload_n 1, 1) := by decide +kernel
theorem e_Mo_read_47 : decode b_Mo_read 47 = .ok (.imul, 1) := by decide +kernel
theorem e_Mo_read_48 : decode b_Mo_read 48 = .ok (.iload_n 2, 1) := by decide +kernel
theorem e_Mo_read_49 : decode b_Mo_read 49 = .ok (.iadd, 1) := by decide +kernel
theorem e_Mo_read_50 : decode b_Mo_read 50 = .ok (.laload, 1) := by decide +kernel
theorem e_Mo_read_51 : decode b_Mo_read 51 = .ok (.lreturn, 1) := by decide +kernel
theorem e_Mo_shift_0 : decode b_Mo_shift 0 = .ok (.aload_n 0, 1) := by decide +kernel
theorem e_Mo_shift_1 : decode b_Mo_shift 1 = .ok (.iload_n 1, 1) := by decide +kernel
theorem e_Mo_shift_2 : decode b_Mo_shift 2 = .ok (.invokevirtual 406, 3) := by decide +kernel
theorem e_Mo_shift_5 : decode b_Mo_shift 5 = .ok (.ifCond .eq 11, 3) := by decide +kernel
theorem e_Mo_shift_8 : decode b_Mo_shift 8 = .ok (.aload_n 0, 1) := by decide +kernel
theorem e_Mo_shift_9 : decode b_Mo_shift 9 = .ok (.iload_n 3, 1) := by decide +kernel
theorem e_Mo_shift_10 : decode b_Mo_shift 10 = .ok (.invokevirtual 406, 3) := by decide +kernel
theorem e_Mo_shift_13 : decode b_Mo_shift 13 = .ok (.ifCond .ne 5, 3) := by decide +kernel
theorem e_Mo_shift_16 : decode b_Mo_shift 16 = .ok (.iconst (-1), 1) := by decide +kernel
theorem e_Mo_shift_17 : decode b_Mo_shift 17 = .ok (.ireturn, 1) := by decide +kernel
theorem e_Mo_shift_18 : decode b_Mo_shift 18 = .ok (.aload_n 0, 1) := by decide +kernel
theorem e_Mo_shift_19 : decode b_Mo_shift 19 = .ok (.getfield 232, 3) := by decide +kernel
theorem e_Mo_shift_22 : decode b_Mo_shift 22 = .ok (.iload_n 1, 1) := by decide +kernel
theorem e_Mo_shift_23 : decode b_Mo_shift 23 = .ok (.iaload, 1) := by decide +kernel
theorem e_Mo_shift_24 : decode b_Mo_shift 24 = .ok (.ifCond .lt 12, 3) := by decide +kernel
theorem e_Mo_shift_27 : decode b_Mo_shift 27 = .ok (.aload_n 0, 1) := by decide +kernel
theorem e_Mo_shift_28 : decode b_Mo_shift 28 = .ok (.getfield 232, 3) := by decide +kernel
theorem e_Mo_shift_31 : decode b_Mo_shift 31 = .ok (.iload_n 3, 1) := by decide +kernel
theorem e_Mo_shift_32 : decode b_Mo_shift 32 = .ok (.iaload, 1) := by decide +kernel
theorem e_Mo_shift_33 : decode b_Mo_shift 33 = .ok (.ifCond .ge 6, 3) := by decide +kernel
theorem e_Mo_shift_36 : decode b_Mo_shift 36 = .ok (.bipush (-11), 2) := by decide +kernel
theorem e_Mo_shift_38 : decode b_Mo_shift 38 = .ok (.ireturn, 1) := by decide +kernel
theorem e_Mo_shift_39 : decode b_Mo_shift 39 = .ok (.aload_n 0, 1) := by decide +kernel
theorem e_Mo_shift_40 : decode b_Mo_shift 40 = .ok (.getfield 232, 3) := by decide +kernel
theorem e_Mo_shift_43 : decode b_Mo_shift 43 = .ok (.iload_n 1, 1) := by decide +kernel
theorem e_Mo_shift_44 : decode b_Mo_shift 44 = .ok (.iaload, 1) := by decide +kernel
theorem e_Mo_shift_45 : decode b_Mo_shift 45 = .ok (.aload_n 0, 1) := by decide +kernel
theorem e_Mo_shift_46 : decode b_Mo_shift 46 = .ok (.getfield 232, 3) := by decide +kernel
theorem e_Mo_shift_49 : decode b_Mo_shift 49 = .ok (.iload_n 3, 1) := by decide +kernel
theorem e_Mo_shift_50 : decode b_Mo_shift 50 = .ok (.iaload, 1) := by decide +kernel
theorem e_Mo_shift_51 : decode b_Mo_shift 51 = .ok (.if_icmp .eq 6, 3) := by decide +kernel
theorem e_Mo_shift_54 : decode b_Mo_shift 54 = .ok (.bipush (-12), 2) := by decide +kernel
theorem e_Mo_shift_56 : decode b_Mo_shift 56 = .ok (.ireturn, 1) := by decide +kernel
theorem e_Mo_shift_57 : decode b_Mo_shift 57 = .ok (.iload 5, 2) := by decide +kernel
theorem e_Mo_shift_59 : decode b_Mo_shift 59 = .ok (.ifCond .lt 39, 3) := by decide +kernel
theorem e_Mo_shift_62 : decode b_Mo_shift 62 = .ok (.iload_n 2, 1) := by decide +kernel
theorem e_Mo_shift_63 : decode b_Mo_shift 63 = .ok (.ifCond .lt 35, 3) := by decide +kernel
theorem e_Mo_shift_66 : decode b_Mo_shift 66 = .ok (.iload 4, 2) := by decide +kernel
theorem e_Mo_shift_68 : decode b_Mo_shift 68 = .ok (.ifCond .lt 30, 3) := by decide +kernel
theorem e_Mo_shift_71 : decode b_Mo_shift 71 = .ok (.iload_n 2, 1) := by decide +kernel
theorem e_Mo_shift_72 : decode b_Mo_shift 72 = .ok (.aload_n 0, 1) := by decide +kernel
theorem e_Mo_shift_73 : decode b_Mo_shift 73 = .ok (.getfield 235, 3) := by decide +kernel
theorem e_Mo_shift_76 : decode b_Mo_shift 76 = .ok (.iload_n 1, 1) := by decide +kernel
theorem e_Mo_shift_77 : decode b_Mo_shift 77 = .ok (.iaload, 1) := by decide +kernel
theorem e_Mo_shift_78 : decode b_Mo_shift 78 = .ok (.iload 5, 2) := by decide +kernel
theorem e_Mo_shift_80 : decode b_Mo_shift 80 = .ok (.isub, 1) := by decide +kernel
theorem e_Mo_shift_81 : decode b_Mo_shift 81 = .ok (.if_icmp .gt 17, 3) := by decide +kernel
theorem e_Mo_shift_84 : decode b_Mo_shift 84 = .ok (.iload 4, 2) := by decide +kernel
theorem e_Mo_shift_86 : decode b_Mo_shift 86 = .ok (.aload_n 0, 1) := by decide +kernel
theorem e_Mo_shift_87 : decode b_Mo_shift 87 = .ok (.getfield 235, 3) := by decide +kernel
theorem e_Mo_shift_90 : decode b_Mo_shift 90 = .ok (.iload_n 3, 1) := by decide +kernel
theorem e_Mo_shift_91 : decode b_Mo_shift 91 = .ok (.iaload, 1) := by decide +kernel
theorem e_Mo_shift_92 : decode b_Mo_shift 92 = .ok (.iload 5, 2) := by decide +kernel
theorem e_Mo_shift_94 : decode b_Mo_shift 94 = .ok (.isub, 1) := by decide +kernel
theorem e_Mo_shift_95 : decode b_Mo_shift 95 = .ok (.if_icmp .le 6, 3) := by decide +kernel
theorem e_Mo_shift_98 : decode b_Mo_shift 98 = .ok (.bipush (-13), 2) := by decide +kernel
theorem e_Mo_shift_100 : decode b_Mo_shift 100 = .ok (.ireturn, 1) := by decide +kernel
theorem e_Mo_shift_101 : decode b_Mo_shift 101 = .ok (.iconst 0, 1) := by decide +kernel
theorem e_Mo_shift_102 : decode b_Mo_shift 102 = .ok (.istore 6, 2) := by decide +kernel
theorem e_Mo_shift_104 : decode b_Mo_shift 104 = .ok (.iload 6, 2) := by decide +kernel
theorem e_Mo_shift_106 : decode b_Mo_shift 106 = .ok (.iload 5, 2) := by decide +kernel
theorem e_Mo_shift_108 : decode b_Mo_shift 108 = .ok (.if_icmp .ge 30, 3) := by decide +kernel
theorem e_Mo_shift_111 : decode b_Mo_shift 111 = .ok (.aload_n 0, 1) := by decide +kernel
theorem e_Mo_shift_112 : decode b_Mo_shift 112 = .ok (.getfield 242, 3) := by decide +kernel
theorem e_Mo_shift_115 : decode b_Mo_shift 115 = .ok (.iload 6, 2) := by decide +kernel
theorem e_Mo_shift_117 : decode b_Mo_shift 117 = .ok (.aload_n 0, 1) := by decide +kernel
theorem e_Mo_shift_118 : decode b_Mo_shift 118 = .ok (.getfield 238, 3) := by decide +kernel
theorem e_Mo_shift_121 : decode b_Mo_shift 121 = .ok (.bipush 60, 2) := by decide +kernel
theorem e_Mo_shift_123 : decode b_Mo_shift 123 = .ok (.iload_n 1, 1) := by decide +kernel
theorem e_Mo_shift_124 : decode b_Mo_shift 124 = .ok (.imul, 1) := by decide +kernel
theorem e_Mo_shift_125 : decode b_Mo_shift 125 = .ok (.iload_n 2, 1) := by decide +kernel
theorem e_Mo_shift_126 : decode b_Mo_shift 126 = .ok (.iadd, 1) := by decide +kernel
theorem e_Mo_shift_127 : decode b_Mo_shift 127 = .ok (.iload 6, 2) := by decide +kernel
theorem e_Mo_shift_129 : decode b_Mo_shift 129 = .ok (.iadd, 1) := by decide +kernel
theorem e_Mo_shift_130 : decode b_Mo_shift 130 = .ok (.laload, 1) := by decide +kernel
theorem e_Mo_shift_131 : decode b_Mo_shift 131 = .ok (.lastore, 1) := by decide +kernel
theorem e_Mo_shift_132 : decode b_Mo_shift 132 = .ok (.iinc 6 1, 3) := by decide +kernel
theorem e_Mo_shift_135 : decode b_Mo_shift 135 = .ok (.goto (-31), 3) := by decide +kernel
theorem e_Mo_shift_138 : decode b_Mo_shift 138 = .ok (.iconst 0, 1) := by decide +kernel
theorem e_Mo_shift_139 : decode b_Mo_shift 139 = .ok (.istore 6, 2) := by decide +kernel
theorem e_Mo_shift_141 : decode b_Mo_shift 141 = .ok (.iload 6, 2) := by decide +kernel
theorem e_Mo_shift_143 : decode b_Mo_shift 143 = .ok (.iload 5, 2) := by decide +kernel
theorem e_Mo_shift_145 : decode b_Mo_shift 145 = .ok (.if_icmp .ge 31, 3) := by decide +kernel
theorem e_Mo_shift_148 : decode b_Mo_shift 148 = .ok (.aload_n 0, 1) := by decide +kernel
theorem e_Mo_shift_149 : decode b_Mo_shift 149 = .ok (.getfield 238, 3) := by decide +kernel
theorem e_Mo_shift_152 : decode b_Mo_shift 152 = .ok (.bipush 60, 2) := by decide +kernel
theorem e_Mo_shift_154 : decode b_Mo_shift 154 = .ok (.iload_n 3, 1) := by decide +kernel
theorem e_Mo_shift_155 : decode b_Mo_shift 155 = .ok (.imul, 1) := by decide +kernel
theorem e_Mo_shift_156 : decode b_Mo_shift 156 = .ok (.iload 4, 2) := by decide +kernel
theorem e_Mo_shift_158 : decode b_Mo_shift 158 = .ok (.iadd, 1) := by decide +kernel
theorem e_Mo_shift_159 : decode b_Mo_shift 159 = .ok (.iload 6, 2) := by decide +kernel
theorem e_Mo_shift_161 : decode b_Mo_shift 161 = .ok (.iadd, 1) := by decide +kernel
theorem e_Mo_shift_162 : decode b_Mo_shift 162 = .ok (.aload_n 0, 1) := by decide +kernel
theorem e_Mo_shift_163 : decode b_Mo_shift 163 = .ok (.getfield 242, 3) := by decide +kernel
theorem e_Mo_shift_166 : decode b_Mo_shift 166 = .ok (.iload 6, 2) := by decide +kernel
theorem e_Mo_shift_168 : decode b_Mo_shift 168 = .ok (.laload, 1) := by decide +kernel
theorem e_Mo_shift_169 : decode b_Mo_shift 169 = .ok (.lastore, 1) := by decide +kernel
theorem e_Mo_shift_170 : decode b_Mo_shift 170 = .ok (.iinc 6 1, 3) := by decide +kernel
theorem e_Mo_shift_173 : decode b_Mo_shift 173 = .ok (.goto (-32), 3) := by decide +kernel
theorem e_Mo_shift_176 : decode b_Mo_shift 176 = .ok (.iload 5, 2) := by decide +kernel
theorem e_Mo_shift_178 : decode b_Mo_shift 178 = .ok (.ireturn, 1) := by decide +kernel
theorem e_Ji_bitCount_0 : decode b_Ji_bitCount 0 = .ok (.iload_n 0, 1) := by decide +kernel
theorem e_Ji_bitCount_1 : decode b_Ji_bitCount 1 = .ok (.iload_n 0, 1) := by decide +kernel
theorem e_Ji_bitCount_2 : decode b_Ji_bitCount 2 = .ok (.iconst 1, 1) := by decide +kernel
theorem e_Ji_bitCount_3 : decode b_Ji_bitCount 3 = .ok (.iushr, 1) := by decide +kernel
theorem e_Ji_bitCount_4 : decode b_Ji_bitCount 4 = .ok (.ldc_w 265, 3) := by decide +kernel
theorem e_Ji_bitCount_7 : decode b_Ji_bitCount 7 = .ok (.iand, 1) := by decide +kernel
theorem e_Ji_bitCount_8 : decode b_Ji_bitCount 8 = .ok (.isub, 1) := by decide +kernel
theorem e_Ji_bitCount_9 : decode b_Ji_bitCount 9 = .ok (.istore_n 0, 1) := by decide +kernel
theorem e_Ji_bitCount_10 : decode b_Ji_bitCount 10 = .ok (.iload_n 0, 1) := by decide +kernel
theorem e_Ji_bitCount_11 : decode b_Ji_bitCount 11 = .ok (.ldc_w 266, 3) := by decide +kernel
theorem e_Ji_bitCount_14 : decode b_Ji_bitCount 14 = .ok (.iand, 1) := by decide +kernel
theorem e_Ji_bitCount_15 : decode b_Ji_bitCount 15 = .ok (.iload_n 0, 1) := by decide +kernel
theorem e_Ji_bitCount_16 : decode b_Ji_bitCount 16 = .ok (.iconst 2, 1) := by decide +kernel
theorem e_Ji_bitCount_17 : decode b_Ji_bitCount 17 = .ok (.iushr, 1) := by decide +kernel
theorem e_Ji_bitCount_18 : decode b_Ji_bitCount 18 = .ok (.ldc_w 266, 3) := by decide +kernel
theorem e_Ji_bitCount_21 : decode b_Ji_bitCount 21 = .ok (.iand, 1) := by decide +kernel
theorem e_Ji_bitCount_22 : decode b_Ji_bitCount 22 = .ok (.iadd, 1) := by decide +kernel
theorem e_Ji_bitCount_23 : decode b_Ji_bitCount 23 = .ok (.istore_n 0, 1) := by decide +kernel
theorem e_Ji_bitCount_24 : decode b_Ji_bitCount 24 = .ok (.iload_n 0, 1) := by decide +kernel
theorem e_Ji_bitCount_25 : decode b_Ji_bitCount 25 = .ok (.iload_n 0, 1) := by decide +kernel
theorem e_Ji_bitCount_26 : decode b_Ji_bitCount 26 = .ok (.iconst 4, 1) := by decide +kernel
theorem e_Ji_bitCount_27 : decode b_Ji_bitCount 27 = .ok (.iushr, 1) := by decide +kernel
theorem e_Ji_bitCount_28 : decode b_Ji_bitCount 28 = .ok (.iadd, 1) := by decide +kernel
theorem e_Ji_bitCount_29 : decode b_Ji_bitCount 29 = .ok (.ldc_w 267, 3) := by decide +kernel
theorem e_Ji_bitCount_32 : decode b_Ji_bitCount 32 = .ok (.iand, 1) := by decide +kernel
theorem e_Ji_bitCount_33 : decode b_Ji_bitCount 33 = .ok (.istore_n 0, 1) := by decide +kernel
theorem e_Ji_bitCount_34 : decode b_Ji_bitCount 34 = .ok (.iload_n 0, 1) := by decide +kernel
theorem e_Ji_bitCount_35 : decode b_Ji_bitCount 35 = .ok (.iload_n 0, 1) := by decide +kernel
theorem e_Ji_bitCount_36 : decode b_Ji_bitCount 36 = .ok (.bipush 8, 2) := by decide +kernel
theorem e_Ji_bitCount_38 : decode b_Ji_bitCount 38 = .ok (.iushr, 1) := by decide +kernel
theorem e_Ji_bitCount_39 : decode b_Ji_bitCount 39 = .ok (.iadd, 1) := by decide +kernel
theorem e_Ji_bitCount_40 : decode b_Ji_bitCount 40 = .ok (.istore_n 0, 1) := by decide +kernel
theorem e_Ji_bitCount_41 : decode b_Ji_bitCount 41 = .ok (.iload_n 0, 1) := by decide +kernel
theorem e_Ji_bitCount_42 : decode b_Ji_bitCount 42 = .ok (.iload_n 0, 1) := by decide +kernel
theorem e_Ji_bitCount_43 : decode b_Ji_bitCount 43 = .ok (.bipush 16, 2) := by decide +kernel
theorem e_Ji_bitCount_45 : decode b_Ji_bitCount 45 = .ok (.iushr, 1) := by decide +kernel
theorem e_Ji_bitCount_46 : decode b_Ji_bitCount 46 = .ok (.iadd, 1) := by decide +kernel
theorem e_Ji_bitCount_47 : decode b_Ji_bitCount 47 = .ok (.istore_n 0, 1) := by decide +kernel
theorem e_Ji_bitCount_48 : decode b_Ji_bitCount 48 = .ok (.iload_n 0, 1) := by decide +kernel
theorem e_Ji_bitCount_49 : decode b_Ji_bitCount 49 = .ok (.bipush 63, 2) := by decide +kernel
theorem e_Ji_bitCount_51 : decode b_Ji_bitCount 51 = .ok (.iand, 1) := by decide +kernel
theorem e_Ji_bitCount_52 : decode b_Ji_bitCount 52 = .ok (.ireturn, 1) := by decide +kernel
theorem e_Jm_floorMod_0 : decode b_Jm_floorMod 0 = .ok (.iload_n 0, 1) := by decide +kernel
theorem e_Jm_floorMod_1 : decode b_Jm_floorMod 1 = .ok (.iload_n 1, 1) := by decide +kernel
theorem e_Jm_floorMod_2 : decode b_Jm_floorMod 2 = .ok (.irem, 1) := by decide +kernel
theorem e_Jm_floorMod_3 : decode b_Jm_floorMod 3 = .ok (.istore_n 2, 1) := by decide +kernel
theorem e_Jm_floorMod_4 : decode b_Jm_floorMod 4 = .ok (.iload_n 0, 1) := by decide +kernel
theorem e_Jm_floorMod_5 : decode b_Jm_floorMod 5 = .ok (.iload_n 1, 1) := by decide +kernel
theorem e_Jm_floorMod_6 : decode b_Jm_floorMod 6 = .ok (.ixor, 1) := by decide +kernel
theorem e_Jm_floorMod_7 : decode b_Jm_floorMod 7 = .ok (.ifCond .ge 11, 3) := by decide +kernel
theorem e_Jm_floorMod_10 : decode b_Jm_floorMod 10 = .ok (.iload_n 2, 1) := by decide +kernel
theorem e_Jm_floorMod_11 : decode b_Jm_floorMod 11 = .ok (.ifCond .eq 7, 3) := by decide +kernel
theorem e_Jm_floorMod_14 : decode b_Jm_floorMod 14 = .ok (.iload_n 2, 1) := by decide +kernel
theorem e_Jm_floorMod_15 : decode b_Jm_floorMod 15 = .ok (.iload_n 1, 1) := by decide +kernel
theorem e_Jm_floorMod_16 : decode b_Jm_floorMod 16 = .ok (.iadd, 1) := by decide +kernel
theorem e_Jm_floorMod_17 : decode b_Jm_floorMod 17 = .ok (.ireturn, 1) := by decide +kernel
theorem e_Jm_floorMod_18 : decode b_Jm_floorMod 18 = .ok (.iload_n 2, 1) := by decide +kernel
theorem e_Jm_floorMod_19 : decode b_Jm_floorMod 19 = .ok (.ireturn, 1) := by decide +kernel
theorem e_Jm_abs_0 : decode b_Jm_abs 0 = .ok (.iload_n 0, 1) := by decide +kernel
theorem e_Jm_abs_1 : decode b_Jm_abs 1 = .ok (.ifCond .ge 8, 3) := by decide +kernel
theorem e_Jm_abs_4 : decode b_Jm_abs 4 = .ok (.iload_n 0, 1) := by decide +kernel
theorem e_Jm_abs_5 : decode b_Jm_abs 5 = .ok (.ineg, 1) := by decide +kernel
theorem e_Jm_abs_6 : decode b_Jm_abs 6 = .ok (.goto 4, 3) := by decide +kernel
theorem e_Jm_abs_9 : decode b_Jm_abs 9 = .ok (.iload_n 0, 1) := by decide +kernel
theorem e_Jm_abs_10 : decode b_Jm_abs 10 = .ok (.ireturn, 1) := by decide +kernel
theorem e_Jm_max_0 : decode b_Jm_max 0 = .ok (.iload_n 0, 1) := by decide +kernel
theorem e_Jm_max_1 : decode b_Jm_max 1 = .ok (.iload_n 1, 1) := by decide +kernel
theorem e_Jm_max_2 : decode b_Jm_max 2 = .ok (.if_icmp .lt 7, 3) := by decide +kernel
theorem e_Jm_max_5 : decode b_Jm_max 5 = .ok (.iload_n 0, 1) := by decide +kernel
theorem e_Jm_max_6 : decode b_Jm_max 6 = .ok (.goto 4, 3) := by decide +kernel
theorem e_Jm_max_9 : decode b_Jm_max 9 = .ok (.iload_n 1, 1) := by decide +kernel
theorem e_Jm_max_10 : decode b_Jm_max 10 = .ok (.ireturn, 1) := by decide +kernel
theorem e_Jm_min_0 : decode b_Jm_min 0 = .ok (.iload_n 0, 1) := by decide +kernel
theorem e_Jm_min_1 : decode b_Jm_min 1 = .ok (.iload_n 1, 1) := by decide +kernel
theorem e_Jm_min_2 : decode b_Jm_min 2 = .ok (.if_icmp .gt 7, 3) := by decide +kernel
theorem e_Jm_min_5 : decode b_Jm_min 5 = .ok (.iload_n 0, 1) := by decide +kernel
theorem e_Jm_min_6 : decode b_Jm_min 6 = .ok (.goto 4, 3) := by decide +kernel
theorem e_Jm_min_9 : decode b_Jm_min 9 = .ok (.iload_n 1, 1) := by decide +kernel
theorem e_Jm_min_10 : decode b_Jm_min 10 = .ok (.ireturn, 1) := by decide +kernel
theorem e_Js_length_0 : decode b_Js_length 0 = .ok (.aload_n 0, 1) := by decide +kernel
theorem e_Js_length_1 : decode b_Js_length 1 = .ok (.getfield 9, 3) := by decide +kernel
theorem e_Js_length_4 : decode b_Js_length 4 = .ok (.arraylength, 1) := by decide +kernel
theorem e_Js_length_5 : decode b_Js_length 5 = .ok (.aload_n 0, 1) := by decide +kernel
theorem e_Js_length_6 : decode b_Js_length 6 = .ok (.invokevirtual 335, 3) := by decide +kernel
theorem e_Js_length_9 : decode b_Js_length 9 = .ok (.ishr, 1) := by decide +kernel
theorem e_Js_length_10 : decode b_Js_length 10 = .ok (.ireturn, 1) := by decide +kernel
theorem e_Js_charAt_0 : decode b_Js_charAt 0 = .ok (.aload_n 0, 1) := by decide +kernel
theorem e_Js_charAt_1 : decode b_Js_charAt 1 = .ok (.invokevirtual 492, 3) := by decide +kernel
theorem e_Js_charAt_4 : decode b_Js_charAt 4 = .ok (.ifCond .eq 12, 3) := by decide +kernel
theorem e_Js_charAt_7 : decode b_Js_charAt 7 = .ok (.aload_n 0, 1) := by decide +kernel
theorem e_Js_charAt_8 : decode b_Js_charAt 8 = .ok (.getfield 9, 3) := by decide +kernel
theorem e_Js_charAt_11 : decode b_Js_charAt 11 = .ok (.iload_n 1, 1) := by decide +kernel
theorem e_Js_charAt_12 : decode b_Js_charAt 12 = .ok (.invokestatic 495, 3) := by decide +kernel
theorem e_Js_charAt_15 : decode b_Js_charAt 15 = .ok (.ireturn, 1) := by decide +kernel
theorem e_Js_charAt_16 : decode b_Js_charAt 16 = .ok (.aload_n 0, 1) := by decide +kernel
theorem e_Js_charAt_17 : decode b_Js_charAt 17 = .ok (.getfield 9, 3) := by decide +kernel
theorem e_Js_charAt_20 : decode b_Js_charAt 20 = .ok (.iload_n 1, 1) := by decide +kernel
theorem e_Js_charAt_21 : decode b_Js_charAt 21 = .ok (.invokestatic 498, 3) := by decide +kernel
theorem e_Js_charAt_24 : decode b_Js_charAt 24 = .ok (.ireturn, 1) := by decide +kernel
theorem e_Js_coder_0 : decode b_Js_coder 0 = .ok (.getstatic 38, 3) := by decide +kernel
theorem e_Js_coder_3 : decode b_Js_coder 3 = .ok (.ifCond .eq 10, 3) := by decide +kernel
theorem e_Js_coder_6 : decode b_Js_coder 6 = .ok (.aload_n 0, 1) := by decide +kernel
theorem e_Js_coder_7 : decode b_Js_coder 7 = .ok (.getfield 15, 3) := by decide +kernel
theorem e_Js_coder_10 : decode b_Js_coder 10 = .ok (.goto 4, 3) := by decide +kernel
theorem e_Js_coder_13 : decode b_Js_coder 13 = .ok (.iconst 1, 1) := by decide +kernel
theorem e_Js_coder_14 : decode b_Js_coder 14 = .ok (.ireturn, 1) := by decide +kernel
theorem e_Js_isLatin1_0 : decode b_Js_isLatin1 0 = .ok (.getstatic 38, 3) := by decide +kernel
theorem e_Js_isLatin1_3 : decode b_Js_isLatin1 3 = .ok (.ifCond .eq 14, 3) := by decide +kernel
theorem e_Js_isLatin1_6 : decode b_Js_isLatin1 6 = .ok (.aload_n 0, 1) := by decide +kernel
theorem e_Js_isLatin1_7 : decode b_Js_isLatin1 7 = .ok (.getfield 15, 3) := by decide +kernel
theorem e_Js_isLatin1_10 : decode b_Js_isLatin1 10 = .ok (.ifCond .ne 7, 3) := by decide +kernel
theorem e_Js_isLatin1_13 : decode b_Js_isLatin1 13 = .ok (.iconst 1, 1) := by decide +kernel
theorem e_Js_isLatin1_14 : decode b_Js_isLatin1 14 = .ok (.goto 4, 3) := by decide +kernel
theorem e_Js_isLatin1_17 : decode b_Js_isLatin1 17 = .ok (.iconst 0, 1) := by decide +kernel
theorem e_Js_isLatin1_18 : decode b_Js_isLatin1 18 = .ok (.ireturn, 1) := by decide +kernel
theorem e_Js_checkIndex_0 : decode b_Js_checkIndex 0 = .ok (.iload_n 0, 1) := by decide +kernel
theorem e_Js_checkIndex_1 : decode b_Js_checkIndex 1 = .ok (.iload_n 1, 1) := by decide +kernel
theorem e_Js_checkIndex_2 : decode b_Js_checkIndex 2 = .ok (.getstatic 1053, 3) := by decide +kernel
theorem e_Js_checkIndex_5 : decode b_Js_checkIndex 5 = .ok (.invokestatic 1059, 3) := by decide +kernel
theorem e_Js_checkIndex_8 : decode b_Js_checkIndex 8 = .ok (.pop, 1) := by decide +kernel
theorem e_Js_checkIndex_9 : decode b_Js_checkIndex 9 = .ok (.return_, 1) := by decide +kernel
theorem e_Jl_charAt_0 : decode b_Jl_charAt 0 = .ok (.iload_n 1, 1) := by decide +kernel
theorem e_Jl_charAt_1 : decode b_Jl_charAt 1 = .ok (.aload_n 0, 1) := by decide +kernel
theorem e_Jl_charAt_2 : decode b_Jl_charAt 2 = .ok (.arraylength, 1) := by decide +kernel
theorem e_Jl_charAt_3 : decode b_Jl_charAt 3 = .ok (.invokestatic 9, 3) := by decide +kernel
theorem e_Jl_charAt_6 : decode b_Jl_charAt 6 = .ok (.aload_n 0, 1) := by decide +kernel
theorem e_Jl_charAt_7 : decode b_Jl_charAt 7 = .ok (.iload_n 1, 1) := by decide +kernel
theorem e_Jl_charAt_8 : decode b_Jl_charAt 8 = .ok (.baload, 1) := by decide +kernel
theorem e_Jl_charAt_9 : decode b_Jl_charAt 9 = .ok (.sipush 255, 3) := by decide +kernel
theorem e_Jl_charAt_12 : decode b_Jl_charAt 12 = .ok (.iand, 1) := by decide +kernel
theorem e_Jl_charAt_13 : decode b_Jl_charAt 13 = .ok (.i2c, 1) := by decide +kernel
theorem e_Jl_charAt_14 : decode b_Jl_charAt 14 = .ok (.ireturn, 1) := by decide +kernel
theorem e_Ju_getChar_0 : decode b_Ju_getChar 0 = .ok (.getstatic 44, 3) := by decide +kernel
theorem e_Ju_getChar_3 : decode b_Ju_getChar 3 = .ok (.ifCond .ne 25, 3) := by decide +kernel
theorem e_Ju_getChar_6 : decode b_Ju_getChar 6 = .ok (.iload_n 1, 1) := by decide +kernel
theorem e_Ju_getChar_7 : decode b_Ju_getChar 7 = .ok (.ifCond .lt 11, 3) := by decide +kernel
theorem e_Ju_getChar_10 : decode b_Ju_getChar 10 = .ok (.iload_n 1, 1) := by decide +kernel
theorem e_Ju_getChar_11 : decode b_Ju_getChar 11 = .ok (.aload_n 0, 1) := by decide +kernel
theorem e_Ju_getChar_12 : decode b_Ju_getChar 12 = .ok (.invokestatic 48, 3) := by decide +kernel
theorem e_Ju_getChar_15 : decode b_Ju_getChar 15 = .ok (.if_icmp .lt 13, 3) := by decide +kernel
theorem e_Ju_getChar_18 : decode b_Ju_getChar 18 = .ok (.new 52, 3) := by decide +kernel
theorem e_Ju_getChar_21 : decode b_Ju_getChar 21 = .ok (.dup, 1) := by decide +kernel
theorem e_Ju_getChar_22 : decode b_Ju_getChar 22 = .ok (.ldc 54, 2) := by decide +kernel
theorem e_Ju_getChar_24 : decode b_Ju_getChar 24 = .ok (.invokespecial 56, 3) := by decide +kernel
theorem e_Ju_getChar_27 : decode b_Ju_getChar 27 = .ok (.athrow, 1) := by decide +kernel
theorem e_Ju_getChar_28 : decode b_Ju_getChar 28 = .ok (.iload_n 1, 1) := by decide +kernel
theorem e_Ju_getChar_29 : decode b_Ju_getChar 29 = .ok (.iconst 1, 1) := by decide +kernel
theorem e_Ju_getChar_30 : decode b_Ju_getChar 30 = .ok (.ishl, 1) := by decide +kernel
theorem e_Ju_getChar_31 : decode b_Ju_getChar 31 = .ok (.istore_n 1, 1) := by decide +kernel
theorem e_Ju_getChar_32 : decode b_Ju_getChar 32 = .ok (.aload_n 0, 1) := by decide +kernel
theorem e_Ju_getChar_33 : decode b_Ju_getChar 33 = .ok (.iload_n 1, 1) := by decide +kernel
theorem e_Ju_getChar_34 : decode b_Ju_getChar 34 = .ok (.iinc 1 1, 3) := by decide +kernel
theorem e_Ju_getChar_37 : decode b_Ju_getChar 37 = .ok (.baload, 1) := by decide +kernel
theorem e_Ju_getChar_38 : decode b_Ju_getChar 38 = .ok (.sipush 255, 3) := by decide +kernel
theorem e_Ju_getChar_41 : decode b_Ju_getChar 41 = .ok (.iand, 1) := by decide +kernel
theorem e_Ju_getChar_42 : decode b_Ju_getChar 42 = .ok (.getstatic 59, 3) := by decide +kernel
theorem e_Ju_getChar_45 : decode b_Ju_getChar 45 = .ok (.ishl, 1) := by decide +kernel
theorem e_Ju_getChar_46 : decode b_Ju_getChar 46 = .ok (.aload_n 0, 1) := by decide +kernel
theorem e_Ju_getChar_47 : decode b_Ju_getChar 47 = .ok (.iload_n 1, 1) := by decide +kernel
theorem e_Ju_getChar_48 : decode b_Ju_getChar 48 = .ok (.baload, 1) := by decide +kernel
theorem e_Ju_getChar_49 : decode b_Ju_getChar 49 = .ok (.sipush 255, 3) := by decide +kernel
theorem e_Ju_getChar_52 : decode b_Ju_getChar 52 = .ok (.iand, 1) := by decide +kernel
theorem e_Ju_getChar_53 : decode b_Ju_getChar 53 = .ok (.getstatic 63, 3) := by decide +kernel
theorem e_Ju_getChar_56 : decode b_Ju_getChar 56 = .ok (.ishl, 1) := by decide +kernel
theorem e_Ju_getChar_57 : decode b_Ju_getChar 57 = .ok (.ior, 1) := by decide +kernel
theorem e_Ju_getChar_58 : decode b_Ju_getChar 58 = .ok (.i2c, 1) := by decide +kernel
theorem e_Ju_getChar_59 : decode b_Ju_getChar 59 = .ok (.ireturn, 1) := by decide +kernel
theorem e_Ju_length_0 : decode b_Ju_length 0 = .ok (.aload_n 0, 1) := by decide +kernel
theorem e_Ju_length_1 : decode b_Ju_length 1 = .ok (.arraylength, 1) := by decide +kernel
theorem e_Ju_length_2 : decode b_Ju_length 2 = .ok (.iconst 1, 1) := by decide +kernel
theorem e_Ju_length_3 : decode b_Ju_length 3 = .ok (.ishr, 1) := by decide +kernel
theorem e_Ju_length_4 : decode b_Ju_length 4 = .ok (.ireturn, 1) := by decide +kernel
theorem e_Ju_charAt_0 : decode b_Ju_charAt 0 = .ok (.iload_n 1, 1) := by decide +kernel
theorem e_Ju_charAt_1 : decode b_Ju_charAt 1 = .ok (.aload_n 0, 1) := by decide +kernel
theorem e_Ju_charAt_2 : decode b_Ju_charAt 2 = .ok (.invokestatic 67, 3) := by decide +kernel
theorem e_Ju_charAt_5 : decode b_Ju_charAt 5 = .ok (.aload_n 0, 1) := by decide +kernel
theorem e_Ju_charAt_6 : decode b_Ju_charAt 6 = .ok (.iload_n 1, 1) := by decide +kernel
theorem e_Ju_charAt_7 : decode b_Ju_charAt 7 = .ok (.invokestatic 71, 3) := by decide +kernel
theorem e_Ju_charAt_10 : decode b_Ju_charAt 10 = .ok (.ireturn, 1) := by decide +kernel
theorem e_Ju_checkIndex_0 : decode b_Ju_checkIndex 0 = .ok (.iload_n 0, 1) := by decide +kernel
theorem e_Ju_checkIndex_1 : decode b_Ju_checkIndex 1 = .ok (.aload_n 1, 1) := by decide +kernel
theorem e_Ju_checkIndex_2 : decode b_Ju_checkIndex 2 = .ok (.invokestatic 48, 3) := by decide +kernel
theorem e_Ju_checkIndex_5 : decode b_Ju_checkIndex 5 = .ok (.invokestatic 414, 3) := by decide +kernel
theorem e_Ju_checkIndex_8 : decode b_Ju_checkIndex 8 = .ok (.return_, 1) := by decide +kernel
theorem e_Jp_checkIndex_0 : decode b_Jp_checkIndex 0 = .ok (.iload_n 0, 1) := by decide +kernel
theorem e_Jp_checkIndex_1 : decode b_Jp_checkIndex 1 = .ok (.ifCond .lt 8, 3) := by decide +kernel
theorem e_Jp_checkIndex_4 : decode b_Jp_checkIndex 4 = .ok (.iload_n 0, 1) := by decide +kernel
theorem e_Jp_checkIndex_5 : decode b_Jp_checkIndex 5 = .ok (.iload_n 1, 1) := by decide +kernel
theorem e_Jp_checkIndex_6 : decode b_Jp_checkIndex 6 = .ok (.if_icmp .lt 10, 3) := by decide +kernel
theorem e_Jp_checkIndex_9 : decode b_Jp_checkIndex 9 = .ok (.aload_n 2, 1) := by decide +kernel
theorem e_Jp_checkIndex_10 : decode b_Jp_checkIndex 10 = .ok (.iload_n 0, 1) := by decide +kernel
theorem e_Jp_checkIndex_11 : decode b_Jp_checkIndex 11 = .ok (.iload_n 1, 1) := by decide +kernel
theorem e_Jp_checkIndex_12 : decode b_Jp_checkIndex 12 = .ok (.invokestatic 95, 3) := by decide +kernel
theorem e_Jp_checkIndex_15 : decode b_Jp_checkIndex 15 = .ok (.athrow, 1) := by decide +kernel
theorem e_Jp_checkIndex_16 : decode b_Jp_checkIndex 16 = .ok (.iload_n 0, 1) := by decide +kernel
theorem e_Jp_checkIndex_17 : decode b_Jp_checkIndex 17 = .ok (.ireturn, 1) := by decide +kernel
theorem e_La_law_0 : decode b_La_law 0 = .ok (.new 7, 3) := by decide +kernel
theorem e_La_law_3 : decode b_La_law 3 = .ok (.dup, 1) := by decide +kernel
theorem e_La_law_4 : decode b_La_law 4 = .ok (.invokespecial 9, 3) := by decide +kernel
theorem e_La_law_7 : decode b_La_law 7 = .ok (.astore_n 1, 1) := by decide +kernel
theorem e_La_law_8 : decode b_La_law 8 = .ok (.new 10, 3) := by decide +kernel
theorem e_La_law_11 : decode b_La_law 11 = .ok (.dup, 1) := by decide +kernel
theorem e_La_law_12 : decode b_La_law 12 = .ok (.invokespecial 12, 3) := by decide +kernel
theorem e_La_law_15 : decode b_La_law 15 = .ok (.astore_n 2, 1) := by decide +kernel
theorem e_La_law_16 : decode b_La_law 16 = .ok (.iconst 0, 1) := by decide +kernel
theorem e_La_law_17 : decode b_La_law 17 = .ok (.istore_n 3, 1) := by decide +kernel
theorem e_La_law_18 : decode b_La_law 18 = .ok (.iload_n 3, 1) := by decide +kernel
theorem e_La_law_19 : decode b_La_law 19 = .ok (.aload_n 0, 1) := by decide +kernel
theorem e_La_law_20 : decode b_La_law 20 = .ok (.arraylength, 1) := by decide +kernel
theorem e_La_law_21 : decode b_La_law 21 = .ok (.bipush 6, 2) := by decide +kernel
theorem e_La_law_23 : decode b_La_law 23 = .ok (.isub, 1) := by decide +kernel
theorem e_La_law_24 : decode b_La_law 24 = .ok (.if_icmp .gt 1238, 3) := by decide +kernel
theorem e_La_law_27 : decode b_La_law 27 = .ok (.aload_n 0, 1) := by decide +kernel
theorem e_La_law_28 : decode b_La_law 28 = .ok (.iload_n 3, 1) := by decide +kernel
theorem e_La_law_29 : decode b_La_law 29 = .ok (.iaload, 1) := by decide +kernel
theorem e_La_law_30 : decode b_La_law 30 = .ok (.bipush 63, 2) := by decide +kernel
theorem e_La_law_32 : decode b_La_law 32 = .ok (.iand, 1) := by decide +kernel
theorem e_La_law_33 : decode b_La_law 33 = .ok (.tableswitch 1223 0 34 #[155, 208, 241, 264, 287, 320, 343, 356, 399, 422, 435, 458, 481, 514, 547, 570, 603, 636, 669, 703, 727, 760, 783, 816, 829, 862, 875, 888, 931, 954, 987, 1010, 1053, 1126, 1160], 155) := by decide +kernel
theorem e_La_law_188 : decode b_La_law 188 = .ok (.aload_n 1, 1) := by decide +kernel
theorem e_La_law_189 : decode b_La_law 189 = .ok (.aload_n 0, 1) := by decide +kernel
theorem e_La_law_190 : decode b_La_law 190 = .ok (.iload_n 3, 1) := by decide +kernel
theorem e_La_law_191 : decode b_La_law 191 = .ok (.iconst 1, 1) := by decide +kernel
theorem e_La_law_192 : decode b_La_law 192 = .ok (.iadd, 1) := by decide +kernel
theorem e_La_law_193 : decode b_La_law 193 = .ok (.iaload, 1) := by decide +kernel
theorem e_La_law_194 : decode b_La_law 194 = .ok (.aload_n 0, 1) := by decide +kernel
theorem e_La_law_195 : decode b_La_law 195 = .ok (.iload_n 3, 1) := by decide +kernel
theorem e_La_law_196 : decode b_La_law 196 = .ok (.iconst 2, 1) := by decide +kernel
theorem e_La_law_197 : decode b_La_law 197 = .ok (.iadd, 1) := by decide +kernel
theorem e_La_law_198 : decode b_La_law 198 = .ok (.iaload, 1) := by decide +kernel
theorem e_La_law_199 : decode b_La_law 199 = .ok (.aload_n 0, 1) := by decide +kernel
theorem e_La_law_200 : decode b_La_law 200 = .ok (.iload_n 3, 1) := by decide +kernel
theorem e_La_law_201 : decode b_La_law 201 = .ok (.iconst 3, 1) := by decide +kernel
theorem e_La_law_202 : decode b_La_law 202 = .ok (.iadd, 1) := by decide +kernel
theorem e_La_law_203 : decode b_La_law 203 = .ok (.iaload, 1) := by decide +kernel
theorem e_La_law_204 : decode b_La_law 204 = .ok (.aload_n 0, 1) := by decide +kernel
theorem e_La_law_205 : decode b_La_law 205 = .ok (.iload_n 3, 1) := by decide +kernel
theorem e_La_law_206 : decode b_La_law 206 = .ok (.iconst 4, 1) := by decide +kernel
theorem e_La_law_207 : decode b_La_law 207 = .ok (.iadd, 1) := by decide +kernel
theorem e_La_law_208 : decode b_La_law 208 = .ok (.iaload, 1) := by decide +kernel
theorem e_La_law_209 : decode b_La_law 209 = .ok (.invokevirtual 13, 3) := by decide +kernel
theorem e_La_law_212 : decode b_La_law 212 = .ok (.aload_n 2, 1) := by decide +kernel
theorem e_La_law_213 : decode b_La_law 213 = .ok (.aload_n 0, 1) := by decide +kernel
theorem e_La_law_214 : decode b_La_law 214 = .ok (.iload_n 3, 1) := by decide +kernel
theorem e_La_law_215 : decode b_La_law 215 = .ok (.iconst 1, 1) := by decide +kernel
theorem e_La_law_216 : decode b_La_law 216 = .ok (.iadd, 1) := by decide +kernel
theorem e_La_law_217 : decode b_La_law 217 = .ok (.iaload, 1) := by decide +kernel
theorem e_La_law_218 : decode b_La_law 218 = .ok (.aload_n 0, 1) := by decide +kernel
theorem e_La_law_219 : decode b_La_law 219 = .ok (.iload_n 3, 1) := by decide +kernel
theorem e_La_law_220 : decode b_La_law 220 = .ok (.iconst 2, 1) := by decide +kernel
theorem e_La_law_221 : decode b_La_law 221 = .ok (.iadd, 1) := by decide +kernel
theorem e_La_law_222 : decode b_La_law 222 = .ok (.iaload, 1) := by decide +kernel
theorem e_La_law_223 : decode b_La_law 223 = .ok (.aload_n 0, 1) := by decide +kernel
theorem e_La_law_224 : decode b_La_law 224 = .ok (.iload_n 3, 1) := by decide +kernel
theorem e_La_law_225 : decode b_La_law 225 = .ok (.iconst 3, 1) := by decide +kernel
theorem e_La_law_226 : decode b_La_law 226 = .ok (.iadd, 1) := by decide +kernel
theorem e_La_law_227 : decode b_La_law 227 = .ok (.iaload, 1) := by decide +kernel
theorem e_La_law_228 : decode b_La_law 228 = .ok (.aload_n 0, 1) := by decide +kernel
theorem e_La_law_229 : decode b_La_law 229 = .ok (.iload_n 3, 1) := by decide +kernel
theorem e_La_law_230 : decode b_La_law 230 = .ok (.iconst 4, 1) := by decide +kernel
theorem e_La_law_231 : decode b_La_law 231 = .ok (.iadd, 1) := by decide +kernel
theorem e_La_law_232 : decode b_La_law 232 = .ok (.iaload, 1) := by decide +kernel
theorem e_La_law_233 : decode b_La_law 233 = .ok (.invokevirtual 17, 3) := by decide +kernel
theorem e_La_law_236 : decode b_La_law 236 = .ok (.if_icmp .eq 1020, 3) := by decide +kernel
theorem e_La_law_239 : decode b_La_law 239 = .ok (.iconst 0, 1) := by decide +kernel
theorem e_La_law_240 : decode b_La_law 240 = .ok (.ireturn, 1) := by decide +kernel
theorem e_La_law_241 : decode b_La_law 241 = .ok (.aload_n 1, 1) := by decide +kernel
theorem e_La_law_242 : decode b_La_law 242 = .ok (.aload_n 0, 1) := by decide +kernel
theorem e_La_law_243 : decode b_La_law 243 = .ok (.iload_n 3, 1) := by decide +kernel
theorem e_La_law_244 : decode b_La_law 244 = .ok (.iconst 1, 1) := by decide +kernel
theorem e_La_law_245 : decode b_La_law 245 = .ok (.iadd, 1) := by decide +kernel
theorem e_La_law_246 : decode b_La_law 246 = .ok (.iaload, 1) := by decide +kernel
theorem e_La_law_247 : decode b_La_law 247 = .ok (.aload_n 0, 1) := by decide +kernel
theorem e_La_law_248 : decode b_La_law 248 = .ok (.iload_n 3, 1) := by decide +kernel
theorem e_La_law_249 : decode b_La_law 249 = .ok (.iconst 2, 1) := by decide +kernel
theorem e_La_law_250 : decode b_La_law 250 = .ok (.iadd, 1) := by decide +kernel
theorem e_La_law_251 : decode b_La_law 251 = .ok (.iaload, 1) := by decide +kernel
theorem e_La_law_252 : decode b_La_law 252 = .ok (.invokevirtual 18, 3) := by decide +kernel
theorem e_La_law_255 : decode b_La_law 255 = .ok (.aload_n 2, 1) := by decide +kernel
theorem e_La_law_256 : decode b_La_law 256 = .ok (.aload_n 0, 1) := by decide +kernel
theorem e_La_law_257 : decode b_La_law 257 = .ok (.iload_n 3, 1) := by decide +kernel
theorem e_La_law_258 : decode b_La_law 258 = .ok (.iconst 1, 1) := by decide +kernel
theorem e_La_law_259 : decode b_La_law 259 = .ok (.iadd, 1) := by decide +kernel
theorem e_La_law_260 : decode b_La_law 260 = .ok (.iaload, 1) := by decide +kernel
theorem e_La_law_261 : decode b_La_law 261 = .ok (.aload_n 0, 1) := by decide +kernel
theorem e_La_law_262 : decode b_La_law 262 = .ok (.iload_n 3, 1) := by decide +kernel
theorem e_La_law_263 : decode b_La_law 263 = .ok (.iconst 2, 1) := by decide +kernel
theorem e_La_law_264 : decode b_La_law 264 = .ok (.iadd, 1) := by decide +kernel
theorem e_La_law_265 : decode b_La_law 265 = .ok (.iaload, 1) := by decide +kernel
theorem e_La_law_266 : decode b_La_law 266 = .ok (.invokevirtual 22, 3) := by decide +kernel
theorem e_La_law_269 : decode b_La_law 269 = .ok (.if_icmp .eq 987, 3) := by decide +kernel
theorem e_La_law_272 : decode b_La_law 272 = .ok (.iconst 0, 1) := by decide +kernel
theorem e_La_law_273 : decode b_La_law 273 = .ok (.ireturn, 1) := by decide +kernel
theorem e_La_law_274 : decode b_La_law 274 = .ok (.aload_n 1, 1) := by decide +kernel
theorem e_La_law_275 : decode b_La_law 275 = .ok (.aload_n 0, 1) := by decide +kernel
theorem e_La_law_276 : decode b_La_law 276 = .ok (.iload_n 3, 1) := by decide +kernel
theorem e_La_law_277 : decode b_La_law 277 = .ok (.iconst 1, 1) := by decide +kernel
theorem e_La_law_278 : decode b_La_law 278 = .ok (.iadd, 1) := by decide +kernel
theorem e_La_law_279 : decode b_La_law 279 = .ok (.iaload, 1) := by decide +kernel
theorem e_La_law_280 : decode b_La_law 280 = .ok (.invokevirtual 23, 3) := by decide +kernel
theorem e_La_law_283 : decode b_La_law 283 = .ok (.aload_n 2, 1) := by decide +kernel
theorem e_La_law_284 : decode b_La_law 284 = .ok (.aload_n 0, 1) := by decide +kernel
theorem e_La_law_285 : decode b_La_law 285 = .ok (.iload_n 3, 1) := by decide +kernel
theorem e_La_law_286 : decode b_La_law 286 = .ok (.iconst 1, 1) := by decide +kernel
theorem e_La_law_287 : decode b_La_law 287 = .ok (.iadd, 1) := by decide +kernel
theorem e_La_law_288 : decode b_La_law 288 = .ok (.iaload, 1) := by decide +kernel
theorem e_La_law_289 : decode b_La_law 289 = .ok (.invokevirtual 27, 3) := by decide +kernel
theorem e_La_law_292 : decode b_La_law 292 = .ok (.if_icmp .eq 964, 3) := by decide +kernel
theorem e_La_law_295 : decode b_La_law 295 = .ok (.iconst 0, 1) := by decide +kernel
theorem e_La_law_296 : decode b_La_law 296 = .ok (.ireturn, 1) := by decide +kernel
theorem e_La_law_297 : decode b_La_law 297 = .ok (.aload_n 1, 1) := by decide +kernel
theorem e_La_law_298 : decode b_La_law 298 = .ok (.aload_n 0, 1) := by decide +kernel
theorem e_La_law_299 : decode b_La_law 299 = .ok (.iload_n 3, 1) := by decide +kernel
theorem e_La_law_300 : decode b_La_law 300 = .ok (.iconst 1, 1) := by decide +kernel
theorem e_La_law_301 : decode b_La_law 301 = .ok (.iadd, 1) := by decide +kernel
theorem e_La_law_302 : decode b_La_law 302 = .ok (.iaload, 1) := by decide +kernel
theorem e_La_law_303 : decode b_La_law 303 = .ok (.invokevirtual 28, 3) := by decide +kernel
theorem e_La_law_306 : decode b_La_law 306 = .ok (.aload_n 2, 1) := by decide +kernel
theorem e_La_law_307 : decode b_La_law 307 = .ok (.aload_n 0, 1) := by decide +kernel
theorem e_La_law_308 : decode b_La_law 308 = .ok (.iload_n 3, 1) := by decide +kernel
theorem e_La_law_309 : decode b_La_law 309 = .ok (.iconst 1, 1) := by decide +kernel
theorem e_La_law_310 : decode b_La_law 310 = .ok (.iadd, 1) := by decide +kernel
theorem e_La_law_311 : decode b_La_law 311 = .ok (.iaload, 1) := by decide +kernel
theorem e_La_law_312 : decode b_La_law 312 = .ok (.invokevirtual 31, 3) := by decide +kernel
theorem e_La_law_315 : decode b_La_law 315 = .ok (.if_icmp .eq 941, 3) := by decide +kernel
theorem e_La_law_318 : decode b_La_law 318 = .ok (.iconst 0, 1) := by decide +kernel
theorem e_La_law_319 : decode b_La_law 319 = .ok (.ireturn, 1) := by decide +kernel
theorem e_La_law_320 : decode b_La_law 320 = .ok (.aload_n 1, 1) := by decide +kernel
theorem e_La_law_321 : decode b_La_law 321 = .ok (.aload_n 0, 1) := by decide +kernel
theorem e_La_law_322 : decode b_La_law 322 = .ok (.iload_n 3, 1) := by decide +kernel
theorem e_La_law_323 : decode b_La_law 323 = .ok (.iconst 1, 1) := by decide +kernel
theorem e_La_law_324 : decode b_La_law 324 = .ok (.iadd, 1) := by decide +kernel
theorem e_La_law_325 : decode b_La_law 325 = .ok (.iaload, 1) := by decide +kernel
theorem e_La_law_326 : decode b_La_law 326 = .ok (.aload_n 0, 1) := by decide +kernel
theorem e_La_law_327 : decode b_La_law 327 = .ok (.iload_n 3, 1) := by decide +kernel
theorem e_La_law_328 : decode b_La_law 328 = .ok (.iconst 2, 1) := by decide +kernel
theorem e_La_law_329 : decode b_La_law 329 = .ok (.iadd, 1) := by decide +kernel
theorem e_La_law_330 : decode b_La_law 330 = .ok (.iaload, 1) := by decide +kernel
theorem e_La_law_331 : decode b_La_law 331 = .ok (.invokevirtual 32, 3) := by decide +kernel
theorem e_La_law_334 : decode b_La_law 334 = .ok (.aload_n 2, 1) := by decide +kernel
theorem e_La_law_335 : decode b_La_law 335 = .ok (.aload_n 0, 1) := by decide +kernel
theorem e_La_law_336 : decode b_La_law 336 = .ok (.iload_n 3, 1) := by decide +kernel
theorem e_La_law_337 : decode b_La_law 337 = .ok (.iconst 1, 1) := by decide +kernel
theorem e_La_law_338 : decode b_La_law 338 = .ok (.iadd, 1) := by decide +kernel
theorem e_La_law_339 : decode b_La_law 339 = .ok (.iaload, 1) := by decide +kernel
theorem e_La_law_340 : decode b_La_law 340 = .ok (.aload_n 0, 1) := by decide +kernel
theorem e_La_law_341 : decode b_La_law 341 = .ok (.iload_n 3, 1) := by decide +kernel
theorem e_La_law_342 : decode b_La_law 342 = .ok (.iconst 2, 1) := by decide +kernel
theorem e_La_law_343 : decode b_La_law 343 = .ok (.iadd, 1) := by decide +kernel
theorem e_La_law_344 : decode b_La_law 344 = .ok (.iaload, 1) := by decide +kernel
theorem e_La_law_345 : decode b_La_law 345 = .ok (.invokevirtual 35, 3) := by decide +kernel
theorem e_La_law_348 : decode b_La_law 348 = .ok (.if_icmp .eq 908, 3) := by decide +kernel
theorem e_La_law_351 : decode b_La_law 351 = .ok (.iconst 0, 1) := by decide +kernel
theorem e_La_law_352 : decode b_La_law 352 = .ok (.ireturn, 1) := by decide +kernel
theorem e_La_law_353 : decode b_La_law 353 = .ok (.aload_n 1, 1) := by decide +kernel
theorem e_La_law_354 : decode b_La_law 354 = .ok (.aload_n 0, 1) := by decide +kernel
theorem e_La_law_355 : decode b_La_law 355 = .ok (.iload_n 3, 1) := by decide +kernel
theorem e_La_law_356 : decode b_La_law 356 = .ok (.iconst 1, 1) := by decide +kernel
theorem e_La_law_357 : decode b_La_law 357 = .ok (.iadd, 1) := by decide +kernel
theorem e_La_law_358 : decode b_La_law 358 = .ok (.iaload, 1) := by decide +kernel
theorem e_La_law_359 : decode b_La_law 359 = .ok (.invokevirtual 36, 3) := by decide +kernel
theorem e_La_law_362 : decode b_La_law 362 = .ok (.aload_n 2, 1) := by decide +kernel
theorem e_La_law_363 : decode b_La_law 363 = .ok (.aload_n 0, 1) := by decide +kernel
theorem e_La_law_364 : decode b_La_law 364 = .ok (.iload_n 3, 1) := by decide +kernel
theorem e_La_law_365 : decode b_La_law 365 = .ok (.iconst 1, 1) := by decide +kernel
theorem e_La_law_366 : decode b_La_law 366 = .ok (.iadd, 1) := by decide +kernel
theorem e_La_law_367 : decode b_La_law 367 = .ok (.iaload, 1) := by decide +kernel
theorem e_La_law_368 : decode b_La_law 368 = .ok (.invokevirtual 39, 3) := by decide +kernel
theorem e_La_law_371 : decode b_La_law 371 = .ok (.if_icmp .eq 885, 3) := by decide +kernel
theorem e_La_law_374 : decode b_La_law 374 = .ok (.iconst 0, 1) := by decide +kernel
theorem e_La_law_375 : decode b_La_law 375 = .ok (.ireturn, 1) := by decide +kernel
theorem e_La_law_376 : decode b_La_law 376 = .ok (.aload_n 1, 1) := by decide +kernel
theorem e_La_law_377 : decode b_La_law 377 = .ok (.invokevirtual 40, 3) := by decide +kernel
theorem e_La_law_380 : decode b_La_law 380 = .ok (.aload_n 2, 1) := by decide +kernel
theorem e_La_law_381 : decode b_La_law 381 = .ok (.invokevirtual 44, 3) := by decide +kernel
theorem e_La_law_384 : decode b_La_law 384 = .ok (.if_icmp .eq 872, 3) := by decide +kernel
theorem e_La_law_387 : decode b_La_law 387 = .ok (.iconst 0, 1) := by decide +kernel
theorem e_La_law_388 : decode b_La_law 388 = .ok (.ireturn, 1) := by decide +kernel
theorem e_La_law_389 : decode b_La_law 389 = .ok (.aload_n 1, 1) := by decide +kernel
theorem e_La_law_390 : decode b_La_law 390 = .ok (.aload_n 0, 1) := by decide +kernel
theorem e_La_law_391 : decode b_La_law 391 = .ok (.iload_n 3, 1) := by decide +kernel
theorem e_La_law_392 : decode b_La_law 392 = .ok (.iconst 1, 1) := by decide +kernel
theorem e_La_law_393 : decode b_La_law 393 = .ok (.iadd, 1) := by decide +kernel
theorem e_La_law_394 : decode b_La_law 394 = .ok (.iaload, 1) := by decide +kernel
theorem e_La_law_395 : decode b_La_law 395 = .ok (.aload_n 0, 1) := by decide +kernel
theorem e_La_law_396 : decode b_La_law 396 = .ok (.iload_n 3, 1) := by decide +kernel
theorem e_La_law_397 : decode b_La_law 397 = .ok (.iconst 2, 1) := by decide +kernel
theorem e_La_law_398 : decode b_La_law 398 = .ok (.iadd, 1) := by decide +kernel
theorem e_La_law_399 : decode b_La_law 399 = .ok (.iaload, 1) := by decide +kernel
theorem e_La_law_400 : decode b_La_law 400 = .ok (.aload_n 0, 1) := by decide +kernel
theorem e_La_law_401 : decode b_La_law 401 = .ok (.iload_n 3, 1) := by decide +kernel
theorem e_La_law_402 : decode b_La_law 402 = .ok (.iconst 3, 1) := by decide +kernel
theorem e_La_law_403 : decode b_La_law 403 = .ok (.iadd, 1) := by decide +kernel
theorem e_La_law_404 : decode b_La_law 404 = .ok (.iaload, 1) := by decide +kernel
theorem e_La_law_405 : decode b_La_law 405 = .ok (.invokevirtual 45, 3) := by decide +kernel
theorem e_La_law_408 : decode b_La_law 408 = .ok (.aload_n 2, 1) := by decide +kernel
theorem e_La_law_409 : decode b_La_law 409 = .ok (.aload_n 0, 1) := by decide +kernel
theorem e_La_law_410 : decode b_La_law 410 = .ok (.iload_n 3, 1) := by decide +kernel
theorem e_La_law_411 : decode b_La_law 411 = .ok (.iconst 1, 1) := by decide +kernel
theorem e_La_law_412 : decode b_La_law 412 = .ok (.iadd, 1) := by decide +kernel
theorem e_La_law_413 : decode b_La_law 413 = .ok (.iaload, 1) := by decide +kernel
theorem e_La_law_414 : decode b_La_law 414 = .ok (.aload_n 0, 1) := by decide +kernel
theorem e_La_law_415 : decode b_La_law 415 = .ok (.iload_n 3, 1) := by decide +kernel
theorem e_La_law_416 : decode b_La_law 416 = .ok (.iconst 2, 1) := by decide +kernel
theorem e_La_law_417 : decode b_La_law 417 = .ok (.iadd, 1) := by decide +kernel
theorem e_La_law_418 : decode b_La_law 418 = .ok (.iaload, 1) := by decide +kernel
theorem e_La_law_419 : decode b_La_law 419 = .ok (.aload_n 0, 1) := by decide +kernel
theorem e_La_law_420 : decode b_La_law 420 = .ok (.iload_n 3, 1) := by decide +kernel
theorem e_La_law_421 : decode b_La_law 421 = .ok (.iconst 3, 1) := by decide +kernel
theorem e_La_law_422 : decode b_La_law 422 = .ok (.iadd, 1) := by decide +kernel
theorem e_La_law_423 : decode b_La_law 423 = .ok (.iaload, 1) := by decide +kernel
theorem e_La_law_424 : decode b_La_law 424 = .ok (.invokevirtual 49, 3) := by decide +kernel
theorem e_La_law_427 : decode b_La_law 427 = .ok (.if_icmp .eq 829, 3) := by decide +kernel
theorem e_La_law_430 : decode b_La_law 430 = .ok (.iconst 0, 1) := by decide +kernel
theorem e_La_law_431 : decode b_La_law 431 = .ok (.ireturn, 1) := by decide +kernel
theorem e_La_law_432 : decode b_La_law 432 = .ok (.aload_n 1, 1) := by decide +kernel
theorem e_La_law_433 : decode b_La_law 433 = .ok (.aload_n 0, 1) := by decide +kernel
theorem e_La_law_434 : decode b_La_law 434 = .ok (.iload_n 3, 1) := by decide +kernel
theorem e_La_law_435 : decode b_La_law 435 = .ok (.iconst 1, 1) := by decide +kernel
theorem e_La_law_436 : decode b_La_law 436 = .ok (.iadd, 1) := by decide +kernel
theorem e_La_law_437 : decode b_La_law 437 = .ok (.iaload, 1) := by decide +kernel
theorem e_La_law_438 : decode b_La_law 438 = .ok (.invokevirtual 50, 3) := by decide +kernel
theorem e_La_law_441 : decode b_La_law 441 = .ok (.aload_n 2, 1) := by decide +kernel
theorem e_La_law_442 : decode b_La_law 442 = .ok (.aload_n 0, 1) := by decide +kernel
theorem e_La_law_443 : decode b_La_law 443 = .ok (.iload_n 3, 1) := by decide +kernel
theorem e_La_law_444 : decode b_La_law 444 = .ok (.iconst 1, 1) := by decide +kernel
theorem e_La_law_445 : decode b_La_law 445 = .ok (.iadd, 1) := by decide +kernel
theorem e_La_law_446 : decode b_La_law 446 = .ok (.iaload, 1) := by decide +kernel
theorem e_La_law_447 : decode b_La_law 447 = .ok (.invokevirtual 53, 3) := by decide +kernel
theorem e_La_law_450 : decode b_La_law 450 = .ok (.if_icmp .eq 806, 3) := by decide +kernel
theorem e_La_law_453 : decode b_La_law 453 = .ok (.iconst 0, 1) := by decide +kernel
theorem e_La_law_454 : decode b_La_law 454 = .ok (.ireturn, 1) := by decide +kernel
theorem e_La_law_455 : decode b_La_law 455 = .ok (.aload_n 1, 1) := by decide +kernel
theorem e_La_law_456 : decode b_La_law 456 = .ok (.invokevirtual 54, 3) := by decide +kernel
theorem e_La_law_459 : decode b_La_law 459 = .ok (.aload_n 2, 1) := by decide +kernel
theorem e_La_law_460 : decode b_La_law 460 = .ok (.invokevirtual 57, 3) := by decide +kernel
theorem e_La_law_463 : decode b_La_law 463 = .ok (.if_icmp .eq 793, 3) := by decide +kernel
theorem e_La_law_466 : decode b_La_law 466 = .ok (.iconst 0, 1) := by decide +kernel
theorem e_La_law_467 : decode b_La_law 467 = .ok (.ireturn, 1) := by decide +kernel
theorem e_La_law_468 : decode b_La_law 468 = .ok (.aload_n 1, 1) := by decide +kernel
theorem e_La_law_469 : decode b_La_law 469 = .ok (.aload_n 0, 1) := by decide +kernel
theorem e_La_law_470 : decode b_La_law 470 = .ok (.iload_n 3, 1) := by decide +kernel
theorem e_La_law_471 : decode b_La_law 471 = .ok (.iconst 1, 1) := by decide +kernel
theorem e_La_law_472 : decode b_La_law 472 = .ok (.iadd, 1) := by decide +kernel
theorem e_La_law_473 : decode b_La_law 473 = .ok (.iaload, 1) := by decide +kernel
theorem e_La_law_474 : decode b_La_law 474 = .ok (.invokevirtual 58, 3) := by decide +kernel
theorem e_La_law_477 : decode b_La_law 477 = .ok (.aload_n 2, 1) := by decide +kernel
theorem e_La_law_478 : decode b_La_law 478 = .ok (.aload_n 0, 1) := by decide +kernel
theorem e_La_law_479 : decode b_La_law 479 = .ok (.iload_n 3, 1) := by decide +kernel
theorem e_La_law_480 : decode b_La_law 480 = .ok (.iconst 1, 1) := by decide +kernel
theorem e_La_law_481 : decode b_La_law 481 = .ok (.iadd, 1) := by decide +kernel
theorem e_La_law_482 : decode b_La_law 482 = .ok (.iaload, 1) := by decide +kernel
theorem e_La_law_483 : decode b_La_law 483 = .ok (.invokevirtual 61, 3) := by decide +kernel
theorem e_La_law_486 : decode b_La_law 486 = .ok (.if_icmp .eq 770, 3) := by decide +kernel
theorem e_La_law_489 : decode b_La_law 489 = .ok (.iconst 0, 1) := by decide +kernel
theorem e_La_law_490 : decode b_La_law 490 = .ok (.ireturn, 1) := by decide +kernel
theorem e_La_law_491 : decode b_La_law 491 = .ok (.aload_n 1, 1) := by decide +kernel
theorem e_La_law_492 : decode b_La_law 492 = .ok (.aload_n 0, 1) := by decide +kernel
theorem e_La_law_493 : decode b_La_law 493 = .ok (.iload_n 3, 1) := by decide +kernel
theorem e_La_law_494 : decode b_La_law 494 = .ok (.iconst 1, 1) := by decide +kernel
theorem e_La_law_495 : decode b_La_law 495 = .ok (.iadd, 1) := by decide +kernel
theorem e_La_law_496 : decode b_La_law 496 = .ok (.iaload, 1) := by decide +kernel
theorem e_La_law_497 : decode b_La_law 497 = .ok (.invokevirtual 62, 3) := by decide +kernel
theorem e_La_law_500 : decode b_La_law 500 = .ok (.aload_n 2, 1) := by decide +kernel
theorem e_La_law_501 : decode b_La_law 501 = .ok (.aload_n 0, 1) := by decide +kernel
theorem e_La_law_502 : decode b_La_law 502 = .ok (.iload_n 3, 1) := by decide +kernel
theorem e_La_law_503 : decode b_La_law 503 = .ok (.iconst 1, 1) := by decide +kernel
theorem e_La_law_504 : decode b_La_law 504 = .ok (.iadd, 1) := by decide +kernel
theorem e_La_law_505 : decode b_La_law 505 = .ok (.iaload, 1) := by decide +kernel
theorem e_La_law_506 : decode b_La_law 506 = .ok (.invokevirtual 65, 3) := by decide +kernel
theorem e_La_law_509 : decode b_La_law 509 = .ok (.if_icmp .eq 747, 3) := by decide +kernel
theorem e_La_law_512 : decode b_La_law 512 = .ok (.iconst 0, 1) := by decide +kernel
theorem e_La_law_513 : decode b_La_law 513 = .ok (.ireturn, 1) := by decide +kernel
theorem e_La_law_514 : decode b_La_law 514 = .ok (.aload_n 1, 1) := by decide +kernel
theorem e_La_law_515 : decode b_La_law 515 = .ok (.aload_n 0, 1) := by decide +kernel
theorem e_La_law_516 : decode b_La_law 516 = .ok (.iload_n 3, 1) := by decide +kernel
theorem e_La_law_517 : decode b_La_law 517 = .ok (.iconst 1, 1) := by decide +kernel
theorem e_La_law_518 : decode b_La_law 518 = .ok (.iadd, 1) := by decide +kernel
theorem e_La_law_519 : decode b_La_law 519 = .ok (.iaload, 1) := by decide +kernel
theorem e_La_law_520 : decode b_La_law 520 = .ok (.aload_n 0, 1) := by decide +kernel
theorem e_La_law_521 : decode b_La_law 521 = .ok (.iload_n 3, 1) := by decide +kernel
theorem e_La_law_522 : decode b_La_law 522 = .ok (.iconst 2, 1) := by decide +kernel
theorem e_La_law_523 : decode b_La_law 523 = .ok (.iadd, 1) := by decide +kernel
theorem e_La_law_524 : decode b_La_law 524 = .ok (.iaload, 1) := by decide +kernel
theorem e_La_law_525 : decode b_La_law 525 = .ok (.invokevirtual 66, 3) := by decide +kernel
theorem e_La_law_528 : decode b_La_law 528 = .ok (.aload_n 2, 1) := by decide +kernel
theorem e_La_law_529 : decode b_La_law 529 = .ok (.aload_n 0, 1) := by decide +kernel
theorem e_La_law_530 : decode b_La_law 530 = .ok (.iload_n 3, 1) := by decide +kernel
theorem e_La_law_531 : decode b_La_law 531 = .ok (.iconst 1, 1) := by decide +kernel
theorem e_La_law_532 : decode b_La_law 532 = .ok (.iadd, 1) := by decide +kernel
theorem e_La_law_533 : decode b_La_law 533 = .ok (.iaload, 1) := by decide +kernel
theorem e_La_law_534 : decode b_La_law 534 = .ok (.aload_n 0, 1) := by decide +kernel
theorem e_La_law_535 : decode b_La_law 535 = .ok (.iload_n 3, 1) := by decide +kernel
theorem e_La_law_536 : decode b_La_law 536 = .ok (.iconst 2, 1) := by decide +kernel
theorem e_La_law_537 : decode b_La_law 537 = .ok (.iadd, 1) := by decide +kernel
theorem e_La_law_538 : decode b_La_law 538 = .ok (.iaload, 1) := by decide +kernel
theorem e_La_law_539 : decode b_La_law 539 = .ok (.invokevirtual 69, 3) := by decide +kernel
theorem e_La_law_542 : decode b_La_law 542 = .ok (.if_icmp .eq 714, 3) := by decide +kernel
theorem e_La_law_545 : decode b_La_law 545 = .ok (.iconst 0, 1) := by decide +kernel
theorem e_La_law_546 : decode b_La_law 546 = .ok (.ireturn, 1) := by decide +kernel
theorem e_La_law_547 : decode b_La_law 547 = .ok (.aload_n 1, 1) := by decide +kernel
theorem e_La_law_548 : decode b_La_law 548 = .ok (.aload_n 0, 1) := by decide +kernel
theorem e_La_law_549 : decode b_La_law 549 = .ok (.iload_n 3, 1) := by decide +kernel
theorem e_La_law_550 : decode b_La_law 550 = .ok (.iconst 1, 1) := by decide +kernel
theorem e_La_law_551 : decode b_La_law 551 = .ok (.iadd, 1) := by decide +kernel
theorem e_La_law_552 : decode b_La_law 552 = .ok (.iaload, 1) := by decide +kernel
theorem e_La_law_553 : decode b_La_law 553 = .ok (.aload_n 0, 1) := by decide +kernel
theorem e_La_law_554 : decode b_La_law 554 = .ok (.iload_n 3, 1) := by decide +kernel
theorem e_La_law_555 : decode b_La_law 555 = .ok (.iconst 2, 1) := by decide +kernel
theorem e_La_law_556 : decode b_La_law 556 = .ok (.iadd, 1) := by decide +kernel
theorem e_La_law_557 : decode b_La_law 557 = .ok (.iaload, 1) := by decide +kernel
theorem e_La_law_558 : decode b_La_law 558 = .ok (.invokevirtual 70, 3) := by decide +kernel
theorem e_La_law_561 : decode b_La_law 561 = .ok (.aload_n 2, 1) := by decide +kernel
theorem e_La_law_562 : decode b_La_law 562 = .ok (.aload_n 0, 1) := by decide +kernel
theorem e_La_law_563 : decode b_La_law 563 = .ok (.iload_n 3, 1) := by decide +kernel
theorem e_La_law_564 : decode b_La_law 564 = .ok (.iconst 1, 1) := by decide +kernel
theorem e_La_law_565 : decode b_La_law 565 = .ok (.iadd, 1) := by decide +kernel
theorem e_La_law_566 : decode b_La_law 566 = .ok (.iaload, 1) := by decide +kernel
theorem e_La_law_567 : decode b_La_law 567 = .ok (.aload_n 0, 1) := by decide +kernel
theorem e_La_law_568 : decode b_La_law 568 = .ok (.iload_n 3, 1) := by decide +kernel
theorem e_La_law_569 : decode b_La_law 569 = .ok (.iconst 2, 1) := by decide +kernel
theorem e_La_law_570 : decode b_La_law 570 = .ok (.iadd, 1) := by decide +kernel
theorem e_La_law_571 : decode b_La_law 571 = .ok (.iaload, 1) := by decide +kernel
theorem e_La_law_572 : decode b_La_law 572 = .ok (.invokevirtual 73, 3) := by decide +kernel
theorem e_La_law_575 : decode b_La_law 575 = .ok (.if_icmp .eq 681, 3) := by decide +kernel
theorem e_La_law_578 : decode b_La_law 578 = .ok (.iconst 0, 1) := by decide +kernel
theorem e_La_law_579 : decode b_La_law 579 = .ok (.ireturn, 1) := by decide +kernel
theorem e_La_law_580 : decode b_La_law 580 = .ok (.aload_n 1, 1) := by decide +kernel
theorem e_La_law_581 : decode b_La_law 581 = .ok (.aload_n 0, 1) := by decide +kernel
theorem e_La_law_582 : decode b_La_law 582 = .ok (.iload_n 3, 1) := by decide +kernel
theorem e_La_law_583 : decode b_La_law 583 = .ok (.iconst 1, 1) := by decide +kernel
theorem e_La_law_584 : decode b_La_law 584 = .ok (.iadd, 1) := by decide +kernel
theorem e_La_law_585 : decode b_La_law 585 = .ok (.iaload, 1) := by decide +kernel
theorem e_La_law_586 : decode b_La_law 586 = .ok (.invokevirtual 74, 3) := by decide +kernel
theorem e_La_law_589 : decode b_La_law 589 = .ok (.aload_n 2, 1) := by decide +kernel
theorem e_La_law_590 : decode b_La_law 590 = .ok (.aload_n 0, 1) := by decide +kernel
theorem e_La_law_591 : decode b_La_law 591 = .ok (.iload_n 3, 1) := by decide +kernel
theorem e_La_law_592 : decode b_La_law 592 = .ok (.iconst 1, 1) := by decide +kernel
theorem e_La_law_593 : decode b_La_law 593 = .ok (.iadd, 1) := by decide +kernel
theorem e_La_law_594 : decode b_La_law 594 = .ok (.iaload, 1) := by decide +kernel
theorem e_La_law_595 : decode b_La_law 595 = .ok (.invokevirtual 77, 3) := by decide +kernel
theorem e_La_law_598 : decode b_La_law 598 = .ok (.if_icmp .eq 658, 3) := by decide +kernel
theorem e_La_law_601 : decode b_La_law 601 = .ok (.iconst 0, 1) := by decide +kernel
theorem e_La_law_602 : decode b_La_law 602 = .ok (.ireturn, 1) := by decide +kernel
theorem e_La_law_603 : decode b_La_law 603 = .ok (.aload_n 1, 1) := by decide +kernel
theorem e_La_law_604 : decode b_La_law 604 = .ok (.aload_n 0, 1) := by decide +kernel
theorem e_La_law_605 : decode b_La_law 605 = .ok (.iload_n 3, 1) := by decide +kernel
theorem e_La_law_606 : decode b_La_law 606 = .ok (.iconst 1, 1) := by decide +kernel
theorem e_La_law_607 : decode b_La_law 607 = .ok (.iadd, 1) := by decide +kernel
theorem e_La_law_608 : decode b_La_law 608 = .ok (.iaload, 1) := by decide +kernel
theorem e_La_law_609 : decode b_La_law 609 = .ok (.aload_n 0, 1) := by decide +kernel
theorem e_La_law_610 : decode b_La_law 610 = .ok (.iload_n 3, 1) := by decide +kernel
theorem e_La_law_611 : decode b_La_law 611 = .ok (.iconst 2, 1) := by decide +kernel
theorem e_La_law_612 : decode b_La_law 612 = .ok (.iadd, 1) := by decide +kernel
theorem e_La_law_613 : decode b_La_law 613 = .ok (.iaload, 1) := by decide +kernel
theorem e_La_law_614 : decode b_La_law 614 = .ok (.invokevirtual 78, 3) := by decide +kernel
theorem e_La_law_617 : decode b_La_law 617 = .ok (.aload_n 2, 1) := by decide +kernel
theorem e_La_law_618 : decode b_La_law 618 = .ok (.aload_n 0, 1) := by decide +kernel
theorem e_La_law_619 : decode b_La_law 619 = .ok (.iload_n 3, 1) := by decide +kernel
theorem e_La_law_620 : decode b_La_law 620 = .ok (.iconst 1, 1) := by decide +kernel
theorem e_La_law_621 : decode b_La_law 621 = .ok (.iadd, 1) := by decide +kernel
theorem e_La_law_622 : decode b_La_law 622 = .ok (.iaload, 1) := by decide +kernel
theorem e_La_law_623 : decode b_La_law 623 = .ok (.aload_n 0, 1) := by decide +kernel
theorem e_La_law_624 : decode b_La_law 624 = .ok (.iload_n 3, 1) := by decide +kernel
theorem e_La_law_625 : decode b_La_law 625 = .ok (.iconst 2, 1) := by decide +kernel
theorem e_La_law_626 : decode b_La_law 626 = .ok (.iadd, 1) := by decide +kernel
theorem e_La_law_627 : decode b_La_law 627 = .ok (.iaload, 1) := by decide +kernel
theorem e_La_law_628 : decode b_La_law 628 = .ok (.invokevirtual 81, 3) := by decide +kernel
theorem e_La_law_631 : decode b_La_law 631 = .ok (.if_icmp .eq 625, 3) := by decide +kernel
theorem e_La_law_634 : decode b_La_law 634 = .ok (.iconst 0, 1) := by decide +kernel
theorem e_La_law_635 : decode b_La_law 635 = .ok (.ireturn, 1) := by decide +kernel
theorem e_La_law_636 : decode b_La_law 636 = .ok (.aload_n 1, 1) := by decide +kernel
theorem e_La_law_637 : decode b_La_law 637 = .ok (.aload_n 0, 1) := by decide +kernel
theorem e_La_law_638 : decode b_La_law 638 = .ok (.iload_n 3, 1) := by decide +kernel
theorem e_La_law_639 : decode b_La_law 639 = .ok (.iconst 1, 1) := by decide +kernel
theorem e_La_law_640 : decode b_La_law 640 = .ok (.iadd, 1) := by decide +kernel
theorem e_La_law_641 : decode b_La_law 641 = .ok (.iaload, 1) := by decide +kernel
theorem e_La_law_642 : decode b_La_law 642 = .ok (.aload_n 0, 1) := by decide +kernel
theorem e_La_law_643 : decode b_La_law 643 = .ok (.iload_n 3, 1) := by decide +kernel
theorem e_La_law_644 : decode b_La_law 644 = .ok (.iconst 2, 1) := by decide +kernel
theorem e_La_law_645 : decode b_La_law 645 = .ok (.iadd, 1) := by decide +kernel
theorem e_La_law_646 : decode b_La_law 646 = .ok (.iaload, 1) := by decide +kernel
theorem e_La_law_647 : decode b_La_law 647 = .ok (.invokevirtual 82, 3) := by decide +kernel
theorem e_La_law_650 : decode b_La_law 650 = .ok (.aload_n 2, 1) := by decide +kernel
theorem e_La_law_651 : decode b_La_law 651 = .ok (.aload_n 0, 1) := by decide +kernel
theorem e_La_law_652 : decode b_La_law 652 = .ok (.iload_n 3, 1) := by decide +kernel
theorem e_La_law_653 : decode b_La_law 653 = .ok (.iconst 1, 1) := by decide +kernel
theorem e_La_law_654 : decode b_La_law 654 = .ok (.iadd, 1) := by decide +kernel
theorem e_La_law_655 : decode b_La_law 655 = .ok (.iaload, 1) := by decide +kernel
theorem e_La_law_656 : decode b_La_law 656 = .ok (.aload_n 0, 1) := by decide +kernel
theorem e_La_law_657 : decode b_La_law 657 = .ok (.iload_n 3, 1) := by decide +kernel
theorem e_La_law_658 : decode b_La_law 658 = .ok (.iconst 2, 1) := by decide +kernel
theorem e_La_law_659 : decode b_La_law 659 = .ok (.iadd, 1) := by decide +kernel
theorem e_La_law_660 : decode b_La_law 660 = .ok (.iaload, 1) := by decide +kernel
theorem e_La_law_661 : decode b_La_law 661 = .ok (.invokevirtual 85, 3) := by decide +kernel
theorem e_La_law_664 : decode b_La_law 664 = .ok (.if_icmp .eq 592, 3) := by decide +kernel
theorem e_La_law_667 : decode b_La_law 667 = .ok (.iconst 0, 1) := by decide +kernel
theorem e_La_law_668 : decode b_La_law 668 = .ok (.ireturn, 1) := by decide +kernel
theorem e_La_law_669 : decode b_La_law 669 = .ok (.aload_n 1, 1) := by decide +kernel
theorem e_La_law_670 : decode b_La_law 670 = .ok (.aload_n 0, 1) := by decide +kernel
theorem e_La_law_671 : decode b_La_law 671 = .ok (.iload_n 3, 1) := by decide +kernel
theorem e_La_law_672 : decode b_La_law 672 = .ok (.iconst 1, 1) := by decide +kernel
theorem e_La_law_673 : decode b_La_law 673 = .ok (.iadd, 1) := by decide +kernel
theorem e_La_law_674 : decode b_La_law 674 = .ok (.iaload, 1) := by decide +kernel
theorem e_La_law_675 : decode b_La_law 675 = .ok (.aload_n 0, 1) := by decide +kernel
theorem e_La_law_676 : decode b_La_law 676 = .ok (.iload_n 3, 1) := by decide +kernel
theorem e_La_law_677 : decode b_La_law 677 = .ok (.iconst 2, 1) := by decide +kernel
theorem e_La_law_678 : decode b_La_law 678 = .ok (.iadd, 1) := by decide +kernel
theorem e_La_law_679 : decode b_La_law 679 = .ok (.iaload, 1) := by decide +kernel
theorem e_La_law_680 : decode b_La_law 680 = .ok (.invokevirtual 86, 3) := by decide +kernel
theorem e_La_law_683 : decode b_La_law 683 = .ok (.aload_n 2, 1) := by decide +kernel
theorem e_La_law_684 : decode b_La_law 684 = .ok (.aload_n 0, 1) := by decide +kernel
theorem e_La_law_685 : decode b_La_law 685 = .ok (.iload_n 3, 1) := by decide +kernel
theorem e_La_law_686 : decode b_La_law 686 = .ok (.iconst 1, 1) := by decide +kernel
theorem e_La_law_687 : decode b_La_law 687 = .ok (.iadd, 1) := by decide +kernel
theorem e_La_law_688 : decode b_La_law 688 = .ok (.iaload, 1) := by decide +kernel
theorem e_La_law_689 : decode b_La_law 689 = .ok (.aload_n 0, 1) := by decide +kernel
theorem e_La_law_690 : decode b_La_law 690 = .ok (.iload_n 3, 1) := by decide +kernel
theorem e_La_law_691 : decode b_La_law 691 = .ok (.iconst 2, 1) := by decide +kernel
theorem e_La_law_692 : decode b_La_law 692 = .ok (.iadd, 1) := by decide +kernel
theorem e_La_law_693 : decode b_La_law 693 = .ok (.iaload, 1) := by decide +kernel
theorem e_La_law_694 : decode b_La_law 694 = .ok (.invokevirtual 89, 3) := by decide +kernel
theorem e_La_law_697 : decode b_La_law 697 = .ok (.if_icmp .eq 559, 3) := by decide +kernel
theorem e_La_law_700 : decode b_La_law 700 = .ok (.iconst 0, 1) := by decide +kernel
theorem e_La_law_701 : decode b_La_law 701 = .ok (.ireturn, 1) := by decide +kernel
theorem e_La_law_702 : decode b_La_law 702 = .ok (.aload_n 1, 1) := by decide +kernel
theorem e_La_law_703 : decode b_La_law 703 = .ok (.aload_n 0, 1) := by decide +kernel
theorem e_La_law_704 : decode b_La_law 704 = .ok (.iload_n 3, 1) := by decide +kernel
theorem e_La_law_705 : decode b_La_law 705 = .ok (.iconst 1, 1) := by decide +kernel
theorem e_La_law_706 : decode b_La_law 706 = .ok (.iadd, 1) := by decide +kernel
theorem e_La_law_707 : decode b_La_law 707 = .ok (.iaload, 1) := by decide +kernel
theorem e_La_law_708 : decode b_La_law 708 = .ok (.aload_n 0, 1) := by decide +kernel
theorem e_La_law_709 : decode b_La_law 709 = .ok (.iload_n 3, 1) := by decide +kernel
theorem e_La_law_710 : decode b_La_law 710 = .ok (.iconst 2, 1) := by decide +kernel
theorem e_La_law_711 : decode b_La_law 711 = .ok (.iadd, 1) := by decide +kernel
theorem e_La_law_712 : decode b_La_law 712 = .ok (.iaload, 1) := by decide +kernel
theorem e_La_law_713 : decode b_La_law 713 = .ok (.invokevirtual 90, 3) := by decide +kernel
theorem e_La_law_716 : decode b_La_law 716 = .ok (.aload_n 2, 1) := by decide +kernel
theorem e_La_law_717 : decode b_La_law 717 = .ok (.aload_n 0, 1) := by decide +kernel
theorem e_La_law_718 : decode b_La_law 718 = .ok (.iload_n 3, 1) := by decide +kernel
theorem e_La_law_719 : decode b_La_law 719 = .ok (.iconst 1, 1) := by decide +kernel
theorem e_La_law_720 : decode b_La_law 720 = .ok (.iadd, 1) := by decide +kernel
theorem e_La_law_721 : decode b_La_law 721 = .ok (.iaload, 1) := by decide +kernel
theorem e_La_law_722 : decode b_La_law 722 = .ok (.aload_n 0, 1) := by decide +kernel
theorem e_La_law_723 : decode b_La_law 723 = .ok (.iload_n 3, 1) := by decide +kernel
theorem e_La_law_724 : decode b_La_law 724 = .ok (.iconst 2, 1) := by decide +kernel
theorem e_La_law_725 : decode b_La_law 725 = .ok (.iadd, 1) := by decide +kernel
theorem e_La_law_726 : decode b_La_law 726 = .ok (.iaload, 1) := by decide +kernel
theorem e_La_law_727 : decode b_La_law 727 = .ok (.invokevirtual 94, 3) := by decide +kernel
theorem e_La_law_730 : decode b_La_law 730 = .ok (.lcmp, 1) := by decide +kernel
theorem e_La_law_731 : decode b_La_law 731 = .ok (.ifCond .eq 525, 3) := by decide +kernel
theorem e_La_law_734 : decode b_La_law 734 = .ok (.iconst 0, 1) := by decide +kernel
theorem e_La_law_735 : decode b_La_law 735 = .ok (.ireturn, 1) := by decide +kernel
theorem e_La_law_736 : decode b_La_law 736 = .ok (.aload_n 1, 1) := by decide +kernel
theorem e_La_law_737 : decode b_La_law 737 = .ok (.aload_n 0, 1) := by decide +kernel
theorem e_La_law_738 : decode b_La_law 738 = .ok (.iload_n 3, 1) := by decide +kernel
theorem e_La_law_739 : decode b_La_law 739 = .ok (.iconst 1, 1) := by decide +kernel
theorem e_La_law_740 : decode b_La_law 740 = .ok (.iadd, 1) := by decide +kernel
theorem e_La_law_741 : decode b_La_law 741 = .ok (.iaload, 1) := by decide +kernel
theorem e_La_law_742 : decode b_La_law 742 = .ok (.invokevirtual 95, 3) := by decide +kernel
theorem e_La_law_745 : decode b_La_law 745 = .ok (.aload_n 2, 1) := by decide +kernel
theorem e_La_law_746 : decode b_La_law 746 = .ok (.aload_n 0, 1) := by decide +kernel
theorem e_La_law_747 : decode b_La_law 747 = .ok (.iload_n 3, 1) := by decide +kernel
theorem e_La_law_748 : decode b_La_law 748 = .ok (.iconst 1, 1) := by decide +kernel
theorem e_La_law_749 : decode b_La_law 749 = .ok (.iadd, 1) := by decide +kernel
theorem e_La_law_750 : decode b_La_law 750 = .ok (.iaload, 1) := by decide +kernel
theorem e_La_law_751 : decode b_La_law 751 = .ok (.invokevirtual 99, 3) := by decide +kernel
theorem e_La_law_754 : decode b_La_law 754 = .ok (.lcmp, 1) := by decide +kernel
theorem e_La_law_755 : decode b_La_law 755 = .ok (.ifCond .eq 501, 3) := by decide +kernel
theorem e_La_law_758 : decode b_La_law 758 = .ok (.iconst 0, 1) := by decide +kernel
theorem e_La_law_759 : decode b_La_law 759 = .ok (.ireturn, 1) := by decide +kernel
theorem e_La_law_760 : decode b_La_law 760 = .ok (.aload_n 1, 1) := by decide +kernel
theorem e_La_law_761 : decode b_La_law 761 = .ok (.aload_n 0, 1) := by decide +kernel
theorem e_La_law_762 : decode b_La_law 762 = .ok (.iload_n 3, 1) := by decide +kernel
theorem e_La_law_763 : decode b_La_law 763 = .ok (.iconst 1, 1) := by decide +kernel
theorem e_La_law_764 : decode b_La_law 764 = .ok (.iadd, 1) := by decide +kernel
theorem e_La_law_765 : decode b_La_law 765 = .ok (.iaload, 1) := by decide +kernel
theorem e_La_law_766 : decode b_La_law 766 = .ok (.aload_n 0, 1) := by decide +kernel
theorem e_La_law_767 : decode b_La_law 767 = .ok (.iload_n 3, 1) := by decide +kernel
theorem e_La_law_768 : decode b_La_law 768 = .ok (.iconst 2, 1) := by decide +kernel
theorem e_La_law_769 : decode b_La_law 769 = .ok (.iadd, 1) := by decide +kernel
theorem e_La_law_770 : decode b_La_law 770 = .ok (.iaload, 1) := by decide +kernel
theorem e_La_law_771 : decode b_La_law 771 = .ok (.invokevirtual 100, 3) := by decide +kernel
theorem e_La_law_774 : decode b_La_law 774 = .ok (.aload_n 2, 1) := by decide +kernel
theorem e_La_law_775 : decode b_La_law 775 = .ok (.aload_n 0, 1) := by decide +kernel
theorem e_La_law_776 : decode b_La_law 776 = .ok (.iload_n 3, 1) := by decide +kernel
theorem e_La_law_777 : decode b_La_law 777 = .ok (.iconst 1, 1) := by decide +kernel
theorem e_La_law_778 : decode b_La_law 778 = .ok (.iadd, 1) := by decide +kernel
theorem e_La_law_779 : decode b_La_law 779 = .ok (.iaload, 1) := by decide +kernel
theorem e_La_law_780 : decode b_La_law 780 = .ok (.aload_n 0, 1) := by decide +kernel
theorem e_La_law_781 : decode b_La_law 781 = .ok (.iload_n 3, 1) := by decide +kernel
theorem e_La_law_782 : decode b_La_law 782 = .ok (.iconst 2, 1) := by decide +kernel
theorem e_La_law_783 : decode b_La_law 783 = .ok (.iadd, 1) := by decide +kernel
theorem e_La_law_784 : decode b_La_law 784 = .ok (.iaload, 1) := by decide +kernel
theorem e_La_law_785 : decode b_La_law 785 = .ok (.invokevirtual 103, 3) := by decide +kernel
theorem e_La_law_788 : decode b_La_law 788 = .ok (.if_icmp .eq 468, 3) := by decide +kernel
theorem e_La_law_791 : decode b_La_law 791 = .ok (.iconst 0, 1) := by decide +kernel
theorem e_La_law_792 : decode b_La_law 792 = .ok (.ireturn, 1) := by decide +kernel
theorem e_La_law_793 : decode b_La_law 793 = .ok (.aload_n 1, 1) := by decide +kernel
theorem e_La_law_794 : decode b_La_law 794 = .ok (.aload_n 0, 1) := by decide +kernel
theorem e_La_law_795 : decode b_La_law 795 = .ok (.iload_n 3, 1) := by decide +kernel
theorem e_La_law_796 : decode b_La_law 796 = .ok (.iconst 1, 1) := by decide +kernel
theorem e_La_law_797 : decode b_La_law 797 = .ok (.iadd, 1) := by decide +kernel
theorem e_La_law_798 : decode b_La_law 798 = .ok (.iaload, 1) := by decide +kernel
theorem e_La_law_799 : decode b_La_law 799 = .ok (.invokevirtual 104, 3) := by decide +kernel
theorem e_La_law_802 : decode b_La_law 802 = .ok (.aload_n 2, 1) := by decide +kernel
theorem e_La_law_803 : decode b_La_law 803 = .ok (.aload_n 0, 1) := by decide +kernel
theorem e_La_law_804 : decode b_La_law 804 = .ok (.iload_n 3, 1) := by decide +kernel
theorem e_La_law_805 : decode b_La_law 805 = .ok (.iconst 1, 1) := by decide +kernel
theorem e_La_law_806 : decode b_La_law 806 = .ok (.iadd, 1) := by decide +kernel
theorem e_La_law_807 : decode b_La_law 807 = .ok (.iaload, 1) := by decide +kernel
theorem e_La_law_808 : decode b_La_law 808 = .ok (.invokevirtual 107, 3) := by decide +kernel
theorem e_La_law_811 : decode b_La_law 811 = .ok (.if_icmp .eq 445, 3) := by decide +kernel
theorem e_La_law_814 : decode b_La_law 814 = .ok (.iconst 0, 1) := by decide +kernel
theorem e_La_law_815 : decode b_La_law 815 = .ok (.ireturn, 1) := by decide +kernel
theorem e_La_law_816 : decode b_La_law 816 = .ok (.aload_n 1, 1) := by decide +kernel
theorem e_La_law_817 : decode b_La_law 817 = .ok (.aload_n 0, 1) := by decide +kernel
theorem e_La_law_818 : decode b_La_law 818 = .ok (.iload_n 3, 1) := by decide +kernel
theorem e_La_law_819 : decode b_La_law 819 = .ok (.iconst 1, 1) := by decide +kernel
theorem e_La_law_820 : decode b_La_law 820 = .ok (.iadd, 1) := by decide +kernel
theorem e_La_law_821 : decode b_La_law 821 = .ok (.iaload, 1) := by decide +kernel
theorem e_La_law_822 : decode b_La_law 822 = .ok (.aload_n 0, 1) := by decide +kernel
theorem e_La_law_823 : decode b_La_law 823 = .ok (.iload_n 3, 1) := by decide +kernel
theorem e_La_law_824 : decode b_La_law 824 = .ok (.iconst 2, 1) := by decide +kernel
theorem e_La_law_825 : decode b_La_law 825 = .ok (.iadd, 1) := by decide +kernel
theorem e_La_law_826 : decode b_La_law 826 = .ok (.iaload, 1) := by decide +kernel
theorem e_La_law_827 : decode b_La_law 827 = .ok (.invokevirtual 108, 3) := by decide +kernel
theorem e_La_law_830 : decode b_La_law 830 = .ok (.aload_n 2, 1) := by decide +kernel
theorem e_La_law_831 : decode b_La_law 831 = .ok (.aload_n 0, 1) := by decide +kernel
theorem e_La_law_832 : decode b_La_law 832 = .ok (.iload_n 3, 1) := by decide +kernel
theorem e_La_law_833 : decode b_La_law 833 = .ok (.iconst 1, 1) := by decide +kernel
theorem e_La_law_834 : decode b_La_law 834 = .ok (.iadd, 1) := by decide +kernel
theorem e_La_law_835 : decode b_La_law 835 = .ok (.iaload, 1) := by decide +kernel
theorem e_La_law_836 : decode b_La_law 836 = .ok (.aload_n 0, 1) := by decide +kernel
theorem e_La_law_837 : decode b_La_law 837 = .ok (.iload_n 3, 1) := by decide +kernel
theorem e_La_law_838 : decode b_La_law 838 = .ok (.iconst 2, 1) := by decide +kernel
theorem e_La_law_839 : decode b_La_law 839 = .ok (.iadd, 1) := by decide +kernel
theorem e_La_law_840 : decode b_La_law 840 = .ok (.iaload, 1) := by decide +kernel
theorem e_La_law_841 : decode b_La_law 841 = .ok (.invokevirtual 111, 3) := by decide +kernel
theorem e_La_law_844 : decode b_La_law 844 = .ok (.if_icmp .eq 412, 3) := by decide +kernel
theorem e_La_law_847 : decode b_La_law 847 = .ok (.iconst 0, 1) := by decide +kernel
theorem e_La_law_848 : decode b_La_law 848 = .ok (.ireturn, 1) := by decide +kernel
theorem e_La_law_849 : decode b_La_law 849 = .ok (.aload_n 1, 1) := by decide +kernel
theorem e_La_law_850 : decode b_La_law 850 = .ok (.invokevirtual 112, 3) := by decide +kernel
theorem e_La_law_853 : decode b_La_law 853 = .ok (.aload_n 2, 1) := by decide +kernel
theorem e_La_law_854 : decode b_La_law 854 = .ok (.invokevirtual 115, 3) := by decide +kernel
theorem e_La_law_857 : decode b_La_law 857 = .ok (.if_icmp .eq 399, 3) := by decide +kernel
theorem e_La_law_860 : decode b_La_law 860 = .ok (.iconst 0, 1) := by decide +kernel
theorem e_La_law_861 : decode b_La_law 861 = .ok (.ireturn, 1) := by decide +kernel
theorem e_La_law_862 : decode b_La_law 862 = .ok (.aload_n 1, 1) := by decide +kernel
theorem e_La_law_863 : decode b_La_law 863 = .ok (.aload_n 0, 1) := by decide +kernel
theorem e_La_law_864 : decode b_La_law 864 = .ok (.iload_n 3, 1) := by decide +kernel
theorem e_La_law_865 : decode b_La_law 865 = .ok (.iconst 1, 1) := by decide +kernel
theorem e_La_law_866 : decode b_La_law 866 = .ok (.iadd, 1) := by decide +kernel
theorem e_La_law_867 : decode b_La_law 867 = .ok (.iaload, 1) := by decide +kernel
theorem e_La_law_868 : decode b_La_law 868 = .ok (.aload_n 0, 1) := by decide +kernel
theorem e_La_law_869 : decode b_La_law 869 = .ok (.iload_n 3, 1) := by decide +kernel
theorem e_La_law_870 : decode b_La_law 870 = .ok (.iconst 2, 1) := by decide +kernel
theorem e_La_law_871 : decode b_La_law 871 = .ok (.iadd, 1) := by decide +kernel
theorem e_La_law_872 : decode b_La_law 872 = .ok (.iaload, 1) := by decide +kernel
theorem e_La_law_873 : decode b_La_law 873 = .ok (.invokevirtual 116, 3) := by decide +kernel
theorem e_La_law_876 : decode b_La_law 876 = .ok (.aload_n 2, 1) := by decide +kernel
theorem e_La_law_877 : decode b_La_law 877 = .ok (.aload_n 0, 1) := by decide +kernel
theorem e_La_law_878 : decode b_La_law 878 = .ok (.iload_n 3, 1) := by decide +kernel
theorem e_La_law_879 : decode b_La_law 879 = .ok (.iconst 1, 1) := by decide +kernel
theorem e_La_law_880 : decode b_La_law 880 = .ok (.iadd, 1) := by decide +kernel
theorem e_La_law_881 : decode b_La_law 881 = .ok (.iaload, 1) := by decide +kernel
theorem e_La_law_882 : decode b_La_law 882 = .ok (.aload_n 0, 1) := by decide +kernel
theorem e_La_law_883 : decode b_La_law 883 = .ok (.iload_n 3, 1) := by decide +kernel
theorem e_La_law_884 : decode b_La_law 884 = .ok (.iconst 2, 1) := by decide +kernel
theorem e_La_law_885 : decode b_La_law 885 = .ok (.iadd, 1) := by decide +kernel
theorem e_La_law_886 : decode b_La_law 886 = .ok (.iaload, 1) := by decide +kernel
theorem e_La_law_887 : decode b_La_law 887 = .ok (.invokevirtual 119, 3) := by decide +kernel
theorem e_La_law_890 : decode b_La_law 890 = .ok (.if_icmp .eq 366, 3) := by decide +kernel
theorem e_La_law_893 : decode b_La_law 893 = .ok (.iconst 0, 1) := by decide +kernel
theorem e_La_law_894 : decode b_La_law 894 = .ok (.ireturn, 1) := by decide +kernel
theorem e_La_law_895 : decode b_La_law 895 = .ok (.aload_n 1, 1) := by decide +kernel
theorem e_La_law_896 : decode b_La_law 896 = .ok (.invokevirtual 120, 3) := by decide +kernel
theorem e_La_law_899 : decode b_La_law 899 = .ok (.aload_n 2, 1) := by decide +kernel
theorem e_La_law_900 : decode b_La_law 900 = .ok (.invokevirtual 123, 3) := by decide +kernel
theorem e_La_law_903 : decode b_La_law 903 = .ok (.if_icmp .eq 353, 3) := by decide +kernel
theorem e_La_law_906 : decode b_La_law 906 = .ok (.iconst 0, 1) := by decide +kernel
theorem e_La_law_907 : decode b_La_law 907 = .ok (.ireturn, 1) := by decide +kernel
theorem e_La_law_908 : decode b_La_law 908 = .ok (.aload_n 1, 1) := by decide +kernel
theorem e_La_law_909 : decode b_La_law 909 = .ok (.invokevirtual 124, 3) := by decide +kernel
theorem e_La_law_912 : decode b_La_law 912 = .ok (.aload_n 2, 1) := by decide +kernel
theorem e_La_law_913 : decode b_La_law 913 = .ok (.invokevirtual 127, 3) := by decide +kernel
theorem e_La_law_916 : decode b_La_law 916 = .ok (.if_icmp .eq 340, 3) := by decide +kernel
theorem e_La_law_919 : decode b_La_law 919 = .ok (.iconst 0, 1) := by decide +kernel
theorem e_La_law_920 : decode b_La_law 920 = .ok (.ireturn, 1) := by decide +kernel
theorem e_La_law_921 : decode b_La_law 921 = .ok (.aload_n 1, 1) := by decide +kernel
theorem e_La_law_922 : decode b_La_law 922 = .ok (.aload_n 0, 1) := by decide +kernel
theorem e_La_law_923 : decode b_La_law 923 = .ok (.iload_n 3, 1) := by decide +kernel
theorem e_La_law_924 : decode b_La_law 924 = .ok (.iconst 1, 1) := by decide +kernel
theorem e_La_law_925 : decode b_La_law 925 = .ok (.iadd, 1) := by decide +kernel
theorem e_La_law_926 : decode b_La_law 926 = .ok (.iaload, 1) := by decide +kernel
theorem e_La_law_927 : decode b_La_law 927 = .ok (.aload_n 0, 1) := by decide +kernel
theorem e_La_law_928 : decode b_La_law 928 = .ok (.iload_n 3, 1) := by decide +kernel
theorem e_La_law_929 : decode b_La_law 929 = .ok (.iconst 2, 1) := by decide +kernel
theorem e_La_law_930 : decode b_La_law 930 = .ok (.iadd, 1) := by decide +kernel
theorem e_La_law_931 : decode b_La_law 931 = .ok (.iaload, 1) := by decide +kernel
theorem e_La_law_932 : decode b_La_law 932 = .ok (.aload_n 0, 1) := by decide +kernel
theorem e_La_law_933 : decode b_La_law 933 = .ok (.iload_n 3, 1) := by decide +kernel
theorem e_La_law_934 : decode b_La_law 934 = .ok (.iconst 3, 1) := by decide +kernel
theorem e_La_law_935 : decode b_La_law 935 = .ok (.iadd, 1) := by decide +kernel
theorem e_La_law_936 : decode b_La_law 936 = .ok (.iaload, 1) := by decide +kernel
theorem e_La_law_937 : decode b_La_law 937 = .ok (.invokevirtual 128, 3) := by decide +kernel
theorem e_La_law_940 : decode b_La_law 940 = .ok (.aload_n 2, 1) := by decide +kernel
theorem e_La_law_941 : decode b_La_law 941 = .ok (.aload_n 0, 1) := by decide +kernel
theorem e_La_law_942 : decode b_La_law 942 = .ok (.iload_n 3, 1) := by decide +kernel
theorem e_La_law_943 : decode b_La_law 943 = .ok (.iconst 1, 1) := by decide +kernel
theorem e_La_law_944 : decode b_La_law 944 = .ok (.iadd, 1) := by decide +kernel
theorem e_La_law_945 : decode b_La_law 945 = .ok (.iaload, 1) := by decide +kernel
theorem e_La_law_946 : decode b_La_law 946 = .ok (.aload_n 0, 1) := by decide +kernel
theorem e_La_law_947 : decode b_La_law 947 = .ok (.iload_n 3, 1) := by decide +kernel
theorem e_La_law_948 : decode b_La_law 948 = .ok (.iconst 2, 1) := by decide +kernel
theorem e_La_law_949 : decode b_La_law 949 = .ok (.iadd, 1) := by decide +kernel
theorem e_La_law_950 : decode b_La_law 950 = .ok (.iaload, 1) := by decide +kernel
theorem e_La_law_951 : decode b_La_law 951 = .ok (.aload_n 0, 1) := by decide +kernel
theorem e_La_law_952 : decode b_La_law 952 = .ok (.iload_n 3, 1) := by decide +kernel
theorem e_La_law_953 : decode b_La_law 953 = .ok (.iconst 3, 1) := by decide +kernel
theorem e_La_law_954 : decode b_La_law 954 = .ok (.iadd, 1) := by decide +kernel
theorem e_La_law_955 : decode b_La_law 955 = .ok (.iaload, 1) := by decide +kernel
theorem e_La_law_956 : decode b_La_law 956 = .ok (.invokevirtual 131, 3) := by decide +kernel
theorem e_La_law_959 : decode b_La_law 959 = .ok (.if_icmp .eq 297, 3) := by decide +kernel
theorem e_La_law_962 : decode b_La_law 962 = .ok (.iconst 0, 1) := by decide +kernel
theorem e_La_law_963 : decode b_La_law 963 = .ok (.ireturn, 1) := by decide +kernel
theorem e_La_law_964 : decode b_La_law 964 = .ok (.aload_n 1, 1) := by decide +kernel
theorem e_La_law_965 : decode b_La_law 965 = .ok (.aload_n 0, 1) := by decide +kernel
theorem e_La_law_966 : decode b_La_law 966 = .ok (.iload_n 3, 1) := by decide +kernel
theorem e_La_law_967 : decode b_La_law 967 = .ok (.iconst 1, 1) := by decide +kernel
theorem e_La_law_968 : decode b_La_law 968 = .ok (.iadd, 1) := by decide +kernel
theorem e_La_law_969 : decode b_La_law 969 = .ok (.iaload, 1) := by decide +kernel
theorem e_La_law_970 : decode b_La_law 970 = .ok (.invokevirtual 132, 3) := by decide +kernel
theorem e_La_law_973 : decode b_La_law 973 = .ok (.aload_n 2, 1) := by decide +kernel
theorem e_La_law_974 : decode b_La_law 974 = .ok (.aload_n 0, 1) := by decide +kernel
theorem e_La_law_975 : decode b_La_law 975 = .ok (.iload_n 3, 1) := by decide +kernel
theorem e_La_law_976 : decode b_La_law 976 = .ok (.iconst 1, 1) := by decide +kernel
theorem e_La_law_977 : decode b_La_law 977 = .ok (.iadd, 1) := by decide +kernel
theorem e_La_law_978 : decode b_La_law 978 = .ok (.iaload, 1) := by decide +kernel
theorem e_La_law_979 : decode b_La_law 979 = .ok (.invokevirtual 135, 3) := by decide +kernel
theorem e_La_law_982 : decode b_La_law 982 = .ok (.if_icmp .eq 274, 3) := by decide +kernel
theorem e_La_law_985 : decode b_La_law 985 = .ok (.iconst 0, 1) := by decide +kernel
theorem e_La_law_986 : decode b_La_law 986 = .ok (.ireturn, 1) := by decide +kernel
theorem e_La_law_987 : decode b_La_law 987 = .ok (.aload_n 1, 1) := by decide +kernel
theorem e_La_law_988 : decode b_La_law 988 = .ok (.aload_n 0, 1) := by decide +kernel
theorem e_La_law_989 : decode b_La_law 989 = .ok (.iload_n 3, 1) := by decide +kernel
theorem e_La_law_990 : decode b_La_law 990 = .ok (.iconst 1, 1) := by decide +kernel
theorem e_La_law_991 : decode b_La_law 991 = .ok (.iadd, 1) := by decide +kernel
theorem e_La_law_992 : decode b_La_law 992 = .ok (.iaload, 1) := by decide +kernel
theorem e_La_law_993 : decode b_La_law 993 = .ok (.aload_n 0, 1) := by decide +kernel
theorem e_La_law_994 : decode b_La_law 994 = .ok (.iload_n 3, 1) := by decide +kernel
theorem e_La_law_995 : decode b_La_law 995 = .ok (.iconst 2, 1) := by decide +kernel
theorem e_La_law_996 : decode b_La_law 996 = .ok (.iadd, 1) := by decide +kernel
theorem e_La_law_997 : decode b_La_law 997 = .ok (.iaload, 1) := by decide +kernel
theorem e_La_law_998 : decode b_La_law 998 = .ok (.invokevirtual 136, 3) := by decide +kernel
theorem e_La_law_1001 : decode b_La_law 1001 = .ok (.aload_n 2, 1) := by decide +kernel
theorem e_La_law_1002 : decode b_La_law 1002 = .ok (.aload_n 0, 1) := by decide +kernel
theorem e_La_law_1003 : decode b_La_law 1003 = .ok (.iload_n 3, 1) := by decide +kernel
theorem e_La_law_1004 : decode b_La_law 1004 = .ok (.iconst 1, 1) := by decide +kernel
theorem e_La_law_1005 : decode b_La_law 1005 = .ok (.iadd, 1) := by decide +kernel
theorem e_La_law_1006 : decode b_La_law 1006 = .ok (.iaload, 1) := by decide +kernel
theorem e_La_law_1007 : decode b_La_law 1007 = .ok (.aload_n 0, 1) := by decide +kernel
theorem e_La_law_1008 : decode b_La_law 1008 = .ok (.iload_n 3, 1) := by decide +kernel
theorem e_La_law_1009 : decode b_La_law 1009 = .ok (.iconst 2, 1) := by decide +kernel
theorem e_La_law_1010 : decode b_La_law 1010 = .ok (.iadd, 1) := by decide +kernel
theorem e_La_law_1011 : decode b_La_law 1011 = .ok (.iaload, 1) := by decide +kernel
theorem e_La_law_1012 : decode b_La_law 1012 = .ok (.invokevirtual 139, 3) := by decide +kernel
theorem e_La_law_1015 : decode b_La_law 1015 = .ok (.if_icmp .eq 241, 3) := by decide +kernel
theorem e_La_law_1018 : decode b_La_law 1018 = .ok (.iconst 0, 1) := by decide +kernel
theorem e_La_law_1019 : decode b_La_law 1019 = .ok (.ireturn, 1) := by decide +kernel
theorem e_La_law_1020 : decode b_La_law 1020 = .ok (.aload_n 1, 1) := by decide +kernel
theorem e_La_law_1021 : decode b_La_law 1021 = .ok (.aload_n 0, 1) := by decide +kernel
theorem e_La_law_1022 : decode b_La_law 1022 = .ok (.iload_n 3, 1) := by decide +kernel
theorem e_La_law_1023 : decode b_La_law 1023 = .ok (.iconst 1, 1) := by decide +kernel
theorem e_La_law_1024 : decode b_La_law 1024 = .ok (.iadd, 1) := by decide +kernel
theorem e_La_law_1025 : decode b_La_law 1025 = .ok (.iaload, 1) := by decide +kernel
theorem e_La_law_1026 : decode b_La_law 1026 = .ok (.invokevirtual 140, 3) := by decide +kernel
theorem e_La_law_1029 : decode b_La_law 1029 = .ok (.aload_n 2, 1) := by decide +kernel
theorem e_La_law_1030 : decode b_La_law 1030 = .ok (.aload_n 0, 1) := by decide +kernel
theorem e_La_law_1031 : decode b_La_law 1031 = .ok (.iload_n 3, 1) := by decide +kernel
theorem e_La_law_1032 : decode b_La_law 1032 = .ok (.iconst 1, 1) := by decide +kernel
theorem e_La_law_1033 : decode b_La_law 1033 = .ok (.iadd, 1) := by decide +kernel
theorem e_La_law_1034 : decode b_La_law 1034 = .ok (.iaload, 1) := by decide +kernel
theorem e_La_law_1035 : decode b_La_law 1035 = .ok (.invokevirtual 143, 3) := by decide +kernel
theorem e_La_law_1038 : decode b_La_law 1038 = .ok (.if_icmp .eq 218, 3) := by decide +kernel
theorem e_La_law_1041 : decode b_La_law 1041 = .ok (.iconst 0, 1) := by decide +kernel
theorem e_La_law_1042 : decode b_La_law 1042 = .ok (.ireturn, 1) := by decide +kernel
theorem e_La_law_1043 : decode b_La_law 1043 = .ok (.aload_n 1, 1) := by decide +kernel
theorem e_La_law_1044 : decode b_La_law 1044 = .ok (.aload_n 0, 1) := by decide +kernel
theorem e_La_law_1045 : decode b_La_law 1045 = .ok (.iload_n 3, 1) := by decide +kernel
theorem e_La_law_1046 : decode b_La_law 1046 = .ok (.iconst 1, 1) := by decide +kernel
theorem e_La_law_1047 : decode b_La_law 1047 = .ok (.iadd, 1) := by decide +kernel
theorem e_La_law_1048 : decode b_La_law 1048 = .ok (.iaload, 1) := by decide +kernel
theorem e_La_law_1049 : decode b_La_law 1049 = .ok (.aload_n 0, 1) := by decide +kernel
theorem e_La_law_1050 : decode b_La_law 1050 = .ok (.iload_n 3, 1) := by decide +kernel
theorem e_La_law_1051 : decode b_La_law 1051 = .ok (.iconst 2, 1) := by decide +kernel
theorem e_La_law_1052 : decode b_La_law 1052 = .ok (.iadd, 1) := by decide +kernel
theorem e_La_law_1053 : decode b_La_law 1053 = .ok (.iaload, 1) := by decide +kernel
theorem e_La_law_1054 : decode b_La_law 1054 = .ok (.aload_n 0, 1) := by decide +kernel
theorem e_La_law_1055 : decode b_La_law 1055 = .ok (.iload_n 3, 1) := by decide +kernel
theorem e_La_law_1056 : decode b_La_law 1056 = .ok (.iconst 3, 1) := by decide +kernel
theorem e_La_law_1057 : decode b_La_law 1057 = .ok (.iadd, 1) := by decide +kernel
theorem e_La_law_1058 : decode b_La_law 1058 = .ok (.iaload, 1) := by decide +kernel
theorem e_La_law_1059 : decode b_La_law 1059 = .ok (.invokevirtual 144, 3) := by decide +kernel
theorem e_La_law_1062 : decode b_La_law 1062 = .ok (.aload_n 2, 1) := by decide +kernel
theorem e_La_law_1063 : decode b_La_law 1063 = .ok (.aload_n 0, 1) := by decide +kernel
theorem e_La_law_1064 : decode b_La_law 1064 = .ok (.iload_n 3, 1) := by decide +kernel
theorem e_La_law_1065 : decode b_La_law 1065 = .ok (.iconst 1, 1) := by decide +kernel
theorem e_La_law_1066 : decode b_La_law 1066 = .ok (.iadd, 1) := by decide +kernel
theorem e_La_law_1067 : decode b_La_law 1067 = .ok (.iaload, 1) := by decide +kernel
theorem e_La_law_1068 : decode b_La_law 1068 = .ok (.aload_n 0, 1) := by decide +kernel
theorem e_La_law_1069 : decode b_La_law 1069 = .ok (.iload_n 3, 1) := by decide +kernel
theorem e_La_law_1070 : decode b_La_law 1070 = .ok (.iconst 2, 1) := by decide +kernel
theorem e_La_law_1071 : decode b_La_law 1071 = .ok (.iadd, 1) := by decide +kernel
theorem e_La_law_1072 : decode b_La_law 1072 = .ok (.iaload, 1) := by decide +kernel
theorem e_La_law_1073 : decode b_La_law 1073 = .ok (.aload_n 0, 1) := by decide +kernel
theorem e_La_law_1074 : decode b_La_law 1074 = .ok (.iload_n 3, 1) := by decide +kernel
theorem e_La_law_1075 : decode b_La_law 1075 = .ok (.iconst 3, 1) := by decide +kernel
theorem e_La_law_1076 : decode b_La_law 1076 = .ok (.iadd, 1) := by decide +kernel
theorem e_La_law_1077 : decode b_La_law 1077 = .ok (.iaload, 1) := by decide +kernel
theorem e_La_law_1078 : decode b_La_law 1078 = .ok (.invokevirtual 147, 3) := by decide +kernel
theorem e_La_law_1081 : decode b_La_law 1081 = .ok (.if_icmp .eq 175, 3) := by decide +kernel
theorem e_La_law_1084 : decode b_La_law 1084 = .ok (.iconst 0, 1) := by decide +kernel
theorem e_La_law_1085 : decode b_La_law 1085 = .ok (.ireturn, 1) := by decide +kernel
theorem e_La_law_1086 : decode b_La_law 1086 = .ok (.aload_n 1, 1) := by decide +kernel
theorem e_La_law_1087 : decode b_La_law 1087 = .ok (.aload_n 0, 1) := by decide +kernel
theorem e_La_law_1088 : decode b_La_law 1088 = .ok (.iload_n 3, 1) := by decide +kernel
theorem e_La_law_1089 : decode b_La_law 1089 = .ok (.iconst 1, 1) := by decide +kernel
theorem e_La_law_1090 : decode b_La_law 1090 = .ok (.iadd, 1) := by decide +kernel
theorem e_La_law_1091 : decode b_La_law 1091 = .ok (.iaload, 1) := by decide +kernel
theorem e_La_law_1092 : decode b_La_law 1092 = .ok (.aload_n 0, 1) := by decide +kernel
theorem e_La_law_1093 : decode b_La_law 1093 = .ok (.iload_n 3, 1) := by decide +kernel
theorem e_La_law_1094 : decode b_La_law 1094 = .ok (.iconst 2, 1) := by decide +kernel
theorem e_La_law_1095 : decode b_La_law 1095 = .ok (.iadd, 1) := by decide +kernel
theorem e_La_law_1096 : decode b_La_law 1096 = .ok (.iaload, 1) := by decide +kernel
theorem e_La_law_1097 : decode b_La_law 1097 = .ok (.aload_n 0, 1) := by decide +kernel
theorem e_La_law_1098 : decode b_La_law 1098 = .ok (.iload_n 3, 1) := by decide +kernel
theorem e_La_law_1099 : decode b_La_law 1099 = .ok (.iconst 3, 1) := by decide +kernel
theorem e_La_law_1100 : decode b_La_law 1100 = .ok (.iadd, 1) := by decide +kernel
theorem e_La_law_1101 : decode b_La_law 1101 = .ok (.iaload, 1) := by decide +kernel
theorem e_La_law_1102 : decode b_La_law 1102 = .ok (.i2l, 1) := by decide +kernel
theorem e_La_law_1103 : decode b_La_law 1103 = .ok (.bipush 32, 2) := by decide +kernel
theorem e_La_law_1105 : decode b_La_law 1105 = .ok (.lshl, 1) := by decide +kernel
theorem e_La_law_1106 : decode b_La_law 1106 = .ok (.aload_n 0, 1) := by decide +kernel
theorem e_La_law_1107 : decode b_La_law 1107 = .ok (.iload_n 3, 1) := by decide +kernel
theorem e_La_law_1108 : decode b_La_law 1108 = .ok (.iconst 4, 1) := by decide +kernel
theorem e_La_law_1109 : decode b_La_law 1109 = .ok (.iadd, 1) := by decide +kernel
theorem e_La_law_1110 : decode b_La_law 1110 = .ok (.iaload, 1) := by decide +kernel
theorem e_La_law_1111 : decode b_La_law 1111 = .ok (.i2l, 1) := by decide +kernel
theorem e_La_law_1112 : decode b_La_law 1112 = .ok (.ldc2_w 148, 3) := by decide +kernel
theorem e_La_law_1115 : decode b_La_law 1115 = .ok (.land, 1) := by decide +kernel
theorem e_La_law_1116 : decode b_La_law 1116 = .ok (.lor, 1) := by decide +kernel
theorem e_La_law_1117 : decode b_La_law 1117 = .ok (.invokevirtual 150, 3) := by decide +kernel
theorem e_La_law_1120 : decode b_La_law 1120 = .ok (.aload_n 2, 1) := by decide +kernel
theorem e_La_law_1121 : decode b_La_law 1121 = .ok (.aload_n 0, 1) := by decide +kernel
theorem e_La_law_1122 : decode b_La_law 1122 = .ok (.iload_n 3, 1) := by decide +kernel
theorem e_La_law_1123 : decode b_La_law 1123 = .ok (.iconst 1, 1) := by decide +kernel
theorem e_La_law_1124 : decode b_La_law 1124 = .ok (.iadd, 1) := by decide +kernel
theorem e_La_law_1125 : decode b_La_law 1125 = .ok (.iaload, 1) := by decide +kernel
theorem e_La_law_1126 : decode b_La_law 1126 = .ok (.aload_n 0, 1) := by decide +kernel
theorem e_La_law_1127 : decode b_La_law 1127 = .ok (.iload_n 3, 1) := by decide +kernel
theorem e_La_law_1128 : decode b_La_law 1128 = .ok (.iconst 2, 1) := by decide +kernel
theorem e_La_law_1129 : decode b_La_law 1129 = .ok (.iadd, 1) := by decide +kernel
theorem e_La_law_1130 : decode b_La_law 1130 = .ok (.iaload, 1) := by decide +kernel
theorem e_La_law_1131 : decode b_La_law 1131 = .ok (.aload_n 0, 1) := by decide +kernel
theorem e_La_law_1132 : decode b_La_law 1132 = .ok (.iload_n 3, 1) := by decide +kernel
theorem e_La_law_1133 : decode b_La_law 1133 = .ok (.iconst 3, 1) := by decide +kernel
theorem e_La_law_1134 : decode b_La_law 1134 = .ok (.iadd, 1) := by decide +kernel
theorem e_La_law_1135 : decode b_La_law 1135 = .ok (.iaload, 1) := by decide +kernel
theorem e_La_law_1136 : decode b_La_law 1136 = .ok (.i2l, 1) := by decide +kernel
theorem e_La_law_1137 : decode b_La_law 1137 = .ok (.bipush 32, 2) := by decide +kernel
theorem e_La_law_1139 : decode b_La_law 1139 = .ok (.lshl, 1) := by decide +kernel
theorem e_La_law_1140 : decode b_La_law 1140 = .ok (.aload_n 0, 1) := by decide +kernel
theorem e_La_law_1141 : decode b_La_law 1141 = .ok (.iload_n 3, 1) := by decide +kernel
theorem e_La_law_1142 : decode b_La_law 1142 = .ok (.iconst 4, 1) := by decide +kernel
theorem e_La_law_1143 : decode b_La_law 1143 = .ok (.iadd, 1) := by decide +kernel
theorem e_La_law_1144 : decode b_La_law 1144 = .ok (.iaload, 1) := by decide +kernel
theorem e_La_law_1145 : decode b_La_law 1145 = .ok (.i2l, 1) := by decide +kernel
theorem e_La_law_1146 : decode b_La_law 1146 = .ok (.ldc2_w 148, 3) := by decide +kernel
theorem e_La_law_1149 : decode b_La_law 1149 = .ok (.land, 1) := by decide +kernel
theorem e_La_law_1150 : decode b_La_law 1150 = .ok (.lor, 1) := by decide +kernel
theorem e_La_law_1151 : decode b_La_law 1151 = .ok (.invokevirtual 154, 3) := by decide +kernel
theorem e_La_law_1154 : decode b_La_law 1154 = .ok (.if_icmp .eq 102, 3) := by decide +kernel
theorem e_La_law_1157 : decode b_La_law 1157 = .ok (.iconst 0, 1) := by decide +kernel
theorem e_La_law_1158 : decode b_La_law 1158 = .ok (.ireturn, 1) := by decide +kernel
theorem e_La_law_1159 : decode b_La_law 1159 = .ok (.aload_n 1, 1) := by decide +kernel
theorem e_La_law_1160 : decode b_La_law 1160 = .ok (.aload_n 0, 1) := by decide +kernel
theorem e_La_law_1161 : decode b_La_law 1161 = .ok (.iload_n 3, 1) := by decide +kernel
theorem e_La_law_1162 : decode b_La_law 1162 = .ok (.iconst 1, 1) := by decide +kernel
theorem e_La_law_1163 : decode b_La_law 1163 = .ok (.iadd, 1) := by decide +kernel
theorem e_La_law_1164 : decode b_La_law 1164 = .ok (.iaload, 1) := by decide +kernel
theorem e_La_law_1165 : decode b_La_law 1165 = .ok (.aload_n 0, 1) := by decide +kernel
theorem e_La_law_1166 : decode b_La_law 1166 = .ok (.iload_n 3, 1) := by decide +kernel
theorem e_La_law_1167 : decode b_La_law 1167 = .ok (.iconst 2, 1) := by decide +kernel
theorem e_La_law_1168 : decode b_La_law 1168 = .ok (.iadd, 1) := by decide +kernel
theorem e_La_law_1169 : decode b_La_law 1169 = .ok (.iaload, 1) := by decide +kernel
theorem e_La_law_1170 : decode b_La_law 1170 = .ok (.invokevirtual 155, 3) := by decide +kernel
theorem e_La_law_1173 : decode b_La_law 1173 = .ok (.aload_n 2, 1) := by decide +kernel
theorem e_La_law_1174 : decode b_La_law 1174 = .ok (.aload_n 0, 1) := by decide +kernel
theorem e_La_law_1175 : decode b_La_law 1175 = .ok (.iload_n 3, 1) := by decide +kernel
theorem e_La_law_1176 : decode b_La_law 1176 = .ok (.iconst 1, 1) := by decide +kernel
theorem e_La_law_1177 : decode b_La_law 1177 = .ok (.iadd, 1) := by decide +kernel
theorem e_La_law_1178 : decode b_La_law 1178 = .ok (.iaload, 1) := by decide +kernel
theorem e_La_law_1179 : decode b_La_law 1179 = .ok (.aload_n 0, 1) := by decide +kernel
theorem e_La_law_1180 : decode b_La_law 1180 = .ok (.iload_n 3, 1) := by decide +kernel
theorem e_La_law_1181 : decode b_La_law 1181 = .ok (.iconst 2, 1) := by decide +kernel
theorem e_La_law_1182 : decode b_La_law 1182 = .ok (.iadd, 1) := by decide +kernel
theorem e_La_law_1183 : decode b_La_law 1183 = .ok (.iaload, 1) := by decide +kernel
theorem e_La_law_1184 : decode b_La_law 1184 = .ok (.invokevirtual 158, 3) := by decide +kernel
theorem e_La_law_1187 : decode b_La_law 1187 = .ok (.lcmp, 1) := by decide +kernel
theorem e_La_law_1188 : decode b_La_law 1188 = .ok (.ifCond .eq 68, 3) := by decide +kernel
theorem e_La_law_1191 : decode b_La_law 1191 = .ok (.iconst 0, 1) := by decide +kernel
theorem e_La_law_1192 : decode b_La_law 1192 = .ok (.ireturn, 1) := by decide +kernel
theorem e_La_law_1193 : decode b_La_law 1193 = .ok (.aload_n 1, 1) := by decide +kernel
theorem e_La_law_1194 : decode b_La_law 1194 = .ok (.aload_n 0, 1) := by decide +kernel
theorem e_La_law_1195 : decode b_La_law 1195 = .ok (.iload_n 3, 1) := by decide +kernel
theorem e_La_law_1196 : decode b_La_law 1196 = .ok (.iconst 1, 1) := by decide +kernel
theorem e_La_law_1197 : decode b_La_law 1197 = .ok (.iadd, 1) := by decide +kernel
theorem e_La_law_1198 : decode b_La_law 1198 = .ok (.iaload, 1) := by decide +kernel
theorem e_La_law_1199 : decode b_La_law 1199 = .ok (.aload_n 0, 1) := by decide +kernel
theorem e_La_law_1200 : decode b_La_law 1200 = .ok (.iload_n 3, 1) := by decide +kernel
theorem e_La_law_1201 : decode b_La_law 1201 = .ok (.iconst 2, 1) := by decide +kernel
theorem e_La_law_1202 : decode b_La_law 1202 = .ok (.iadd, 1) := by decide +kernel
theorem e_La_law_1203 : decode b_La_law 1203 = .ok (.iaload, 1) := by decide +kernel
theorem e_La_law_1204 : decode b_La_law 1204 = .ok (.aload_n 0, 1) := by decide +kernel
theorem e_La_law_1205 : decode b_La_law 1205 = .ok (.iload_n 3, 1) := by decide +kernel
theorem e_La_law_1206 : decode b_La_law 1206 = .ok (.iconst 3, 1) := by decide +kernel
theorem e_La_law_1207 : decode b_La_law 1207 = .ok (.iadd, 1) := by decide +kernel
theorem e_La_law_1208 : decode b_La_law 1208 = .ok (.iaload, 1) := by decide +kernel
theorem e_La_law_1209 : decode b_La_law 1209 = .ok (.aload_n 0, 1) := by decide +kernel
theorem e_La_law_1210 : decode b_La_law 1210 = .ok (.iload_n 3, 1) := by decide +kernel
theorem e_La_law_1211 : decode b_La_law 1211 = .ok (.iconst 4, 1) := by decide +kernel
theorem e_La_law_1212 : decode b_La_law 1212 = .ok (.iadd, 1) := by decide +kernel
theorem e_La_law_1213 : decode b_La_law 1213 = .ok (.iaload, 1) := by decide +kernel
theorem e_La_law_1214 : decode b_La_law 1214 = .ok (.aload_n 0, 1) := by decide +kernel
theorem e_La_law_1215 : decode b_La_law 1215 = .ok (.iload_n 3, 1) := by decide +kernel
theorem e_La_law_1216 : decode b_La_law 1216 = .ok (.iconst 5, 1) := by decide +kernel
theorem e_La_law_1217 : decode b_La_law 1217 = .ok (.iadd, 1) := by decide +kernel
theorem e_La_law_1218 : decode b_La_law 1218 = .ok (.iaload, 1) := by decide +kernel
theorem e_La_law_1219 : decode b_La_law 1219 = .ok (.invokevirtual 159, 3) := by decide +kernel
theorem e_La_law_1222 : decode b_La_law 1222 = .ok (.aload_n 2, 1) := by decide +kernel
theorem e_La_law_1223 : decode b_La_law 1223 = .ok (.aload_n 0, 1) := by decide +kernel
theorem e_La_law_1224 : decode b_La_law 1224 = .ok (.iload_n 3, 1) := by decide +kernel
theorem e_La_law_1225 : decode b_La_law 1225 = .ok (.iconst 1, 1) := by decide +kernel
theorem e_La_law_1226 : decode b_La_law 1226 = .ok (.iadd, 1) := by decide +kernel
theorem e_La_law_1227 : decode b_La_law 1227 = .ok (.iaload, 1) := by decide +kernel
theorem e_La_law_1228 : decode b_La_law 1228 = .ok (.aload_n 0, 1) := by decide +kernel
theorem e_La_law_1229 : decode b_La_law 1229 = .ok (.iload_n 3, 1) := by decide +kernel
theorem e_La_law_1230 : decode b_La_law 1230 = .ok (.iconst 2, 1) := by decide +kernel
theorem e_La_law_1231 : decode b_La_law 1231 = .ok (.iadd, 1) := by decide +kernel
theorem e_La_law_1232 : decode b_La_law 1232 = .ok (.iaload, 1) := by decide +kernel
theorem e_La_law_1233 : decode b_La_law 1233 = .ok (.aload_n 0, 1) := by decide +kernel
theorem e_La_law_1234 : decode b_La_law 1234 = .ok (.iload_n 3, 1) := by decide +kernel
theorem e_La_law_1235 : decode b_La_law 1235 = .ok (.iconst 3, 1) := by decide +kernel
theorem e_La_law_1236 : decode b_La_law 1236 = .ok (.iadd, 1) := by decide +kernel
theorem e_La_law_1237 : decode b_La_law 1237 = .ok (.iaload, 1) := by decide +kernel
theorem e_La_law_1238 : decode b_La_law 1238 = .ok (.aload_n 0, 1) := by decide +kernel
theorem e_La_law_1239 : decode b_La_law 1239 = .ok (.iload_n 3, 1) := by decide +kernel
theorem e_La_law_1240 : decode b_La_law 1240 = .ok (.iconst 4, 1) := by decide +kernel
theorem e_La_law_1241 : decode b_La_law 1241 = .ok (.iadd, 1) := by decide +kernel
theorem e_La_law_1242 : decode b_La_law 1242 = .ok (.iaload, 1) := by decide +kernel
theorem e_La_law_1243 : decode b_La_law 1243 = .ok (.aload_n 0, 1) := by decide +kernel
theorem e_La_law_1244 : decode b_La_law 1244 = .ok (.iload_n 3, 1) := by decide +kernel
theorem e_La_law_1245 : decode b_La_law 1245 = .ok (.iconst 5, 1) := by decide +kernel
theorem e_La_law_1246 : decode b_La_law 1246 = .ok (.iadd, 1) := by decide +kernel
theorem e_La_law_1247 : decode b_La_law 1247 = .ok (.iaload, 1) := by decide +kernel
theorem e_La_law_1248 : decode b_La_law 1248 = .ok (.invokevirtual 163, 3) := by decide +kernel
theorem e_La_law_1251 : decode b_La_law 1251 = .ok (.if_icmp .eq 5, 3) := by decide +kernel
theorem e_La_law_1254 : decode b_La_law 1254 = .ok (.iconst 0, 1) := by decide +kernel
theorem e_La_law_1255 : decode b_La_law 1255 = .ok (.ireturn, 1) := by decide +kernel
theorem e_La_law_1256 : decode b_La_law 1256 = .ok (.iinc 3 6, 3) := by decide +kernel
theorem e_La_law_1259 : decode b_La_law 1259 = .ok (.goto (-1241), 3) := by decide +kernel
theorem e_La_law_1262 : decode b_La_law 1262 = .ok (.iconst 1, 1) := by decide +kernel
theorem e_La_law_1263 : decode b_La_law 1263 = .ok (.ireturn, 1) := by decide +kernel
