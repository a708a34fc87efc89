theorem e_Mo_weigh_0 : decode b_Mo_weigh 0 = .ok (.aload_n 0, 1) := by decide +kernel
theorem e_Mo_weigh_1 : decode b_Mo_weigh 1 = .ok (.iload_n 1, 1) := by decide +kernel
theorem e_Mo_weigh_2 : decode b_Mo_weigh 2 = .ok (.invokevirtual 257, 3) := by decide +kernel
theorem e_Mo_weigh_5 : decode b_Mo_weigh 5 = .ok (.ifCond .ne 5, 3) := by decide +kernel
theorem e_Mo_weigh_8 : decode b_Mo_weigh 8 = .ok (.iconst (-1), 1) := by decide +kernel
theorem e_Mo_weigh_9 : decode b_Mo_weigh 9 = .ok (.ireturn, 1) := by decide +kernel
theorem e_Mo_weigh_10 : decode b_Mo_weigh 10 = .ok (.aload_n 0, 1) := by decide +kernel
theorem e_Mo_weigh_11 : decode b_Mo_weigh 11 = .ok (.iload_n 2, 1) := by decide +kernel
theorem e_Mo_weigh_12 : decode b_Mo_weigh 12 = .ok (.invokevirtual 253, 3) := by decide +kernel
theorem e_Mo_weigh_15 : decode b_Mo_weigh 15 = .ok (.ifCond .ne 6, 3) := by decide +kernel
theorem e_Mo_weigh_18 : decode b_Mo_weigh 18 = .ok (.bipush (-2), 2) := by decide +kernel
theorem e_Mo_weigh_20 : decode b_Mo_weigh 20 = .ok (.ireturn, 1) := by decide +kernel
theorem e_Mo_weigh_21 : decode b_Mo_weigh 21 = .ok (.aload_n 0, 1) := by decide +kernel
theorem e_Mo_weigh_22 : decode b_Mo_weigh 22 = .ok (.getfield 33, 3) := by decide +kernel
theorem e_Mo_weigh_25 : decode b_Mo_weigh 25 = .ok (.iload_n 1, 1) := by decide +kernel
theorem e_Mo_weigh_26 : decode b_Mo_weigh 26 = .ok (.iaload, 1) := by decide +kernel
theorem e_Mo_weigh_27 : decode b_Mo_weigh 27 = .ok (.istore_n 3, 1) := by decide +kernel
theorem e_Mo_weigh_28 : decode b_Mo_weigh 28 = .ok (.aload_n 0, 1) := by decide +kernel
theorem e_Mo_weigh_29 : decode b_Mo_weigh 29 = .ok (.getfield 33, 3) := by decide +kernel
theorem e_Mo_weigh_32 : decode b_Mo_weigh 32 = .ok (.iload_n 1, 1) := by decide +kernel
theorem e_Mo_weigh_33 : decode b_Mo_weigh 33 = .ok (.iload_n 2, 1) := by decide +kernel
theorem e_Mo_weigh_34 : decode b_Mo_weigh 34 = .ok (.iastore, 1) := by decide +kernel
theorem e_Mo_weigh_35 : decode b_Mo_weigh 35 = .ok (.iload_n 3, 1) := by decide +kernel
theorem e_Mo_weigh_36 : decode b_Mo_weigh 36 = .ok (.ireturn, 1) := by decide +kernel
theorem e_Mo_fire_0 : decode b_Mo_fire 0 = .ok (.aload_n 0, 1) := by decide +kernel
theorem e_Mo_fire_1 : decode b_Mo_fire 1 = .ok (.iload_n 1, 1) := by decide +kernel
theorem e_Mo_fire_2 : decode b_Mo_fire 2 = .ok (.iconst 0, 1) := by decide +kernel
theorem e_Mo_fire_3 : decode b_Mo_fire 3 = .ok (.bipush 9, 2) := by decide +kernel
theorem e_Mo_fire_5 : decode b_Mo_fire 5 = .ok (.invokevirtual 249, 3) := by decide +kernel
theorem e_Mo_fire_8 : decode b_Mo_fire 8 = .ok (.ifCond .ne 6, 3) := by decide +kernel
theorem e_Mo_fire_11 : decode b_Mo_fire 11 = .ok (.bipush (-2), 2) := by decide +kernel
theorem e_Mo_fire_13 : decode b_Mo_fire 13 = .ok (.ireturn, 1) := by decide +kernel
theorem e_Mo_fire_14 : decode b_Mo_fire 14 = .ok (.aload_n 0, 1) := by decide +kernel
theorem e_Mo_fire_15 : decode b_Mo_fire 15 = .ok (.getfield 13, 3) := by decide +kernel
theorem e_Mo_fire_18 : decode b_Mo_fire 18 = .ok (.istore_n 2, 1) := by decide +kernel
theorem e_Mo_fire_19 : decode b_Mo_fire 19 = .ok (.aload_n 0, 1) := by decide +kernel
theorem e_Mo_fire_20 : decode b_Mo_fire 20 = .ok (.iload_n 1, 1) := by decide +kernel
theorem e_Mo_fire_21 : decode b_Mo_fire 21 = .ok (.putfield 13, 3) := by decide +kernel
theorem e_Mo_fire_24 : decode b_Mo_fire 24 = .ok (.iload_n 2, 1) := by decide +kernel
theorem e_Mo_fire_25 : decode b_Mo_fire 25 = .ok (.ireturn, 1) := by decide +kernel
theorem e_Mo_tip_0 : decode b_Mo_tip 0 = .ok (.aload_n 0, 1) := by decide +kernel
theorem e_Mo_tip_1 : decode b_Mo_tip 1 = .ok (.aload_n 0, 1) := by decide +kernel
theorem e_Mo_tip_2 : decode b_Mo_tip 2 = .ok (.iconst 1, 1) := by decide +kernel
theorem e_Mo_tip_3 : decode b_Mo_tip 3 = .ok (.invokevirtual 264, 3) := by decide +kernel
theorem e_Mo_tip_6 : decode b_Mo_tip 6 = .ok (.invokevirtual 268, 3) := by decide +kernel
theorem e_Mo_tip_9 : decode b_Mo_tip 9 = .ok (.istore_n 1, 1) := by decide +kernel
theorem e_Mo_tip_10 : decode b_Mo_tip 10 = .ok (.iconst 0, 1) := by decide +kernel
theorem e_Mo_tip_11 : decode b_Mo_tip 11 = .ok (.istore_n 2, 1) := by decide +kernel
theorem e_Mo_tip_12 : decode b_Mo_tip 12 = .ok (.iload_n 2, 1) := by decide +kernel
theorem e_Mo_tip_13 : decode b_Mo_tip 13 = .ok (.aload_n 0, 1) := by decide +kernel
theorem e_Mo_tip_14 : decode b_Mo_tip 14 = .ok (.getfield 7, 3) := by decide +kernel
theorem e_Mo_tip_17 : decode b_Mo_tip 17 = .ok (.if_icmp .ge 26, 3) := by decide +kernel
theorem e_Mo_tip_20 : decode b_Mo_tip 20 = .ok (.aload_n 0, 1) := by decide +kernel
theorem e_Mo_tip_21 : decode b_Mo_tip 21 = .ok (.getfield 39, 3) := by decide +kernel
theorem e_Mo_tip_24 : decode b_Mo_tip 24 = .ok (.iload_n 2, 1) := by decide +kernel
theorem e_Mo_tip_25 : decode b_Mo_tip 25 = .ok (.iaload, 1) := by decide +kernel
theorem e_Mo_tip_26 : decode b_Mo_tip 26 = .ok (.iconst 1, 1) := by decide +kernel
theorem e_Mo_tip_27 : decode b_Mo_tip 27 = .ok (.if_icmp .ne 10, 3) := by decide +kernel
theorem e_Mo_tip_30 : decode b_Mo_tip 30 = .ok (.aload_n 0, 1) := by decide +kernel
theorem e_Mo_tip_31 : decode b_Mo_tip 31 = .ok (.getfield 39, 3) := by decide +kernel
theorem e_Mo_tip_34 : decode b_Mo_tip 34 = .ok (.iload_n 2, 1) := by decide +kernel
theorem e_Mo_tip_35 : decode b_Mo_tip 35 = .ok (.iconst 0, 1) := by decide +kernel
theorem e_Mo_tip_36 : decode b_Mo_tip 36 = .ok (.iastore, 1) := by decide +kernel
theorem e_Mo_tip_37 : decode b_Mo_tip 37 = .ok (.iinc 2 1, 3) := by decide +kernel
theorem e_Mo_tip_40 : decode b_Mo_tip 40 = .ok (.goto (-28), 3) := by decide +kernel
theorem e_Mo_tip_43 : decode b_Mo_tip 43 = .ok (.aload_n 0, 1) := by decide +kernel
theorem e_Mo_tip_44 : decode b_Mo_tip 44 = .ok (.iconst 0, 1) := by decide +kernel
theorem e_Mo_tip_45 : decode b_Mo_tip 45 = .ok (.putfield 16, 3) := by decide +kernel
theorem e_Mo_tip_48 : decode b_Mo_tip 48 = .ok (.aload_n 0, 1) := by decide +kernel
theorem e_Mo_tip_49 : decode b_Mo_tip 49 = .ok (.iconst 0, 1) := by decide +kernel
theorem e_Mo_tip_50 : decode b_Mo_tip 50 = .ok (.putfield 22, 3) := by decide +kernel
theorem e_Mo_tip_53 : decode b_Mo_tip 53 = .ok (.iload_n 1, 1) := by decide +kernel
theorem e_Mo_tip_54 : decode b_Mo_tip 54 = .ok (.ireturn, 1) := by decide +kernel
theorem e_Mo_row_0 : decode b_Mo_row 0 = .ok (.aload_n 0, 1) := by decide +kernel
theorem e_Mo_row_1 : decode b_Mo_row 1 = .ok (.iload_n 1, 1) := by decide +kernel
theorem e_Mo_row_2 : decode b_Mo_row 2 = .ok (.invokevirtual 257, 3) := by decide +kernel
theorem e_Mo_row_5 : decode b_Mo_row 5 = .ok (.ifCond .eq 13, 3) := by decide +kernel
theorem e_Mo_row_8 : decode b_Mo_row 8 = .ok (.aload_n 0, 1) := by decide +kernel
theorem e_Mo_row_9 : decode b_Mo_row 9 = .ok (.iload_n 2, 1) := by decide +kernel
theorem e_Mo_row_10 : decode b_Mo_row 10 = .ok (.iconst 0, 1) := by decide +kernel
theorem e_Mo_row_11 : decode b_Mo_row 11 = .ok (.iconst 3, 1) := by decide +kernel
theorem e_Mo_row_12 : decode b_Mo_row 12 = .ok (.invokevirtual 249, 3) := by decide +kernel
theorem e_Mo_row_15 : decode b_Mo_row 15 = .ok (.ifCond .ne 5, 3) := by decide +kernel
theorem e_Mo_row_18 : decode b_Mo_row 18 = .ok (.iconst (-1), 1) := by decide +kernel
theorem e_Mo_row_19 : decode b_Mo_row 19 = .ok (.ireturn, 1) := by decide +kernel
theorem e_Mo_row_20 : decode b_Mo_row 20 = .ok (.aload_n 0, 1) := by decide +kernel
theorem e_Mo_row_21 : decode b_Mo_row 21 = .ok (.iload_n 3, 1) := by decide +kernel
theorem e_Mo_row_22 : decode b_Mo_row 22 = .ok (.iconst 0, 1) := by decide +kernel
theorem e_Mo_row_23 : decode b_Mo_row 23 = .ok (.bipush 9, 2) := by decide +kernel
theorem e_Mo_row_25 : decode b_Mo_row 25 = .ok (.invokevirtual 249, 3) := by decide +kernel
theorem e_Mo_row_28 : decode b_Mo_row 28 = .ok (.ifCond .ne 6, 3) := by decide +kernel
theorem e_Mo_row_31 : decode b_Mo_row 31 = .ok (.bipush (-2), 2) := by decide +kernel
theorem e_Mo_row_33 : decode b_Mo_row 33 = .ok (.ireturn, 1) := by decide +kernel
theorem e_Mo_row_34 : decode b_Mo_row 34 = .ok (.aload_n 0, 1) := by decide +kernel
theorem e_Mo_row_35 : decode b_Mo_row 35 = .ok (.getfield 26, 3) := by decide +kernel
theorem e_Mo_row_38 : decode b_Mo_row 38 = .ok (.iload_n 1, 1) := by decide +kernel
theorem e_Mo_row_39 : decode b_Mo_row 39 = .ok (.iaload, 1) := by decide +kernel
theorem e_Mo_row_40 : decode b_Mo_row 40 = .ok (.bipush 6, 2) := by decide +kernel
theorem e_Mo_row_42 : decode b_Mo_row 42 = .ok (.if_icmp .eq 6, 3) := by decide +kernel
theorem e_Mo_row_45 : decode b_Mo_row 45 = .ok (.bipush (-3), 2) := by decide +kernel
theorem e_Mo_row_47 : decode b_Mo_row 47 = .ok (.ireturn, 1) := by decide +kernel
theorem e_Mo_row_48 : decode b_Mo_row 48 = .ok (.aload_n 0, 1) := by decide +kernel
theorem e_Mo_row_49 : decode b_Mo_row 49 = .ok (.getfield 45, 3) := by decide +kernel
theorem e_Mo_row_52 : decode b_Mo_row 52 = .ok (.iconst 4, 1) := by decide +kernel
theorem e_Mo_row_53 : decode b_Mo_row 53 = .ok (.iload_n 1, 1) := by decide +kernel
theorem e_Mo_row_54 : decode b_Mo_row 54 = .ok (.imul, 1) := by decide +kernel
theorem e_Mo_row_55 : decode b_Mo_row 55 = .ok (.iload_n 2, 1) := by decide +kernel
theorem e_Mo_row_56 : decode b_Mo_row 56 = .ok (.iadd, 1) := by decide +kernel
theorem e_Mo_row_57 : decode b_Mo_row 57 = .ok (.iaload, 1) := by decide +kernel
theorem e_Mo_row_58 : decode b_Mo_row 58 = .ok (.istore 4, 2) := by decide +kernel
theorem e_Mo_row_60 : decode b_Mo_row 60 = .ok (.aload_n 0, 1) := by decide +kernel
theorem e_Mo_row_61 : decode b_Mo_row 61 = .ok (.getfield 45, 3) := by decide +kernel
theorem e_Mo_row_64 : decode b_Mo_row 64 = .ok (.iconst 4, 1) := by decide +kernel
theorem e_Mo_row_65 : decode b_Mo_row 65 = .ok (.iload_n 1, 1) := by decide +kernel
theorem e_Mo_row_66 : decode b_Mo_row 66 = .ok (.imul, 1) := by decide +kernel
theorem e_Mo_row_67 : decode b_Mo_row 67 = .ok (.iload_n 2, 1) := by decide +kernel
theorem e_Mo_row_68 : decode b_Mo_row 68 = .ok (.iadd, 1) := by decide +kernel
theorem e_Mo_row_69 : decode b_Mo_row 69 = .ok (.iload_n 3, 1) := by decide +kernel
theorem e_Mo_row_70 : decode b_Mo_row 70 = .ok (.iastore, 1) := by decide +kernel
theorem e_Mo_row_71 : decode b_Mo_row 71 = .ok (.iload 4, 2) := by decide +kernel
theorem e_Mo_row_73 : decode b_Mo_row 73 = .ok (.ireturn, 1) := by decide +kernel
theorem e_Mo_feed_0 : decode b_Mo_feed 0 = .ok (.aload_n 0, 1) := by decide +kernel
theorem e_Mo_feed_1 : decode b_Mo_feed 1 = .ok (.iload_n 1, 1) := by decide +kernel
theorem e_Mo_feed_2 : decode b_Mo_feed 2 = .ok (.iconst 0, 1) := by decide +kernel
theorem e_Mo_feed_3 : decode b_Mo_feed 3 = .ok (.bipush 127, 2) := by decide +kernel
theorem e_Mo_feed_5 : decode b_Mo_feed 5 = .ok (.invokevirtual 249, 3) := by decide +kernel
theorem e_Mo_feed_8 : decode b_Mo_feed 8 = .ok (.ifCond .ne 6, 3) := by decide +kernel
theorem e_Mo_feed_11 : decode b_Mo_feed 11 = .ok (.bipush (-2), 2) := by decide +kernel
theorem e_Mo_feed_13 : decode b_Mo_feed 13 = .ok (.ireturn, 1) := by decide +kernel
theorem e_Mo_feed_14 : decode b_Mo_feed 14 = .ok (.aload_n 0, 1) := by decide +kernel
theorem e_Mo_feed_15 : decode b_Mo_feed 15 = .ok (.getfield 54, 3) := by decide +kernel
theorem e_Mo_feed_18 : decode b_Mo_feed 18 = .ok (.bipush 100, 2) := by decide +kernel
theorem e_Mo_feed_20 : decode b_Mo_feed 20 = .ok (.if_icmp .ne 6, 3) := by decide +kernel
theorem e_Mo_feed_23 : decode b_Mo_feed 23 = .ok (.bipush (-4), 2) := by decide +kernel
theorem e_Mo_feed_25 : decode b_Mo_feed 25 = .ok (.ireturn, 1) := by decide +kernel
theorem e_Mo_feed_26 : decode b_Mo_feed 26 = .ok (.aload_n 0, 1) := by decide +kernel
theorem e_Mo_feed_27 : decode b_Mo_feed 27 = .ok (.getfield 63, 3) := by decide +kernel
theorem e_Mo_feed_30 : decode b_Mo_feed 30 = .ok (.aload_n 0, 1) := by decide +kernel
theorem e_Mo_feed_31 : decode b_Mo_feed 31 = .ok (.getfield 54, 3) := by decide +kernel
theorem e_Mo_feed_34 : decode b_Mo_feed 34 = .ok (.iload_n 1, 1) := by decide +kernel
theorem e_Mo_feed_35 : decode b_Mo_feed 35 = .ok (.iastore, 1) := by decide +kernel
theorem e_Mo_feed_36 : decode b_Mo_feed 36 = .ok (.aload_n 0, 1) := by decide +kernel
theorem e_Mo_feed_37 : decode b_Mo_feed 37 = .ok (.dup, 1) := by decide +kernel
theorem e_Mo_feed_38 : decode b_Mo_feed 38 = .ok (.getfield 54, 3) := by decide +kernel
theorem e_Mo_feed_41 : decode b_Mo_feed 41 = .ok (.iconst 1, 1) := by decide +kernel
theorem e_Mo_feed_42 : decode b_Mo_feed 42 = .ok (.iadd, 1) := by decide +kernel
theorem e_Mo_feed_43 : decode b_Mo_feed 43 = .ok (.putfield 54, 3) := by decide +kernel
theorem e_Mo_feed_46 : decode b_Mo_feed 46 = .ok (.aload_n 0, 1) := by decide +kernel
theorem e_Mo_feed_47 : decode b_Mo_feed 47 = .ok (.getfield 54, 3) := by decide +kernel
theorem e_Mo_feed_50 : decode b_Mo_feed 50 = .ok (.ireturn, 1) := by decide +kernel
theorem e_Mo_next_0 : decode b_Mo_next 0 = .ok (.aload_n 0, 1) := by decide +kernel
theorem e_Mo_next_1 : decode b_Mo_next 1 = .ok (.getfield 57, 3) := by decide +kernel
theorem e_Mo_next_4 : decode b_Mo_next 4 = .ok (.aload_n 0, 1) := by decide +kernel
theorem e_Mo_next_5 : decode b_Mo_next 5 = .ok (.getfield 54, 3) := by decide +kernel
theorem e_Mo_next_8 : decode b_Mo_next 8 = .ok (.if_icmp .ge 15, 3) := by decide +kernel
theorem e_Mo_next_11 : decode b_Mo_next 11 = .ok (.aload_n 0, 1) := by decide +kernel
theorem e_Mo_next_12 : decode b_Mo_next 12 = .ok (.getfield 63, 3) := by decide +kernel
theorem e_Mo_next_15 : decode b_Mo_next 15 = .ok (.aload_n 0, 1) := by decide +kernel
theorem e_Mo_next_16 : decode b_Mo_next 16 = .ok (.getfield 57, 3) := by decide +kernel
theorem e_Mo_next_19 : decode b_Mo_next 19 = .ok (.iaload, 1) := by decide +kernel
theorem e_Mo_next_20 : decode b_Mo_next 20 = .ok (.goto 4, 3) := by decide +kernel
theorem e_Mo_next_23 : decode b_Mo_next 23 = .ok (.iconst (-1), 1) := by decide +kernel
theorem e_Mo_next_24 : decode b_Mo_next 24 = .ok (.ireturn, 1) := by decide +kernel
theorem e_Mo_takes_0 : decode b_Mo_takes 0 = .ok (.aload_n 0, 1) := by decide +kernel
theorem e_Mo_takes_1 : decode b_Mo_takes 1 = .ok (.invokevirtual 274, 3) := by decide +kernel
theorem e_Mo_takes_4 : decode b_Mo_takes 4 = .ok (.iload_n 1, 1) := by decide +kernel
theorem e_Mo_takes_5 : decode b_Mo_takes 5 = .ok (.if_icmp .eq 5, 3) := by decide +kernel
theorem e_Mo_takes_8 : decode b_Mo_takes 8 = .ok (.iconst 0, 1) := by decide +kernel
theorem e_Mo_takes_9 : decode b_Mo_takes 9 = .ok (.ireturn, 1) := by decide +kernel
theorem e_Mo_takes_10 : decode b_Mo_takes 10 = .ok (.aload_n 0, 1) := by decide +kernel
theorem e_Mo_takes_11 : decode b_Mo_takes 11 = .ok (.dup, 1) := by decide +kernel
theorem e_Mo_takes_12 : decode b_Mo_takes 12 = .ok (.getfield 57, 3) := by decide +kernel
theorem e_Mo_takes_15 : decode b_Mo_takes 15 = .ok (.iconst 1, 1) := by decide +kernel
theorem e_Mo_takes_16 : decode b_Mo_takes 16 = .ok (.iadd, 1) := by decide +kernel
theorem e_Mo_takes_17 : decode b_Mo_takes 17 = .ok (.putfield 57, 3) := by decide +kernel
theorem e_Mo_takes_20 : decode b_Mo_takes 20 = .ok (.iconst 1, 1) := by decide +kernel
theorem e_Mo_takes_21 : decode b_Mo_takes 21 = .ok (.ireturn, 1) := by decide +kernel
theorem e_Mo_takesWord_0 : decode b_Mo_takesWord 0 = .ok (.iconst 0, 1) := by decide +kernel
theorem e_Mo_takesWord_1 : decode b_Mo_takesWord 1 = .ok (.istore_n 3, 1) := by decide +kernel
theorem e_Mo_takesWord_2 : decode b_Mo_takesWord 2 = .ok (.iload_n 3, 1) := by decide +kernel
theorem e_Mo_takesWord_3 : decode b_Mo_takesWord 3 = .ok (.iload_n 2, 1) := by decide +kernel
theorem e_Mo_takesWord_4 : decode b_Mo_takesWord 4 = .ok (.if_icmp .ge 26, 3) := by decide +kernel
theorem e_Mo_takesWord_7 : decode b_Mo_takesWord 7 = .ok (.aload_n 0, 1) := by decide +kernel
theorem e_Mo_takesWord_8 : decode b_Mo_takesWord 8 = .ok (.aload_n 0, 1) := by decide +kernel
theorem e_Mo_takesWord_9 : decode b_Mo_takesWord 9 = .ok (.getfield 96, 3) := by decide +kernel
theorem e_Mo_takesWord_12 : decode b_Mo_takesWord 12 = .ok (.iload_n 1, 1) := by decide +kernel
theorem e_Mo_takesWord_13 : decode b_Mo_takesWord 13 = .ok (.iload_n 3, 1) := by decide +kernel
theorem e_Mo_takesWord_14 : decode b_Mo_takesWord 14 = .ok (.iadd, 1) := by decide +kernel
theorem e_Mo_takesWord_15 : decode b_Mo_takesWord 15 = .ok (.iaload, 1) := by decide +kernel
theorem e_Mo_takesWord_16 : decode b_Mo_takesWord 16 = .ok (.invokevirtual 278, 3) := by decide +kernel
theorem e_Mo_takesWord_19 : decode b_Mo_takesWord 19 = .ok (.ifCond .ne 5, 3) := by decide +kernel
theorem e_Mo_takesWord_22 : decode b_Mo_takesWord 22 = .ok (.iconst 0, 1) := by decide +kernel
theorem e_Mo_takesWord_23 : decode b_Mo_takesWord 23 = .ok (.ireturn, 1) := by decide +kernel
theorem e_Mo_takesWord_24 : decode b_Mo_takesWord 24 = .ok (.iinc 3 1, 3) := by decide +kernel
theorem e_Mo_takesWord_27 : decode b_Mo_takesWord 27 = .ok (.goto (-25), 3) := by decide +kernel
theorem e_Mo_takesWord_30 : decode b_Mo_takesWord 30 = .ok (.aload_n 0, 1) := by decide +kernel
theorem e_Mo_takesWord_31 : decode b_Mo_takesWord 31 = .ok (.bipush 32, 2) := by decide +kernel
theorem e_Mo_takesWord_33 : decode b_Mo_takesWord 33 = .ok (.invokevirtual 278, 3) := by decide +kernel
theorem e_Mo_takesWord_36 : decode b_Mo_takesWord 36 = .ok (.ireturn, 1) := by decide +kernel
theorem e_Mo_isDigit_0 : decode b_Mo_isDigit 0 = .ok (.aload_n 0, 1) := by decide +kernel
theorem e_Mo_isDigit_1 : decode b_Mo_isDigit 1 = .ok (.aload_n 0, 1) := by decide +kernel
theorem e_Mo_isDigit_2 : decode b_Mo_isDigit 2 = .ok (.invokevirtual 274, 3) := by decide +kernel
theorem e_Mo_isDigit_5 : decode b_Mo_isDigit 5 = .ok (.bipush 48, 2) := by decide +kernel
theorem e_Mo_isDigit_7 : decode b_Mo_isDigit 7 = .ok (.bipush 57, 2) := by decide +kernel
theorem e_Mo_isDigit_9 : decode b_Mo_isDigit 9 = .ok (.invokevirtual 249, 3) := by decide +kernel
theorem e_Mo_isDigit_12 : decode b_Mo_isDigit 12 = .ok (.ireturn, 1) := by decide +kernel
theorem e_Mo_takesNumber_0 : decode b_Mo_takesNumber 0 = .ok (.aload_n 0, 1) := by decide +kernel
theorem e_Mo_takesNumber_1 : decode b_Mo_takesNumber 1 = .ok (.invokevirtual 281, 3) := by decide +kernel
theorem e_Mo_takesNumber_4 : decode b_Mo_takesNumber 4 = .ok (.ifCond .ne 5, 3) := by decide +kernel
theorem e_Mo_takesNumber_7 : decode b_Mo_takesNumber 7 = .ok (.iconst 0, 1) := by decide +kernel
theorem e_Mo_takesNumber_8 : decode b_Mo_takesNumber 8 = .ok (.ireturn, 1) := by decide +kernel
theorem e_Mo_takesNumber_9 : decode b_Mo_takesNumber 9 = .ok (.aload_n 0, 1) := by decide +kernel
theorem e_Mo_takesNumber_10 : decode b_Mo_takesNumber 10 = .ok (.iconst 0, 1) := by decide +kernel
theorem e_Mo_takesNumber_11 : decode b_Mo_takesNumber 11 = .ok (.putfield 60, 3) := by decide +kernel
theorem e_Mo_takesNumber_14 : decode b_Mo_takesNumber 14 = .ok (.iconst 0, 1) := by decide +kernel
theorem e_Mo_takesNumber_15 : decode b_Mo_takesNumber 15 = .ok (.istore_n 1, 1) := by decide +kernel
theorem e_Mo_takesNumber_16 : decode b_Mo_takesNumber 16 = .ok (.iload_n 1, 1) := by decide +kernel
theorem e_Mo_takesNumber_17 : decode b_Mo_takesNumber 17 = .ok (.iconst 2, 1) := by decide +kernel
theorem e_Mo_takesNumber_18 : decode b_Mo_takesNumber 18 = .ok (.if_icmp .ge 45, 3) := by decide +kernel
theorem e_Mo_takesNumber_21 : decode b_Mo_takesNumber 21 = .ok (.aload_n 0, 1) := by decide +kernel
theorem e_Mo_takesNumber_22 : decode b_Mo_takesNumber 22 = .ok (.invokevirtual 281, 3) := by decide +kernel
theorem e_Mo_takesNumber_25 : decode b_Mo_takesNumber 25 = .ok (.ifCond .eq 38, 3) := by decide +kernel
theorem e_Mo_takesNumber_28 : decode b_Mo_takesNumber 28 = .ok (.aload_n 0, 1) := by decide +kernel
theorem e_Mo_takesNumber_29 : decode b_Mo_takesNumber 29 = .ok (.bipush 10, 2) := by decide +kernel
theorem e_Mo_takesNumber_31 : decode b_Mo_takesNumber 31 = .ok (.aload_n 0, 1) := by decide +kernel
theorem e_Mo_takesNumber_32 : decode b_Mo_takesNumber 32 = .ok (.getfield 60, 3) := by decide +kernel
theorem e_Mo_takesNumber_35 : decode b_Mo_takesNumber 35 = .ok (.imul, 1) := by decide +kernel
theorem e_Mo_takesNumber_36 : decode b_Mo_takesNumber 36 = .ok (.aload_n 0, 1) := by decide +kernel
theorem e_Mo_takesNumber_37 : decode b_Mo_takesNumber 37 = .ok (.invokevirtual 274, 3) := by decide +kernel
theorem e_Mo_takesNumber_40 : decode b_Mo_takesNumber 40 = .ok (.iadd, 1) := by decide +kernel
theorem e_Mo_takesNumber_41 : decode b_Mo_takesNumber 41 = .ok (.bipush 48, 2) := by decide +kernel
theorem e_Mo_takesNumber_43 : decode b_Mo_takesNumber 43 = .ok (.isub, 1) := by decide +kernel
theorem e_Mo_takesNumber_44 : decode b_Mo_takesNumber 44 = .ok (.putfield 60, 3) := by decide +kernel
theorem e_Mo_takesNumber_47 : decode b_Mo_takesNumber 47 = .ok (.aload_n 0, 1) := by decide +kernel
theorem e_Mo_takesNumber_48 : decode b_Mo_takesNumber 48 = .ok (.dup, 1) := by decide +kernel
theorem e_Mo_takesNumber_49 : decode b_Mo_takesNumber 49 = .ok (.getfield 57, 3) := by decide +kernel
theorem e_Mo_takesNumber_52 : decode b_Mo_takesNumber 52 = .ok (.iconst 1, 1) := by decide +kernel
theorem e_Mo_takesNumber_53 : decode b_Mo_takesNumber 53 = .ok (.iadd, 1) := by decide +kernel
theorem e_Mo_takesNumber_54 : decode b_Mo_takesNumber 54 = .ok (.putfield 57, 3) := by decide +kernel
theorem e_Mo_takesNumber_57 : decode b_Mo_takesNumber 57 = .ok (.iinc 1 1, 3) := by decide +kernel
theorem e_Mo_takesNumber_60 : decode b_Mo_takesNumber 60 = .ok (.goto (-44), 3) := by decide +kernel
theorem e_Mo_takesNumber_63 : decode b_Mo_takesNumber 63 = .ok (.iconst 1, 1) := by decide +kernel
theorem e_Mo_takesNumber_64 : decode b_Mo_takesNumber 64 = .ok (.ireturn, 1) := by decide +kernel
theorem e_Mo_emits_0 : decode b_Mo_emits 0 = .ok (.aload_n 0, 1) := by decide +kernel
theorem e_Mo_emits_1 : decode b_Mo_emits 1 = .ok (.getfield 81, 3) := by decide +kernel
theorem e_Mo_emits_4 : decode b_Mo_emits 4 = .ok (.aload_n 0, 1) := by decide +kernel
theorem e_Mo_emits_5 : decode b_Mo_emits 5 = .ok (.getfield 87, 3) := by decide +kernel
theorem e_Mo_emits_8 : decode b_Mo_emits 8 = .ok (.iload_n 1, 1) := by decide +kernel
theorem e_Mo_emits_9 : decode b_Mo_emits 9 = .ok (.iastore, 1) := by decide +kernel
theorem e_Mo_emits_10 : decode b_Mo_emits 10 = .ok (.aload_n 0, 1) := by decide +kernel
theorem e_Mo_emits_11 : decode b_Mo_emits 11 = .ok (.dup, 1) := by decide +kernel
theorem e_Mo_emits_12 : decode b_Mo_emits 12 = .ok (.getfield 87, 3) := by decide +kernel
theorem e_Mo_emits_15 : decode b_Mo_emits 15 = .ok (.iconst 1, 1) := by decide +kernel
theorem e_Mo_emits_16 : decode b_Mo_emits 16 = .ok (.iadd, 1) := by decide +kernel
theorem e_Mo_emits_17 : decode b_Mo_emits 17 = .ok (.putfield 87, 3) := by decide +kernel
theorem e_Mo_emits_20 : decode b_Mo_emits 20 = .ok (.return_, 1) := by decide +kernel
theorem e_Mo_whole_0 : decode b_Mo_whole 0 = .ok (.aload_n 0, 1) := by decide +kernel
theorem e_Mo_whole_1 : decode b_Mo_whole 1 = .ok (.getfield 90, 3) := by decide +kernel
theorem e_Mo_whole_4 : decode b_Mo_whole 4 = .ok (.ifCond .le 48, 3) := by decide +kernel
theorem e_Mo_whole_7 : decode b_Mo_whole 7 = .ok (.aload_n 0, 1) := by decide +kernel
theorem e_Mo_whole_8 : decode b_Mo_whole 8 = .ok (.getfield 84, 3) := by decide +kernel
theorem e_Mo_whole_11 : decode b_Mo_whole 11 = .ok (.aload_n 0, 1) := by decide +kernel
theorem e_Mo_whole_12 : decode b_Mo_whole 12 = .ok (.getfield 90, 3) := by decide +kernel
theorem e_Mo_whole_15 : decode b_Mo_whole 15 = .ok (.iconst 1, 1) := by decide +kernel
theorem e_Mo_whole_16 : decode b_Mo_whole 16 = .ok (.isub, 1) := by decide +kernel
theorem e_Mo_whole_17 : decode b_Mo_whole 17 = .ok (.iaload, 1) := by decide +kernel
theorem e_Mo_whole_18 : decode b_Mo_whole 18 = .ok (.bipush 33, 2) := by decide +kernel
theorem e_Mo_whole_20 : decode b_Mo_whole 20 = .ok (.if_icmp .ne 32, 3) := by decide +kernel
theorem e_Mo_whole_23 : decode b_Mo_whole 23 = .ok (.aload_n 0, 1) := by decide +kernel
theorem e_Mo_whole_24 : decode b_Mo_whole 24 = .ok (.bipush (-33), 2) := by decide +kernel
theorem e_Mo_whole_26 : decode b_Mo_whole 26 = .ok (.invokevirtual 285, 3) := by decide +kernel
theorem e_Mo_whole_29 : decode b_Mo_whole 29 = .ok (.aload_n 0, 1) := by decide +kernel
theorem e_Mo_whole_30 : decode b_Mo_whole 30 = .ok (.dup, 1) := by decide +kernel
theorem e_Mo_whole_31 : decode b_Mo_whole 31 = .ok (.getfield 90, 3) := by decide +kernel
theorem e_Mo_whole_34 : decode b_Mo_whole 34 = .ok (.iconst 1, 1) := by decide +kernel
theorem e_Mo_whole_35 : decode b_Mo_whole 35 = .ok (.isub, 1) := by decide +kernel
theorem e_Mo_whole_36 : decode b_Mo_whole 36 = .ok (.putfield 90, 3) := by decide +kernel
theorem e_Mo_whole_39 : decode b_Mo_whole 39 = .ok (.aload_n 0, 1) := by decide +kernel
theorem e_Mo_whole_40 : decode b_Mo_whole 40 = .ok (.dup, 1) := by decide +kernel
theorem e_Mo_whole_41 : decode b_Mo_whole 41 = .ok (.getfield 93, 3) := by decide +kernel
theorem e_Mo_whole_44 : decode b_Mo_whole 44 = .ok (.iconst 1, 1) := by decide +kernel
theorem e_Mo_whole_45 : decode b_Mo_whole 45 = .ok (.isub, 1) := by decide +kernel
theorem e_Mo_whole_46 : decode b_Mo_whole 46 = .ok (.putfield 93, 3) := by decide +kernel
theorem e_Mo_whole_49 : decode b_Mo_whole 49 = .ok (.goto (-49), 3) := by decide +kernel
theorem e_Mo_whole_52 : decode b_Mo_whole 52 = .ok (.return_, 1) := by decide +kernel
theorem e_Mo_settle_0 : decode b_Mo_settle 0 = .ok (.aload_n 0, 1) := by decide +kernel
theorem e_Mo_settle_1 : decode b_Mo_settle 1 = .ok (.getfield 90, 3) := by decide +kernel
theorem e_Mo_settle_4 : decode b_Mo_settle 4 = .ok (.ifCond .le 68, 3) := by decide +kernel
theorem e_Mo_settle_7 : decode b_Mo_settle 7 = .ok (.aload_n 0, 1) := by decide +kernel
theorem e_Mo_settle_8 : decode b_Mo_settle 8 = .ok (.getfield 84, 3) := by decide +kernel
theorem e_Mo_settle_11 : decode b_Mo_settle 11 = .ok (.aload_n 0, 1) := by decide +kernel
theorem e_Mo_settle_12 : decode b_Mo_settle 12 = .ok (.getfield 90, 3) := by decide +kernel
theorem e_Mo_settle_15 : decode b_Mo_settle 15 = .ok (.iconst 1, 1) := by decide +kernel
theorem e_Mo_settle_16 : decode b_Mo_settle 16 = .ok (.isub, 1) := by decide +kernel
theorem e_Mo_settle_17 : decode b_Mo_settle 17 = .ok (.iaload, 1) := by decide +kernel
theorem e_Mo_settle_18 : decode b_Mo_settle 18 = .ok (.bipush 38, 2) := by decide +kernel
theorem e_Mo_settle_20 : decode b_Mo_settle 20 = .ok (.if_icmp .eq 25, 3) := by decide +kernel
theorem e_Mo_settle_23 : decode b_Mo_settle 23 = .ok (.aload_n 0, 1) := by decide +kernel
theorem e_Mo_settle_24 : decode b_Mo_settle 24 = .ok (.getfield 84, 3) := by decide +kernel
theorem e_Mo_settle_27 : decode b_Mo_settle 27 = .ok (.aload_n 0, 1) := by decide +kernel
theorem e_Mo_settle_28 : decode b_Mo_settle 28 = .ok (.getfield 90, 3) := by decide +kernel
theorem e_Mo_settle_31 : decode b_Mo_settle 31 = .ok (.iconst 1, 1) := by decide +kernel
theorem e_Mo_settle_32 : decode b_Mo_settle 32 = .ok (.isub, 1) := by decide +kernel
theorem e_Mo_settle_33 : decode b_Mo_settle 33 = .ok (.iaload, 1) := by decide +kernel
theorem e_Mo_settle_34 : decode b_Mo_settle 34 = .ok (.bipush 124, 2) := by decide +kernel
theorem e_Mo_settle_36 : decode b_Mo_settle 36 = .ok (.if_icmp .ne 36, 3) := by decide +kernel
theorem e_Mo_settle_39 : decode b_Mo_settle 39 = .ok (.iload_n 1, 1) := by decide +kernel
theorem e_Mo_settle_40 : decode b_Mo_settle 40 = .ok (.bipush 38, 2) := by decide +kernel
theorem e_Mo_settle_42 : decode b_Mo_settle 42 = .ok (.if_icmp .eq 30, 3) := by decide +kernel
theorem e_Mo_settle_45 : decode b_Mo_settle 45 = .ok (.aload_n 0, 1) := by decide +kernel
theorem e_Mo_settle_46 : decode b_Mo_settle 46 = .ok (.dup, 1) := by decide +kernel
theorem e_Mo_settle_47 : decode b_Mo_settle 47 = .ok (.getfield 90, 3) := by decide +kernel
theorem e_Mo_settle_50 : decode b_Mo_settle 50 = .ok (.iconst 1, 1) := by decide +kernel
theorem e_Mo_settle_51 : decode b_Mo_settle 51 = .ok (.isub, 1) := by decide +kernel
theorem e_Mo_settle_52 : decode b_Mo_settle 52 = .ok (.putfield 90, 3) := by decide +kernel
theorem e_Mo_settle_55 : decode b_Mo_settle 55 = .ok (.aload_n 0, 1) := by decide +kernel
theorem e_Mo_settle_56 : decode b_Mo_settle 56 = .ok (.aload_n 0, 1) := by decide +kernel
theorem e_Mo_settle_57 : decode b_Mo_settle 57 = .ok (.getfield 84, 3) := by decide +kernel
theorem e_Mo_settle_60 : decode b_Mo_settle 60 = .ok (.aload_n 0, 1) := by decide +kernel
theorem e_Mo_settle_61 : decode b_Mo_settle 61 = .ok (.getfield 90, 3) := by decide +kernel
theorem e_Mo_settle_64 : decode b_Mo_settle 64 = .ok (.iaload, 1) := by decide +kernel
theorem e_Mo_settle_65 : decode b_Mo_settle 65 = .ok (.ineg, 1) := by decide +kernel
theorem e_Mo_settle_66 : decode b_Mo_settle 66 = .ok (.invokevirtual 285, 3) := by decide +kernel
theorem e_Mo_settle_69 : decode b_Mo_settle 69 = .ok (.goto (-69), 3) := by decide +kernel
theorem e_Mo_settle_72 : decode b_Mo_settle 72 = .ok (.return_, 1) := by decide +kernel
theorem e_Mo_place_0 : decode b_Mo_place 0 = .ok (.iload_n 1, 1) := by decide +kernel
theorem e_Mo_place_1 : decode b_Mo_place 1 = .ok (.tableswitch 79 107 119 #[69, 79, 77, 79, 75, 67, 79, 79, 79, 79, 79, 71, 73], 67) := by decide +kernel
theorem e_Mo_place_68 : decode b_Mo_place 68 = .ok (.iconst 0, 1) := by decide +kernel
theorem e_Mo_place_69 : decode b_Mo_place 69 = .ok (.ireturn, 1) := by decide +kernel
theorem e_Mo_place_70 : decode b_Mo_place 70 = .ok (.iconst 1, 1) := by decide +kernel
theorem e_Mo_place_71 : decode b_Mo_place 71 = .ok (.ireturn, 1) := by decide +kernel
theorem e_Mo_place_72 : decode b_Mo_place 72 = .ok (.iconst 2, 1) := by decide +kernel
theorem e_Mo_place_73 : decode b_Mo_place 73 = .ok (.ireturn, 1) := by decide +kernel
theorem e_Mo_place_74 : decode b_Mo_place 74 = .ok (.iconst 3, 1) := by decide +kernel
theorem e_Mo_place_75 : decode b_Mo_place 75 = .ok (.ireturn, 1) := by decide +kernel
theorem e_Mo_place_76 : decode b_Mo_place 76 = .ok (.iconst 4, 1) := by decide +kernel
theorem e_Mo_place_77 : decode b_Mo_place 77 = .ok (.ireturn, 1) := by decide +kernel
theorem e_Mo_place_78 : decode b_Mo_place 78 = .ok (.iconst 5, 1) := by decide +kernel
theorem e_Mo_place_79 : decode b_Mo_place 79 = .ok (.ireturn, 1) := by decide +kernel
theorem e_Mo_place_80 : decode b_Mo_place 80 = .ok (.iconst (-1), 1) := by decide +kernel
theorem e_Mo_place_81 : decode b_Mo_place 81 = .ok (.ireturn, 1) := by decide +kernel
theorem e_Mo_takesTest_0 : decode b_Mo_takesTest 0 = .ok (.aload_n 0, 1) := by decide +kernel
theorem e_Mo_takesTest_1 : decode b_Mo_takesTest 1 = .ok (.aload_n 0, 1) := by decide +kernel
theorem e_Mo_takesTest_2 : decode b_Mo_takesTest 2 = .ok (.invokevirtual 274, 3) := by decide +kernel
theorem e_Mo_takesTest_5 : decode b_Mo_takesTest 5 = .ok (.invokevirtual 288, 3) := by decide +kernel
theorem e_Mo_takesTest_8 : decode b_Mo_takesTest 8 = .ok (.istore_n 1, 1) := by decide +kernel
theorem e_Mo_takesTest_9 : decode b_Mo_takesTest 9 = .ok (.iload_n 1, 1) := by decide +kernel
theorem e_Mo_takesTest_10 : decode b_Mo_takesTest 10 = .ok (.ifCond .ge 5, 3) := by decide +kernel
theorem e_Mo_takesTest_13 : decode b_Mo_takesTest 13 = .ok (.iconst 0, 1) := by decide +kernel
theorem e_Mo_takesTest_14 : decode b_Mo_takesTest 14 = .ok (.ireturn, 1) := by decide +kernel
theorem e_Mo_takesTest_15 : decode b_Mo_takesTest 15 = .ok (.aload_n 0, 1) := by decide +kernel
theorem e_Mo_takesTest_16 : decode b_Mo_takesTest 16 = .ok (.dup, 1) := by decide +kernel
theorem e_Mo_takesTest_17 : decode b_Mo_takesTest 17 = .ok (.getfield 57, 3) := by decide +kernel
theorem e_Mo_takesTest_20 : decode b_Mo_takesTest 20 = .ok (.iconst 1, 1) := by decide +kernel
theorem e_Mo_takesTest_21 : decode b_Mo_takesTest 21 = .ok (.iadd, 1) := by decide +kernel
theorem e_Mo_takesTest_22 : decode b_Mo_takesTest 22 = .ok (.putfield 57, 3) := by decide +kernel
theorem e_Mo_takesTest_25 : decode b_Mo_takesTest 25 = .ok (.aload_n 0, 1) := by decide +kernel
theorem e_Mo_takesTest_26 : decode b_Mo_takesTest 26 = .ok (.invokevirtual 274, 3) := by decide +kernel
theorem e_Mo_takesTest_29 : decode b_Mo_takesTest 29 = .ok (.istore_n 2, 1) := by decide +kernel
theorem e_Mo_takesTest_30 : decode b_Mo_takesTest 30 = .ok (.aload_n 0, 1) := by decide +kernel
theorem e_Mo_takesTest_31 : decode b_Mo_takesTest 31 = .ok (.iload_n 2, 1) := by decide +kernel
theorem e_Mo_takesTest_32 : decode b_Mo_takesTest 32 = .ok (.bipush 60, 2) := by decide +kernel
theorem e_Mo_takesTest_34 : decode b_Mo_takesTest 34 = .ok (.bipush 62, 2) := by decide +kernel
theorem e_Mo_takesTest_36 : decode b_Mo_takesTest 36 = .ok (.invokevirtual 249, 3) := by decide +kernel
theorem e_Mo_takesTest_39 : decode b_Mo_takesTest 39 = .ok (.ifCond .ne 5, 3) := by decide +kernel
theorem e_Mo_takesTest_42 : decode b_Mo_takesTest 42 = .ok (.iconst 0, 1) := by decide +kernel
theorem e_Mo_takesTest_43 : decode b_Mo_takesTest 43 = .ok (.ireturn, 1) := by decide +kernel
theorem e_Mo_takesTest_44 : decode b_Mo_takesTest 44 = .ok (.aload_n 0, 1) := by decide +kernel
theorem e_Mo_takesTest_45 : decode b_Mo_takesTest 45 = .ok (.dup, 1) := by decide +kernel
theorem e_Mo_takesTest_46 : decode b_Mo_takesTest 46 = .ok (.getfield 57, 3) := by decide +kernel
theorem e_Mo_takesTest_49 : decode b_Mo_takesTest 49 = .ok (.iconst 1, 1) := by decide +kernel
theorem e_Mo_takesTest_50 : decode b_Mo_takesTest 50 = .ok (.iadd, 1) := by decide +kernel
theorem e_Mo_takesTest_51 : decode b_Mo_takesTest 51 = .ok (.putfield 57, 3) := by decide +kernel
theorem e_Mo_takesTest_54 : decode b_Mo_takesTest 54 = .ok (.aload_n 0, 1) := by decide +kernel
theorem e_Mo_takesTest_55 : decode b_Mo_takesTest 55 = .ok (.invokevirtual 291, 3) := by decide +kernel
theorem e_Mo_takesTest_58 : decode b_Mo_takesTest 58 = .ok (.ifCond .ne 5, 3) := by decide +kernel
theorem e_Mo_takesTest_61 : decode b_Mo_takesTest 61 = .ok (.iconst 0, 1) := by decide +kernel
theorem e_Mo_takesTest_62 : decode b_Mo_takesTest 62 = .ok (.ireturn, 1) := by decide +kernel
theorem e_Mo_takesTest_63 : decode b_Mo_takesTest 63 = .ok (.aload_n 0, 1) := by decide +kernel
theorem e_Mo_takesTest_64 : decode b_Mo_takesTest 64 = .ok (.sipush 1000, 3) := by decide +kernel
theorem e_Mo_takesTest_67 : decode b_Mo_takesTest 67 = .ok (.iload_n 1, 1) := by decide +kernel
theorem e_Mo_takesTest_68 : decode b_Mo_takesTest 68 = .ok (.imul, 1) := by decide +kernel
theorem e_Mo_takesTest_69 : decode b_Mo_takesTest 69 = .ok (.bipush 100, 2) := by decide +kernel
theorem e_Mo_takesTest_71 : decode b_Mo_takesTest 71 = .ok (.iload_n 2, 1) := by decide +kernel
theorem e_Mo_takesTest_72 : decode b_Mo_takesTest 72 = .ok (.bipush 60, 2) := by decide +kernel
theorem e_Mo_takesTest_74 : decode b_Mo_takesTest 74 = .ok (.isub, 1) := by decide +kernel
theorem e_Mo_takesTest_75 : decode b_Mo_takesTest 75 = .ok (.imul, 1) := by decide +kernel
theorem e_Mo_takesTest_76 : decode b_Mo_takesTest 76 = .ok (.iadd, 1) := by decide +kernel
theorem e_Mo_takesTest_77 : decode b_Mo_takesTest 77 = .ok (.aload_n 0, 1) := by decide +kernel
theorem e_Mo_takesTest_78 : decode b_Mo_takesTest 78 = .ok (.getfield 60, 3) := by decide +kernel
theorem e_Mo_takesTest_81 : decode b_Mo_takesTest 81 = .ok (.iadd, 1) := by decide +kernel
theorem e_Mo_takesTest_82 : decode b_Mo_takesTest 82 = .ok (.invokevirtual 285, 3) := by decide +kernel
theorem e_Mo_takesTest_85 : decode b_Mo_takesTest 85 = .ok (.aload_n 0, 1) := by decide +kernel
theorem e_Mo_takesTest_86 : decode b_Mo_takesTest 86 = .ok (.invokevirtual 294, 3) := by decide +kernel
theorem e_Mo_takesTest_89 : decode b_Mo_takesTest 89 = .ok (.iconst 1, 1) := by decide +kernel
theorem e_Mo_takesTest_90 : decode b_Mo_takesTest 90 = .ok (.ireturn, 1) := by decide +kernel
theorem e_Mo_takesE_0 : decode b_Mo_takesE 0 = .ok (.aload_n 0, 1) := by decide +kernel
theorem e_Mo_takesE_1 : decode b_Mo_takesE 1 = .ok (.iconst 0, 1) := by decide +kernel
theorem e_Mo_takesE_2 : decode b_Mo_takesE 2 = .ok (.putfield 90, 3) := by decide +kernel
theorem e_Mo_takesE_5 : decode b_Mo_takesE 5 = .ok (.aload_n 0, 1) := by decide +kernel
theorem e_Mo_takesE_6 : decode b_Mo_takesE 6 = .ok (.iconst 0, 1) := by decide +kernel
theorem e_Mo_takesE_7 : decode b_Mo_takesE 7 = .ok (.putfield 93, 3) := by decide +kernel
theorem e_Mo_takesE_10 : decode b_Mo_takesE 10 = .ok (.aload_n 0, 1) := by decide +kernel
theorem e_Mo_takesE_11 : decode b_Mo_takesE 11 = .ok (.getfield 75, 3) := by decide +kernel
theorem e_Mo_takesE_14 : decode b_Mo_takesE 14 = .ok (.iload_n 1, 1) := by decide +kernel
theorem e_Mo_takesE_15 : decode b_Mo_takesE 15 = .ok (.aload_n 0, 1) := by decide +kernel
theorem e_Mo_takesE_16 : decode b_Mo_takesE 16 = .ok (.getfield 87, 3) := by decide +kernel
theorem e_Mo_takesE_19 : decode b_Mo_takesE 19 = .ok (.iastore, 1) := by decide +kernel
theorem e_Mo_takesE_20 : decode b_Mo_takesE 20 = .ok (.iconst 1, 1) := by decide +kernel
theorem e_Mo_takesE_21 : decode b_Mo_takesE 21 = .ok (.istore_n 2, 1) := by decide +kernel
theorem e_Mo_takesE_22 : decode b_Mo_takesE 22 = .ok (.aload_n 0, 1) := by decide +kernel
theorem e_Mo_takesE_23 : decode b_Mo_takesE 23 = .ok (.invokevirtual 274, 3) := by decide +kernel
theorem e_Mo_takesE_26 : decode b_Mo_takesE 26 = .ok (.istore_n 3, 1) := by decide +kernel
theorem e_Mo_takesE_27 : decode b_Mo_takesE 27 = .ok (.iload_n 2, 1) := by decide +kernel
theorem e_Mo_takesE_28 : decode b_Mo_takesE 28 = .ok (.ifCond .eq 82, 3) := by decide +kernel
theorem e_Mo_takesE_31 : decode b_Mo_takesE 31 = .ok (.iload_n 3, 1) := by decide +kernel
theorem e_Mo_takesE_32 : decode b_Mo_takesE 32 = .ok (.bipush 33, 2) := by decide +kernel
theorem e_Mo_takesE_34 : decode b_Mo_takesE 34 = .ok (.if_icmp .eq 9, 3) := by decide +kernel
theorem e_Mo_takesE_37 : decode b_Mo_takesE 37 = .ok (.iload_n 3, 1) := by decide +kernel
theorem e_Mo_takesE_38 : decode b_Mo_takesE 38 = .ok (.bipush 40, 2) := by decide +kernel
theorem e_Mo_takesE_40 : decode b_Mo_takesE 40 = .ok (.if_icmp .ne 56, 3) := by decide +kernel
theorem e_Mo_takesE_43 : decode b_Mo_takesE 43 = .ok (.aload_n 0, 1) := by decide +kernel
theorem e_Mo_takesE_44 : decode b_Mo_takesE 44 = .ok (.getfield 93, 3) := by decide +kernel
theorem e_Mo_takesE_47 : decode b_Mo_takesE 47 = .ok (.iconst 4, 1) := by decide +kernel
theorem e_Mo_takesE_48 : decode b_Mo_takesE 48 = .ok (.if_icmp .ne 5, 3) := by decide +kernel
theorem e_Mo_takesE_51 : decode b_Mo_takesE 51 = .ok (.iconst 0, 1) := by decide +kernel
theorem e_Mo_takesE_52 : decode b_Mo_takesE 52 = .ok (.ireturn, 1) := by decide +kernel
theorem e_Mo_takesE_53 : decode b_Mo_takesE 53 = .ok (.aload_n 0, 1) := by decide +kernel
theorem e_Mo_takesE_54 : decode b_Mo_takesE 54 = .ok (.dup, 1) := by decide +kernel
theorem e_Mo_takesE_55 : decode b_Mo_takesE 55 = .ok (.getfield 93, 3) := by decide +kernel
theorem e_Mo_takesE_58 : decode b_Mo_takesE 58 = .ok (.iconst 1, 1) := by decide +kernel
theorem e_Mo_takesE_59 : decode b_Mo_takesE 59 = .ok (.iadd, 1) := by decide +kernel
theorem e_Mo_takesE_60 : decode b_Mo_takesE 60 = .ok (.putfield 93, 3) := by decide +kernel
theorem e_Mo_takesE_63 : decode b_Mo_takesE 63 = .ok (.aload_n 0, 1) := by decide +kernel
theorem e_Mo_takesE_64 : decode b_Mo_takesE 64 = .ok (.getfield 84, 3) := by decide +kernel
theorem e_Mo_takesE_67 : decode b_Mo_takesE 67 = .ok (.aload_n 0, 1) := by decide +kernel
theorem e_Mo_takesE_68 : decode b_Mo_takesE 68 = .ok (.getfield 90, 3) := by decide +kernel
theorem e_Mo_takesE_71 : decode b_Mo_takesE 71 = .ok (.iload_n 3, 1) := by decide +kernel
theorem e_Mo_takesE_72 : decode b_Mo_takesE 72 = .ok (.iastore, 1) := by decide +kernel
theorem e_Mo_takesE_73 : decode b_Mo_takesE 73 = .ok (.aload_n 0, 1) := by decide +kernel
theorem e_Mo_takesE_74 : decode b_Mo_takesE 74 = .ok (.dup, 1) := by decide +kernel
theorem e_Mo_takesE_75 : decode b_Mo_takesE 75 = .ok (.getfield 90, 3) := by decide +kernel
theorem e_Mo_takesE_78 : decode b_Mo_takesE 78 = .ok (.iconst 1, 1) := by decide +kernel
theorem e_Mo_takesE_79 : decode b_Mo_takesE 79 = .ok (.iadd, 1) := by decide +kernel
theorem e_Mo_takesE_80 : decode b_Mo_takesE 80 = .ok (.putfield 90, 3) := by decide +kernel
theorem e_Mo_takesE_83 : decode b_Mo_takesE 83 = .ok (.aload_n 0, 1) := by decide +kernel
theorem e_Mo_takesE_84 : decode b_Mo_takesE 84 = .ok (.dup, 1) := by decide +kernel
theorem e_Mo_takesE_85 : decode b_Mo_takesE 85 = .ok (.getfield 57, 3) := by decide +kernel
theorem e_Mo_takesE_88 : decode b_Mo_takesE 88 = .ok (.iconst 1, 1) := by decide +kernel
theorem e_Mo_takesE_89 : decode b_Mo_takesE 89 = .ok (.iadd, 1) := by decide +kernel
theorem e_Mo_takesE_90 : decode b_Mo_takesE 90 = .ok (.putfield 57, 3) := by decide +kernel
theorem e_Mo_takesE_93 : decode b_Mo_takesE 93 = .ok (.goto (-71), 3) := by decide +kernel
theorem e_Mo_takesE_96 : decode b_Mo_takesE 96 = .ok (.aload_n 0, 1) := by decide +kernel
theorem e_Mo_takesE_97 : decode b_Mo_takesE 97 = .ok (.invokevirtual 297, 3) := by decide +kernel
theorem e_Mo_takesE_100 : decode b_Mo_takesE 100 = .ok (.ifCond .eq 8, 3) := by decide +kernel
theorem e_Mo_takesE_103 : decode b_Mo_takesE 103 = .ok (.iconst 0, 1) := by decide +kernel
theorem e_Mo_takesE_104 : decode b_Mo_takesE 104 = .ok (.istore_n 2, 1) := by decide +kernel
theorem e_Mo_takesE_105 : decode b_Mo_takesE 105 = .ok (.goto (-83), 3) := by decide +kernel
theorem e_Mo_takesE_108 : decode b_Mo_takesE 108 = .ok (.iconst 0, 1) := by decide +kernel
theorem e_Mo_takesE_109 : decode b_Mo_takesE 109 = .ok (.ireturn, 1) := by decide +kernel
theorem e_Mo_takesE_110 : decode b_Mo_takesE 110 = .ok (.iload_n 3, 1) := by decide +kernel
theorem e_Mo_takesE_111 : decode b_Mo_takesE 111 = .ok (.bipush 38, 2) := by decide +kernel
theorem e_Mo_takesE_113 : decode b_Mo_takesE 113 = .ok (.if_icmp .eq 9, 3) := by decide +kernel
theorem e_Mo_takesE_116 : decode b_Mo_takesE 116 = .ok (.iload_n 3, 1) := by decide +kernel
theorem e_Mo_takesE_117 : decode b_Mo_takesE 117 = .ok (.bipush 124, 2) := by decide +kernel
theorem e_Mo_takesE_119 : decode b_Mo_takesE 119 = .ok (.if_icmp .ne 43, 3) := by decide +kernel
theorem e_Mo_takesE_122 : decode b_Mo_takesE 122 = .ok (.aload_n 0, 1) := by decide +kernel
theorem e_Mo_takesE_123 : decode b_Mo_takesE 123 = .ok (.iload_n 3, 1) := by decide +kernel
theorem e_Mo_takesE_124 : decode b_Mo_takesE 124 = .ok (.invokevirtual 300, 3) := by decide +kernel
theorem e_Mo_takesE_127 : decode b_Mo_takesE 127 = .ok (.aload_n 0, 1) := by decide +kernel
theorem e_Mo_takesE_128 : decode b_Mo_takesE 128 = .ok (.getfield 84, 3) := by decide +kernel
theorem e_Mo_takesE_131 : decode b_Mo_takesE 131 = .ok (.aload_n 0, 1) := by decide +kernel
theorem e_Mo_takesE_132 : decode b_Mo_takesE 132 = .ok (.getfield 90, 3) := by decide +kernel
theorem e_Mo_takesE_135 : decode b_Mo_takesE 135 = .ok (.iload_n 3, 1) := by decide +kernel
theorem e_Mo_takesE_136 : decode b_Mo_takesE 136 = .ok (.iastore, 1) := by decide +kernel
theorem e_Mo_takesE_137 : decode b_Mo_takesE 137 = .ok (.aload_n 0, 1) := by decide +kernel
theorem e_Mo_takesE_138 : decode b_Mo_takesE 138 = .ok (.dup, 1) := by decide +kernel
theorem e_Mo_takesE_139 : decode b_Mo_takesE 139 = .ok (.getfield 90, 3) := by decide +kernel
theorem e_Mo_takesE_142 : decode b_Mo_takesE 142 = .ok (.iconst 1, 1) := by decide +kernel
theorem e_Mo_takesE_143 : decode b_Mo_takesE 143 = .ok (.iadd, 1) := by decide +kernel
theorem e_Mo_takesE_144 : decode b_Mo_takesE 144 = .ok (.putfield 90, 3) := by decide +kernel
theorem e_Mo_takesE_147 : decode b_Mo_takesE 147 = .ok (.iconst 1, 1) := by decide +kernel
theorem e_Mo_takesE_148 : decode b_Mo_takesE 148 = .ok (.istore_n 2, 1) := by decide +kernel
theorem e_Mo_takesE_149 : decode b_Mo_takesE 149 = .ok (.aload_n 0, 1) := by decide +kernel
theorem e_Mo_takesE_150 : decode b_Mo_takesE 150 = .ok (.dup, 1) := by decide +kernel
theorem e_Mo_takesE_151 : decode b_Mo_takesE 151 = .ok (.getfield 57, 3) := by decide +kernel
theorem e_Mo_takesE_154 : decode b_Mo_takesE 154 = .ok (.iconst 1, 1) := by decide +kernel
theorem e_Mo_takesE_155 : decode b_Mo_takesE 155 = .ok (.iadd, 1) := by decide +kernel
theorem e_Mo_takesE_156 : decode b_Mo_takesE 156 = .ok (.putfield 57, 3) := by decide +kernel
theorem e_Mo_takesE_159 : decode b_Mo_takesE 159 = .ok (.goto (-137), 3) := by decide +kernel
theorem e_Mo_takesE_162 : decode b_Mo_takesE 162 = .ok (.aload_n 0, 1) := by decide +kernel
theorem e_Mo_takesE_163 : decode b_Mo_takesE 163 = .ok (.bipush 124, 2) := by decide +kernel
theorem e_Mo_takesE_165 : decode b_Mo_takesE 165 = .ok (.invokevirtual 300, 3) := by decide +kernel
theorem e_Mo_takesE_168 : decode b_Mo_takesE 168 = .ok (.aload_n 0, 1) := by decide +kernel
theorem e_Mo_takesE_169 : decode b_Mo_takesE 169 = .ok (.getfield 78, 3) := by decide +kernel
theorem e_Mo_takesE_172 : decode b_Mo_takesE 172 = .ok (.iload_n 1, 1) := by decide +kernel
theorem e_Mo_takesE_173 : decode b_Mo_takesE 173 = .ok (.aload_n 0, 1) := by decide +kernel
theorem e_Mo_takesE_174 : decode b_Mo_takesE 174 = .ok (.getfield 87, 3) := by decide +kernel
theorem e_Mo_takesE_177 : decode b_Mo_takesE 177 = .ok (.iastore, 1) := by decide +kernel
theorem e_Mo_takesE_178 : decode b_Mo_takesE 178 = .ok (.aload_n 0, 1) := by decide +kernel
theorem e_Mo_takesE_179 : decode b_Mo_takesE 179 = .ok (.getfield 90, 3) := by decide +kernel
theorem e_Mo_takesE_182 : decode b_Mo_takesE 182 = .ok (.ifCond .ne 5, 3) := by decide +kernel
theorem e_Mo_takesE_185 : decode b_Mo_takesE 185 = .ok (.iconst 1, 1) := by decide +kernel
theorem e_Mo_takesE_186 : decode b_Mo_takesE 186 = .ok (.ireturn, 1) := by decide +kernel
theorem e_Mo_takesE_187 : decode b_Mo_takesE 187 = .ok (.iload_n 3, 1) := by decide +kernel
theorem e_Mo_takesE_188 : decode b_Mo_takesE 188 = .ok (.bipush 41, 2) := by decide +kernel
theorem e_Mo_takesE_190 : decode b_Mo_takesE 190 = .ok (.if_icmp .eq 5, 3) := by decide +kernel
theorem e_Mo_takesE_193 : decode b_Mo_takesE 193 = .ok (.iconst 0, 1) := by decide +kernel
theorem e_Mo_takesE_194 : decode b_Mo_takesE 194 = .ok (.ireturn, 1) := by decide +kernel
theorem e_Mo_takesE_195 : decode b_Mo_takesE 195 = .ok (.aload_n 0, 1) := by decide +kernel
theorem e_Mo_takesE_196 : decode b_Mo_takesE 196 = .ok (.dup, 1) := by decide +kernel
theorem e_Mo_takesE_197 : decode b_Mo_takesE 197 = .ok (.getfield 90, 3) := by decide +kernel
theorem e_Mo_takesE_200 : decode b_Mo_takesE 200 = .ok (.iconst 1, 1) := by decide +kernel
theorem e_Mo_takesE_201 : decode b_Mo_takesE 201 = .ok (.isub, 1) := by decide +kernel
theorem e_Mo_takesE_202 : decode b_Mo_takesE 202 = .ok (.putfield 90, 3) := by decide +kernel
theorem e_Mo_takesE_205 : decode b_Mo_takesE 205 = .ok (.aload_n 0, 1) := by decide +kernel
theorem e_Mo_takesE_206 : decode b_Mo_takesE 206 = .ok (.dup, 1) := by decide +kernel
theorem e_Mo_takesE_207 : decode b_Mo_takesE 207 = .ok (.getfield 93, 3) := by decide +kernel
theorem e_Mo_takesE_210 : decode b_Mo_takesE 210 = .ok (.iconst 1, 1) := by decide +kernel
theorem e_Mo_takesE_211 : decode b_Mo_takesE 211 = .ok (.isub, 1) := by decide +kernel
theorem e_Mo_takesE_212 : decode b_Mo_takesE 212 = .ok (.putfield 93, 3) := by decide +kernel
theorem e_Mo_takesE_215 : decode b_Mo_takesE 215 = .ok (.aload_n 0, 1) := by decide +kernel
theorem e_Mo_takesE_216 : decode b_Mo_takesE 216 = .ok (.dup, 1) := by decide +kernel
theorem e_Mo_takesE_217 : decode b_Mo_takesE 217 = .ok (.getfield 57, 3) := by decide +kernel
theorem e_Mo_takesE_220 : decode b_Mo_takesE 220 = .ok (.iconst 1, 1) := by decide +kernel
theorem e_Mo_takesE_221 : decode b_Mo_takesE 221 = .ok (.iadd, 1) := by decide +kernel
theorem e_Mo_takesE_222 : decode b_Mo_takesE 222 = .ok (.putfield 57, 3) := by decide +kernel
theorem e_Mo_takesE_225 : decode b_Mo_takesE 225 = .ok (.aload_n 0, 1) := by decide +kernel
theorem e_Mo_takesE_226 : decode b_Mo_takesE 226 = .ok (.invokevirtual 294, 3) := by decide +kernel
theorem e_Mo_takesE_229 : decode b_Mo_takesE 229 = .ok (.goto (-207), 3) := by decide +kernel
theorem e_Mo_takesHead_0 : decode b_Mo_takesHead 0 = .ok (.aload_n 0, 1) := by decide +kernel
theorem e_Mo_takesHead_1 : decode b_Mo_takesHead 1 = .ok (.invokevirtual 274, 3) := by decide +kernel
theorem e_Mo_takesHead_4 : decode b_Mo_takesHead 4 = .ok (.lookupswitch 56 #[(99, 42), (100, 28)], 28) := by decide +kernel
theorem e_Mo_takesHead_32 : decode b_Mo_takesHead 32 = .ok (.aload_n 0, 1) := by decide +kernel
theorem e_Mo_takesHead_33 : decode b_Mo_takesHead 33 = .ok (.getfield 69, 3) := by decide +kernel
theorem e_Mo_takesHead_36 : decode b_Mo_takesHead 36 = .ok (.iload_n 1, 1) := by decide +kernel
theorem e_Mo_takesHead_37 : decode b_Mo_takesHead 37 = .ok (.iconst 0, 1) := by decide +kernel
theorem e_Mo_takesHead_38 : decode b_Mo_takesHead 38 = .ok (.iastore, 1) := by decide +kernel
theorem e_Mo_takesHead_39 : decode b_Mo_takesHead 39 = .ok (.aload_n 0, 1) := by decide +kernel
theorem e_Mo_takesHead_40 : decode b_Mo_takesHead 40 = .ok (.iconst 0, 1) := by decide +kernel
theorem e_Mo_takesHead_41 : decode b_Mo_takesHead 41 = .ok (.iconst 4, 1) := by decide +kernel
theorem e_Mo_takesHead_42 : decode b_Mo_takesHead 42 = .ok (.invokevirtual 303, 3) := by decide +kernel
theorem e_Mo_takesHead_45 : decode b_Mo_takesHead 45 = .ok (.ireturn, 1) := by decide +kernel
theorem e_Mo_takesHead_46 : decode b_Mo_takesHead 46 = .ok (.aload_n 0, 1) := by decide +kernel
theorem e_Mo_takesHead_47 : decode b_Mo_takesHead 47 = .ok (.getfield 69, 3) := by decide +kernel
theorem e_Mo_takesHead_50 : decode b_Mo_takesHead 50 = .ok (.iload_n 1, 1) := by decide +kernel
theorem e_Mo_takesHead_51 : decode b_Mo_takesHead 51 = .ok (.iconst 1, 1) := by decide +kernel
theorem e_Mo_takesHead_52 : decode b_Mo_takesHead 52 = .ok (.iastore, 1) := by decide +kernel
theorem e_Mo_takesHead_53 : decode b_Mo_takesHead 53 = .ok (.aload_n 0, 1) := by decide +kernel
theorem e_Mo_takesHead_54 : decode b_Mo_takesHead 54 = .ok (.iconst 4, 1) := by decide +kernel
theorem e_Mo_takesHead_55 : decode b_Mo_takesHead 55 = .ok (.iconst 5, 1) := by decide +kernel
theorem e_Mo_takesHead_56 : decode b_Mo_takesHead 56 = .ok (.invokevirtual 303, 3) := by decide +kernel
theorem e_Mo_takesHead_59 : decode b_Mo_takesHead 59 = .ok (.ireturn, 1) := by decide +kernel
theorem e_Mo_takesHead_60 : decode b_Mo_takesHead 60 = .ok (.aload_n 0, 1) := by decide +kernel
theorem e_Mo_takesHead_61 : decode b_Mo_takesHead 61 = .ok (.getfield 69, 3) := by decide +kernel
theorem e_Mo_takesHead_64 : decode b_Mo_takesHead 64 = .ok (.iload_n 1, 1) := by decide +kernel
theorem e_Mo_takesHead_65 : decode b_Mo_takesHead 65 = .ok (.iconst 2, 1) := by decide +kernel
theorem e_Mo_takesHead_66 : decode b_Mo_takesHead 66 = .ok (.iastore, 1) := by decide +kernel
theorem e_Mo_takesHead_67 : decode b_Mo_takesHead 67 = .ok (.aload_n 0, 1) := by decide +kernel
theorem e_Mo_takesHead_68 : decode b_Mo_takesHead 68 = .ok (.bipush 9, 2) := by decide +kernel
theorem e_Mo_takesHead_70 : decode b_Mo_takesHead 70 = .ok (.iconst 4, 1) := by decide +kernel
theorem e_Mo_takesHead_71 : decode b_Mo_takesHead 71 = .ok (.invokevirtual 303, 3) := by decide +kernel
theorem e_Mo_takesHead_74 : decode b_Mo_takesHead 74 = .ok (.ireturn, 1) := by decide +kernel
theorem e_Mo_takesClause_0 : decode b_Mo_takesClause 0 = .ok (.aload_n 0, 1) := by decide +kernel
theorem e_Mo_takesClause_1 : decode b_Mo_takesClause 1 = .ok (.iload_n 1, 1) := by decide +kernel
theorem e_Mo_takesClause_2 : decode b_Mo_takesClause 2 = .ok (.invokevirtual 306, 3) := by decide +kernel
theorem e_Mo_takesClause_5 : decode b_Mo_takesClause 5 = .ok (.ifCond .eq 10, 3) := by decide +kernel
theorem e_Mo_takesClause_8 : decode b_Mo_takesClause 8 = .ok (.aload_n 0, 1) := by decide +kernel
theorem e_Mo_takesClause_9 : decode b_Mo_takesClause 9 = .ok (.invokevirtual 291, 3) := by decide +kernel
theorem e_Mo_takesClause_12 : decode b_Mo_takesClause 12 = .ok (.ifCond .ne 5, 3) := by decide +kernel
theorem e_Mo_takesClause_15 : decode b_Mo_takesClause 15 = .ok (.iconst 0, 1) := by decide +kernel
theorem e_Mo_takesClause_16 : decode b_Mo_takesClause 16 = .ok (.ireturn, 1) := by decide +kernel
theorem e_Mo_takesClause_17 : decode b_Mo_takesClause 17 = .ok (.aload_n 0, 1) := by decide +kernel
theorem e_Mo_takesClause_18 : decode b_Mo_takesClause 18 = .ok (.getfield 72, 3) := by decide +kernel
theorem e_Mo_takesClause_21 : decode b_Mo_takesClause 21 = .ok (.iload_n 1, 1) := by decide +kernel
theorem e_Mo_takesClause_22 : decode b_Mo_takesClause 22 = .ok (.aload_n 0, 1) := by decide +kernel
theorem e_Mo_takesClause_23 : decode b_Mo_takesClause 23 = .ok (.getfield 60, 3) := by decide +kernel
theorem e_Mo_takesClause_26 : decode b_Mo_takesClause 26 = .ok (.iastore, 1) := by decide +kernel
theorem e_Mo_takesClause_27 : decode b_Mo_takesClause 27 = .ok (.aload_n 0, 1) := by decide +kernel
theorem e_Mo_takesClause_28 : decode b_Mo_takesClause 28 = .ok (.getfield 69, 3) := by decide +kernel
theorem e_Mo_takesClause_31 : decode b_Mo_takesClause 31 = .ok (.iload_n 1, 1) := by decide +kernel
theorem e_Mo_takesClause_32 : decode b_Mo_takesClause 32 = .ok (.iaload, 1) := by decide +kernel
theorem e_Mo_takesClause_33 : decode b_Mo_takesClause 33 = .ok (.iconst 2, 1) := by decide +kernel
theorem e_Mo_takesClause_34 : decode b_Mo_takesClause 34 = .ok (.if_icmp .eq 20, 3) := by decide +kernel
theorem e_Mo_takesClause_37 : decode b_Mo_takesClause 37 = .ok (.aload_n 0, 1) := by decide +kernel
theorem e_Mo_takesClause_38 : decode b_Mo_takesClause 38 = .ok (.bipush 32, 2) := by decide +kernel
theorem e_Mo_takesClause_40 : decode b_Mo_takesClause 40 = .ok (.invokevirtual 278, 3) := by decide +kernel
theorem e_Mo_takesClause_43 : decode b_Mo_takesClause 43 = .ok (.ifCond .eq 15, 3) := by decide +kernel
theorem e_Mo_takesClause_46 : decode b_Mo_takesClause 46 = .ok (.aload_n 0, 1) := by decide +kernel
theorem e_Mo_takesClause_47 : decode b_Mo_takesClause 47 = .ok (.iload_n 1, 1) := by decide +kernel
theorem e_Mo_takesClause_48 : decode b_Mo_takesClause 48 = .ok (.invokevirtual 309, 3) := by decide +kernel
theorem e_Mo_takesClause_51 : decode b_Mo_takesClause 51 = .ok (.ifCond .eq 7, 3) := by decide +kernel
theorem e_Mo_takesClause_54 : decode b_Mo_takesClause 54 = .ok (.iconst 1, 1) := by decide +kernel
theorem e_Mo_takesClause_55 : decode b_Mo_takesClause 55 = .ok (.goto 4, 3) := by decide +kernel
theorem e_Mo_takesClause_58 : decode b_Mo_takesClause 58 = .ok (.iconst 0, 1) := by decide +kernel
theorem e_Mo_takesClause_59 : decode b_Mo_takesClause 59 = .ok (.ireturn, 1) := by decide +kernel
theorem e_Mo_goesText_0 : decode b_Mo_goesText 0 = .ok (.aload_n 0, 1) := by decide +kernel
theorem e_Mo_goesText_1 : decode b_Mo_goesText 1 = .ok (.iconst 0, 1) := by decide +kernel
theorem e_Mo_goesText_2 : decode b_Mo_goesText 2 = .ok (.putfield 57, 3) := by decide +kernel
theorem e_Mo_goesText_5 : decode b_Mo_goesText 5 = .ok (.aload_n 0, 1) := by decide +kernel
theorem e_Mo_goesText_6 : decode b_Mo_goesText 6 = .ok (.bipush 100, 2) := by decide +kernel
theorem e_Mo_goesText_8 : decode b_Mo_goesText 8 = .ok (.iload_n 1, 1) := by decide +kernel
theorem e_Mo_goesText_9 : decode b_Mo_goesText 9 = .ok (.imul, 1) := by decide +kernel
theorem e_Mo_goesText_10 : decode b_Mo_goesText 10 = .ok (.putfield 87, 3) := by decide +kernel
theorem e_Mo_goesText_13 : decode b_Mo_goesText 13 = .ok (.iconst 0, 1) := by decide +kernel
theorem e_Mo_goesText_14 : decode b_Mo_goesText 14 = .ok (.istore_n 2, 1) := by decide +kernel
theorem e_Mo_goesText_15 : decode b_Mo_goesText 15 = .ok (.aload_n 0, 1) := by decide +kernel
theorem e_Mo_goesText_16 : decode b_Mo_goesText 16 = .ok (.bipush 10, 2) := by decide +kernel
theorem e_Mo_goesText_18 : decode b_Mo_goesText 18 = .ok (.iload_n 1, 1) := by decide +kernel
theorem e_Mo_goesText_19 : decode b_Mo_goesText 19 = .ok (.imul, 1) := by decide +kernel
theorem e_Mo_goesText_20 : decode b_Mo_goesText 20 = .ok (.iload_n 2, 1) := by decide +kernel
theorem e_Mo_goesText_21 : decode b_Mo_goesText 21 = .ok (.iadd, 1) := by decide +kernel
theorem e_Mo_goesText_22 : decode b_Mo_goesText 22 = .ok (.invokevirtual 312, 3) := by decide +kernel
theorem e_Mo_goesText_25 : decode b_Mo_goesText 25 = .ok (.ifCond .ne 5, 3) := by decide +kernel
theorem e_Mo_goesText_28 : decode b_Mo_goesText 28 = .ok (.iconst 0, 1) := by decide +kernel
theorem e_Mo_goesText_29 : decode b_Mo_goesText 29 = .ok (.ireturn, 1) := by decide +kernel
theorem e_Mo_goesText_30 : decode b_Mo_goesText 30 = .ok (.iinc 2 1, 3) := by decide +kernel
theorem e_Mo_goesText_33 : decode b_Mo_goesText 33 = .ok (.aload_n 0, 1) := by decide +kernel
theorem e_Mo_goesText_34 : decode b_Mo_goesText 34 = .ok (.getfield 66, 3) := by decide +kernel
theorem e_Mo_goesText_37 : decode b_Mo_goesText 37 = .ok (.iload_n 1, 1) := by decide +kernel
theorem e_Mo_goesText_38 : decode b_Mo_goesText 38 = .ok (.iload_n 2, 1) := by decide +kernel
theorem e_Mo_goesText_39 : decode b_Mo_goesText 39 = .ok (.iastore, 1) := by decide +kernel
theorem e_Mo_goesText_40 : decode b_Mo_goesText 40 = .ok (.aload_n 0, 1) := by decide +kernel
theorem e_Mo_goesText_41 : decode b_Mo_goesText 41 = .ok (.getfield 57, 3) := by decide +kernel
theorem e_Mo_goesText_44 : decode b_Mo_goesText 44 = .ok (.aload_n 0, 1) := by decide +kernel
theorem e_Mo_goesText_45 : decode b_Mo_goesText 45 = .ok (.getfield 54, 3) := by decide +kernel
theorem e_Mo_goesText_48 : decode b_Mo_goesText 48 = .ok (.if_icmp .ne 5, 3) := by decide +kernel
theorem e_Mo_goesText_51 : decode b_Mo_goesText 51 = .ok (.iconst 1, 1) := by decide +kernel
theorem e_Mo_goesText_52 : decode b_Mo_goesText 52 = .ok (.ireturn, 1) := by decide +kernel
theorem e_Mo_goesText_53 : decode b_Mo_goesText 53 = .ok (.iload_n 2, 1) := by decide +kernel
theorem e_Mo_goesText_54 : decode b_Mo_goesText 54 = .ok (.bipush 10, 2) := by decide +kernel
theorem e_Mo_goesText_56 : decode b_Mo_goesText 56 = .ok (.if_icmp .eq 12, 3) := by decide +kernel
theorem e_Mo_goesText_59 : decode b_Mo_goesText 59 = .ok (.aload_n 0, 1) := by decide +kernel
theorem e_Mo_goesText_60 : decode b_Mo_goesText 60 = .ok (.bipush 59, 2) := by decide +kernel
theorem e_Mo_goesText_62 : decode b_Mo_goesText 62 = .ok (.invokevirtual 278, 3) := by decide +kernel
theorem e_Mo_goesText_65 : decode b_Mo_goesText 65 = .ok (.ifCond .ne (-50), 3) := by decide +kernel
theorem e_Mo_goesText_68 : decode b_Mo_goesText 68 = .ok (.iconst 0, 1) := by decide +kernel
theorem e_Mo_goesText_69 : decode b_Mo_goesText 69 = .ok (.ireturn, 1) := by decide +kernel
theorem e_Mo_kitchen_0 : decode b_Mo_kitchen 0 = .ok (.aload_n 0, 1) := by decide +kernel
theorem e_Mo_kitchen_1 : decode b_Mo_kitchen 1 = .ok (.getfield 48, 3) := by decide +kernel
theorem e_Mo_kitchen_4 : decode b_Mo_kitchen 4 = .ok (.bipush 6, 2) := by decide +kernel
theorem e_Mo_kitchen_6 : decode b_Mo_kitchen 6 = .ok (.if_icmp .ne 6, 3) := by decide +kernel
theorem e_Mo_kitchen_9 : decode b_Mo_kitchen 9 = .ok (.bipush (-4), 2) := by decide +kernel
theorem e_Mo_kitchen_11 : decode b_Mo_kitchen 11 = .ok (.ireturn, 1) := by decide +kernel
theorem e_Mo_kitchen_12 : decode b_Mo_kitchen 12 = .ok (.aload_n 0, 1) := by decide +kernel
theorem e_Mo_kitchen_13 : decode b_Mo_kitchen 13 = .ok (.aload_n 0, 1) := by decide +kernel
theorem e_Mo_kitchen_14 : decode b_Mo_kitchen 14 = .ok (.getfield 48, 3) := by decide +kernel
theorem e_Mo_kitchen_17 : decode b_Mo_kitchen 17 = .ok (.invokevirtual 315, 3) := by decide +kernel
theorem e_Mo_kitchen_20 : decode b_Mo_kitchen 20 = .ok (.istore_n 1, 1) := by decide +kernel
theorem e_Mo_kitchen_21 : decode b_Mo_kitchen 21 = .ok (.aload_n 0, 1) := by decide +kernel
theorem e_Mo_kitchen_22 : decode b_Mo_kitchen 22 = .ok (.iconst 0, 1) := by decide +kernel
theorem e_Mo_kitchen_23 : decode b_Mo_kitchen 23 = .ok (.putfield 54, 3) := by decide +kernel
theorem e_Mo_kitchen_26 : decode b_Mo_kitchen 26 = .ok (.iload_n 1, 1) := by decide +kernel
theorem e_Mo_kitchen_27 : decode b_Mo_kitchen 27 = .ok (.ifCond .ne 11, 3) := by decide +kernel
theorem e_Mo_kitchen_30 : decode b_Mo_kitchen 30 = .ok (.bipush (-10), 2) := by decide +kernel
theorem e_Mo_kitchen_32 : decode b_Mo_kitchen 32 = .ok (.aload_n 0, 1) := by decide +kernel
theorem e_Mo_kitchen_33 : decode b_Mo_kitchen 33 = .ok (.getfield 57, 3) := by decide +kernel
theorem e_Mo_kitchen_36 : decode b_Mo_kitchen 36 = .ok (.isub, 1) := by decide +kernel
theorem e_Mo_kitchen_37 : decode b_Mo_kitchen 37 = .ok (.ireturn, 1) := by decide +kernel
theorem e_Mo_kitchen_38 : decode b_Mo_kitchen 38 = .ok (.aload_n 0, 1) := by decide +kernel
theorem e_Mo_kitchen_39 : decode b_Mo_kitchen 39 = .ok (.aload_n 0, 1) := by decide +kernel
theorem e_Mo_kitchen_40 : decode b_Mo_kitchen 40 = .ok (.getfield 48, 3) := by decide +kernel
theorem e_Mo_kitchen_43 : decode b_Mo_kitchen 43 = .ok (.putfield 51, 3) := by decide +kernel
theorem e_Mo_kitchen_46 : decode b_Mo_kitchen 46 = .ok (.aload_n 0, 1) := by decide +kernel
theorem e_Mo_kitchen_47 : decode b_Mo_kitchen 47 = .ok (.dup, 1) := by decide +kernel
theorem e_Mo_kitchen_48 : decode b_Mo_kitchen 48 = .ok (.getfield 48, 3) := by decide +kernel
theorem e_Mo_kitchen_51 : decode b_Mo_kitchen 51 = .ok (.iconst 1, 1) := by decide +kernel
theorem e_Mo_kitchen_52 : decode b_Mo_kitchen 52 = .ok (.iadd, 1) := by decide +kernel
theorem e_Mo_kitchen_53 : decode b_Mo_kitchen 53 = .ok (.putfield 48, 3) := by decide +kernel
theorem e_Mo_kitchen_56 : decode b_Mo_kitchen 56 = .ok (.aload_n 0, 1) := by decide +kernel
theorem e_Mo_kitchen_57 : decode b_Mo_kitchen 57 = .ok (.getfield 51, 3) := by decide +kernel
theorem e_Mo_kitchen_60 : decode b_Mo_kitchen 60 = .ok (.ireturn, 1) := by decide +kernel
theorem e_Mo_begin_0 : decode b_Mo_begin 0 = .ok (.aload_n 0, 1) := by decide +kernel
theorem e_Mo_begin_1 : decode b_Mo_begin 1 = .ok (.getfield 51, 3) := by decide +kernel
theorem e_Mo_begin_4 : decode b_Mo_begin 4 = .ok (.ifCond .ge 7, 3) := by decide +kernel
theorem e_Mo_begin_7 : decode b_Mo_begin 7 = .ok (.iconst 0, 1) := by decide +kernel
theorem e_Mo_begin_8 : decode b_Mo_begin 8 = .ok (.goto 10, 3) := by decide +kernel
theorem e_Mo_begin_11 : decode b_Mo_begin 11 = .ok (.bipush 10, 2) := by decide +kernel
theorem e_Mo_begin_13 : decode b_Mo_begin 13 = .ok (.aload_n 0, 1) := by decide +kernel
theorem e_Mo_begin_14 : decode b_Mo_begin 14 = .ok (.getfield 51, 3) := by decide +kernel
theorem e_Mo_begin_17 : decode b_Mo_begin 17 = .ok (.imul, 1) := by decide +kernel
theorem e_Mo_begin_18 : decode b_Mo_begin 18 = .ok (.ireturn, 1) := by decide +kernel
theorem e_Mo_behind_0 : decode b_Mo_behind 0 = .ok (.aload_n 0, 1) := by decide +kernel
theorem e_Mo_behind_1 : decode b_Mo_behind 1 = .ok (.getfield 51, 3) := by decide +kernel
theorem e_Mo_behind_4 : decode b_Mo_behind 4 = .ok (.ifCond .ge 7, 3) := by decide +kernel
theorem e_Mo_behind_7 : decode b_Mo_behind 7 = .ok (.iconst 0, 1) := by decide +kernel
theorem e_Mo_behind_8 : decode b_Mo_behind 8 = .ok (.goto 20, 3) := by decide +kernel
theorem e_Mo_behind_11 : decode b_Mo_behind 11 = .ok (.bipush 10, 2) := by decide +kernel
theorem e_Mo_behind_13 : decode b_Mo_behind 13 = .ok (.aload_n 0, 1) := by decide +kernel
theorem e_Mo_behind_14 : decode b_Mo_behind 14 = .ok (.getfield 51, 3) := by decide +kernel
theorem e_Mo_behind_17 : decode b_Mo_behind 17 = .ok (.imul, 1) := by decide +kernel
theorem e_Mo_behind_18 : decode b_Mo_behind 18 = .ok (.aload_n 0, 1) := by decide +kernel
theorem e_Mo_behind_19 : decode b_Mo_behind 19 = .ok (.getfield 66, 3) := by decide +kernel
theorem e_Mo_behind_22 : decode b_Mo_behind 22 = .ok (.aload_n 0, 1) := by decide +kernel
theorem e_Mo_behind_23 : decode b_Mo_behind 23 = .ok (.getfield 51, 3) := by decide +kernel
theorem e_Mo_behind_26 : decode b_Mo_behind 26 = .ok (.iaload, 1) := by decide +kernel
theorem e_Mo_behind_27 : decode b_Mo_behind 27 = .ok (.iadd, 1) := by decide +kernel
theorem e_Mo_behind_28 : decode b_Mo_behind 28 = .ok (.ireturn, 1) := by decide +kernel
theorem e_Mo_need_0 : decode b_Mo_need 0 = .ok (.bipush 60, 2) := by decide +kernel
theorem e_Mo_need_2 : decode b_Mo_need 2 = .ok (.istore_n 1, 1) := by decide +kernel
theorem e_Mo_need_3 : decode b_Mo_need 3 = .ok (.aload_n 0, 1) := by decide +kernel
theorem e_Mo_need_4 : decode b_Mo_need 4 = .ok (.invokevirtual 318, 3) := by decide +kernel
theorem e_Mo_need_7 : decode b_Mo_need 7 = .ok (.istore_n 2, 1) := by decide +kernel
theorem e_Mo_need_8 : decode b_Mo_need 8 = .ok (.iload_n 2, 1) := by decide +kernel
theorem e_Mo_need_9 : decode b_Mo_need 9 = .ok (.aload_n 0, 1) := by decide +kernel
theorem e_Mo_need_10 : decode b_Mo_need 10 = .ok (.invokevirtual 321, 3) := by decide +kernel
theorem e_Mo_need_13 : decode b_Mo_need 13 = .ok (.if_icmp .ge 33, 3) := by decide +kernel
theorem e_Mo_need_16 : decode b_Mo_need 16 = .ok (.aload_n 0, 1) := by decide +kernel
theorem e_Mo_need_17 : decode b_Mo_need 17 = .ok (.getfield 69, 3) := by decide +kernel
theorem e_Mo_need_20 : decode b_Mo_need 20 = .ok (.iload_n 2, 1) := by decide +kernel
theorem e_Mo_need_21 : decode b_Mo_need 21 = .ok (.iaload, 1) := by decide +kernel
theorem e_Mo_need_22 : decode b_Mo_need 22 = .ok (.iconst 2, 1) := by decide +kernel
theorem e_Mo_need_23 : decode b_Mo_need 23 = .ok (.if_icmp .ne 15, 3) := by decide +kernel
theorem e_Mo_need_26 : decode b_Mo_need 26 = .ok (.bipush 10, 2) := by decide +kernel
theorem e_Mo_need_28 : decode b_Mo_need 28 = .ok (.aload_n 0, 1) := by decide +kernel
theorem e_Mo_need_29 : decode b_Mo_need 29 = .ok (.getfield 72, 3) := by decide +kernel
theorem e_Mo_need_32 : decode b_Mo_need 32 = .ok (.iload_n 2, 1) := by decide +kernel
theorem e_Mo_need_33 : decode b_Mo_need 33 = .ok (.iaload, 1) := by decide +kernel
theorem e_Mo_need_34 : decode b_Mo_need 34 = .ok (.imul, 1) := by decide +kernel
theorem e_Mo_need_35 : decode b_Mo_need 35 = .ok (.goto 4, 3) := by decide +kernel
theorem e_Mo_need_38 : decode b_Mo_need 38 = .ok (.iload_n 1, 1) := by decide +kernel
theorem e_Mo_need_39 : decode b_Mo_need 39 = .ok (.istore_n 1, 1) := by decide +kernel
theorem e_Mo_need_40 : decode b_Mo_need 40 = .ok (.iinc 2 1, 3) := by decide +kernel
theorem e_Mo_need_43 : decode b_Mo_need 43 = .ok (.goto (-35), 3) := by decide +kernel
theorem e_Mo_need_46 : decode b_Mo_need 46 = .ok (.iload_n 1, 1) := by decide +kernel
theorem e_Mo_need_47 : decode b_Mo_need 47 = .ok (.ireturn, 1) := by decide +kernel
theorem e_Mo_factOf_0 : decode b_Mo_factOf 0 = .ok (.iload_n 1, 1) := by decide +kernel
theorem e_Mo_factOf_1 : decode b_Mo_factOf 1 = .ok (.tableswitch 65 0 4 #[35, 37, 44, 51, 58], 35) := by decide +kernel
theorem e_Mo_factOf_36 : decode b_Mo_factOf 36 = .ok (.iload_n 2, 1) := by decide +kernel
theorem e_Mo_factOf_37 : decode b_Mo_factOf 37 = .ok (.ireturn, 1) := by decide +kernel
theorem e_Mo_factOf_38 : decode b_Mo_factOf 38 = .ok (.aload_n 0, 1) := by decide +kernel
theorem e_Mo_factOf_39 : decode b_Mo_factOf 39 = .ok (.getfield 26, 3) := by decide +kernel
theorem e_Mo_factOf_42 : decode b_Mo_factOf 42 = .ok (.iload_n 2, 1) := by decide +kernel
theorem e_Mo_factOf_43 : decode b_Mo_factOf 43 = .ok (.iaload, 1) := by decide +kernel
theorem e_Mo_factOf_44 : decode b_Mo_factOf 44 = .ok (.ireturn, 1) := by decide +kernel
theorem e_Mo_factOf_45 : decode b_Mo_factOf 45 = .ok (.aload_n 0, 1) := by decide +kernel
theorem e_Mo_factOf_46 : decode b_Mo_factOf 46 = .ok (.getfield 30, 3) := by decide +kernel
theorem e_Mo_factOf_49 : decode b_Mo_factOf 49 = .ok (.iload_n 2, 1) := by decide +kernel
theorem e_Mo_factOf_50 : decode b_Mo_factOf 50 = .ok (.iaload, 1) := by decide +kernel
theorem e_Mo_factOf_51 : decode b_Mo_factOf 51 = .ok (.ireturn, 1) := by decide +kernel
theorem e_Mo_factOf_52 : decode b_Mo_factOf 52 = .ok (.aload_n 0, 1) := by decide +kernel
theorem e_Mo_factOf_53 : decode b_Mo_factOf 53 = .ok (.getfield 33, 3) := by decide +kernel
theorem e_Mo_factOf_56 : decode b_Mo_factOf 56 = .ok (.iload_n 2, 1) := by decide +kernel
theorem e_Mo_factOf_57 : decode b_Mo_factOf 57 = .ok (.iaload, 1) := by decide +kernel
theorem e_Mo_factOf_58 : decode b_Mo_factOf 58 = .ok (.ireturn, 1) := by decide +kernel
theorem e_Mo_factOf_59 : decode b_Mo_factOf 59 = .ok (.aload_n 0, 1) := by decide +kernel
theorem e_Mo_factOf_60 : decode b_Mo_factOf 60 = .ok (.getfield 36, 3) := by decide +kernel
theorem e_Mo_factOf_63 : decode b_Mo_factOf 63 = .ok (.iload_n 2, 1) := by decide +kernel
theorem e_Mo_factOf_64 : decode b_Mo_factOf 64 = .ok (.iaload, 1) := by decide +kernel
theorem e_Mo_factOf_65 : decode b_Mo_factOf 65 = .ok (.ireturn, 1) := by decide +kernel
theorem e_Mo_factOf_66 : decode b_Mo_factOf 66 = .ok (.aload_n 0, 1) := by decide +kernel
theorem e_Mo_factOf_67 : decode b_Mo_factOf 67 = .ok (.getfield 19, 3) := by decide +kernel
theorem e_Mo_factOf_70 : decode b_Mo_factOf 70 = .ok (.bipush 10, 2) := by decide +kernel
theorem e_Mo_factOf_72 : decode b_Mo_factOf 72 = .ok (.irem, 1) := by decide +kernel
theorem e_Mo_factOf_73 : decode b_Mo_factOf 73 = .ok (.ireturn, 1) := by decide +kernel
theorem e_Mo_holds_0 : decode b_Mo_holds 0 = .ok (.iconst 0, 1) := by decide +kernel
theorem e_Mo_holds_1 : decode b_Mo_holds 1 = .ok (.istore_n 3, 1) := by decide +kernel
theorem e_Mo_holds_2 : decode b_Mo_holds 2 = .ok (.aload_n 0, 1) := by decide +kernel
theorem e_Mo_holds_3 : decode b_Mo_holds 3 = .ok (.getfield 75, 3) := by decide +kernel
theorem e_Mo_holds_6 : decode b_Mo_holds 6 = .ok (.iload_n 1, 1) := by decide +kernel
theorem e_Mo_holds_7 : decode b_Mo_holds 7 = .ok (.iaload, 1) := by decide +kernel
theorem e_Mo_holds_8 : decode b_Mo_holds 8 = .ok (.istore 4, 2) := by decide +kernel
theorem e_Mo_holds_10 : decode b_Mo_holds 10 = .ok (.iload 4, 2) := by decide +kernel
theorem e_Mo_holds_12 : decode b_Mo_holds 12 = .ok (.aload_n 0, 1) := by decide +kernel
theorem e_Mo_holds_13 : decode b_Mo_holds 13 = .ok (.getfield 78, 3) := by decide +kernel
theorem e_Mo_holds_16 : decode b_Mo_holds 16 = .ok (.iload_n 1, 1) := by decide +kernel
theorem e_Mo_holds_17 : decode b_Mo_holds 17 = .ok (.iaload, 1) := by decide +kernel
theorem e_Mo_holds_18 : decode b_Mo_holds 18 = .ok (.if_icmp .ge 225, 3) := by decide +kernel
theorem e_Mo_holds_21 : decode b_Mo_holds 21 = .ok (.aload_n 0, 1) := by decide +kernel
theorem e_Mo_holds_22 : decode b_Mo_holds 22 = .ok (.getfield 81, 3) := by decide +kernel
theorem e_Mo_holds_25 : decode b_Mo_holds 25 = .ok (.iload 4, 2) := by decide +kernel
theorem e_Mo_holds_27 : decode b_Mo_holds 27 = .ok (.iaload, 1) := by decide +kernel
theorem e_Mo_holds_28 : decode b_Mo_holds 28 = .ok (.istore 5, 2) := by decide +kernel
theorem e_Mo_holds_30 : decode b_Mo_holds 30 = .ok (.iload 5, 2) := by decide +kernel
theorem e_Mo_holds_32 : decode b_Mo_holds 32 = .ok (.bipush (-33), 2) := by decide +kernel
theorem e_Mo_holds_34 : decode b_Mo_holds 34 = .ok (.if_icmp .ne 30, 3) := by decide +kernel
theorem e_Mo_holds_37 : decode b_Mo_holds 37 = .ok (.aload_n 0, 1) := by decide +kernel
theorem e_Mo_holds_38 : decode b_Mo_holds 38 = .ok (.getfield 99, 3) := by decide +kernel
theorem e_Mo_holds_41 : decode b_Mo_holds 41 = .ok (.iload_n 3, 1) := by decide +kernel
theorem e_Mo_holds_42 : decode b_Mo_holds 42 = .ok (.iconst 1, 1) := by decide +kernel
theorem e_Mo_holds_43 : decode b_Mo_holds 43 = .ok (.isub, 1) := by decide +kernel
theorem e_Mo_holds_44 : decode b_Mo_holds 44 = .ok (.aload_n 0, 1) := by decide +kernel
theorem e_Mo_holds_45 : decode b_Mo_holds 45 = .ok (.getfield 99, 3) := by decide +kernel
theorem e_Mo_holds_48 : decode b_Mo_holds 48 = .ok (.iload_n 3, 1) := by decide +kernel
theorem e_Mo_holds_49 : decode b_Mo_holds 49 = .ok (.iconst 1, 1) := by decide +kernel
theorem e_Mo_holds_50 : decode b_Mo_holds 50 = .ok (.isub, 1) := by decide +kernel
theorem e_Mo_holds_51 : decode b_Mo_holds 51 = .ok (.baload, 1) := by decide +kernel
theorem e_Mo_holds_52 : decode b_Mo_holds 52 = .ok (.ifCond .ne 7, 3) := by decide +kernel
theorem e_Mo_holds_55 : decode b_Mo_holds 55 = .ok (.iconst 1, 1) := by decide +kernel
theorem e_Mo_holds_56 : decode b_Mo_holds 56 = .ok (.goto 4, 3) := by decide +kernel
theorem e_Mo_holds_59 : decode b_Mo_holds 59 = .ok (.iconst 0, 1) := by decide +kernel
theorem e_Mo_holds_60 : decode b_Mo_holds 60 = .ok (.bastore, 1) := by decide +kernel
theorem e_Mo_holds_61 : decode b_Mo_holds 61 = .ok (.goto 176, 3) := by decide +kernel
theorem e_Mo_holds_64 : decode b_Mo_holds 64 = .ok (.iload 5, 2) := by decide +kernel
theorem e_Mo_holds_66 : decode b_Mo_holds 66 = .ok (.ifCond .ge 77, 3) := by decide +kernel
theorem e_Mo_holds_69 : decode b_Mo_holds 69 = .ok (.iinc 3 (-1), 3) := by decide +kernel
theorem e_Mo_holds_72 : decode b_Mo_holds 72 = .ok (.aload_n 0, 1) := by decide +kernel
theorem e_Mo_holds_73 : decode b_Mo_holds 73 = .ok (.getfield 99, 3) := by decide +kernel
theorem e_Mo_holds_76 : decode b_Mo_holds 76 = .ok (.iload_n 3, 1) := by decide +kernel
theorem e_Mo_holds_77 : decode b_Mo_holds 77 = .ok (.iconst 1, 1) := by decide +kernel
theorem e_Mo_holds_78 : decode b_Mo_holds 78 = .ok (.isub, 1) := by decide +kernel
theorem e_Mo_holds_79 : decode b_Mo_holds 79 = .ok (.iload 5, 2) := by decide +kernel
theorem e_Mo_holds_81 : decode b_Mo_holds 81 = .ok (.bipush (-38), 2) := by decide +kernel
theorem e_Mo_holds_83 : decode b_Mo_holds 83 = .ok (.if_icmp .ne 31, 3) := by decide +kernel
theorem e_Mo_holds_86 : decode b_Mo_holds 86 = .ok (.aload_n 0, 1) := by decide +kernel
theorem e_Mo_holds_87 : decode b_Mo_holds 87 = .ok (.getfield 99, 3) := by decide +kernel
theorem e_Mo_holds_90 : decode b_Mo_holds 90 = .ok (.iload_n 3, 1) := by decide +kernel
theorem e_Mo_holds_91 : decode b_Mo_holds 91 = .ok (.iconst 1, 1) := by decide +kernel
theorem e_Mo_holds_92 : decode b_Mo_holds 92 = .ok (.isub, 1) := by decide +kernel
theorem e_Mo_holds_93 : decode b_Mo_holds 93 = .ok (.baload, 1) := by decide +kernel
theorem e_Mo_holds_94 : decode b_Mo_holds 94 = .ok (.ifCond .eq 16, 3) := by decide +kernel
theorem e_Mo_holds_97 : decode b_Mo_holds 97 = .ok (.aload_n 0, 1) := by decide +kernel
theorem e_Mo_holds_98 : decode b_Mo_holds 98 = .ok (.getfield 99, 3) := by decide +kernel
theorem e_Mo_holds_101 : decode b_Mo_holds 101 = .ok (.iload_n 3, 1) := by decide +kernel
theorem e_Mo_holds_102 : decode b_Mo_holds 102 = .ok (.baload, 1) := by decide +kernel
theorem e_Mo_holds_103 : decode b_Mo_holds 103 = .ok (.ifCond .eq 7, 3) := by decide +kernel
theorem e_Mo_holds_106 : decode b_Mo_holds 106 = .ok (.iconst 1, 1) := by decide +kernel
theorem e_Mo_holds_107 : decode b_Mo_holds 107 = .ok (.goto 32, 3) := by decide +kernel
theorem e_Mo_holds_110 : decode b_Mo_holds 110 = .ok (.iconst 0, 1) := by decide +kernel
theorem e_Mo_holds_111 : decode b_Mo_holds 111 = .ok (.goto 28, 3) := by decide +kernel
theorem e_Mo_holds_114 : decode b_Mo_holds 114 = .ok (.aload_n 0, 1) := by decide +kernel
theorem e_Mo_holds_115 : decode b_Mo_holds 115 = .ok (.getfield 99, 3) := by decide +kernel
theorem e_Mo_holds_118 : decode b_Mo_holds 118 = .ok (.iload_n 3, 1) := by decide +kernel
theorem e_Mo_holds_119 : decode b_Mo_holds 119 = .ok (.iconst 1, 1) := by decide +kernel
theorem e_Mo_holds_120 : decode b_Mo_holds 120 = .ok (.isub, 1) := by decide +kernel
theorem e_Mo_holds_121 : decode b_Mo_holds 121 = .ok (.baload, 1) := by decide +kernel
theorem e_Mo_holds_122 : decode b_Mo_holds 122 = .ok (.ifCond .ne 12, 3) := by decide +kernel
theorem e_Mo_holds_125 : decode b_Mo_holds 125 = .ok (.aload_n 0, 1) := by decide +kernel
theorem e_Mo_holds_126 : decode b_Mo_holds 126 = .ok (.getfield 99, 3) := by decide +kernel
theorem e_Mo_holds_129 : decode b_Mo_holds 129 = .ok (.iload_n 3, 1) := by decide +kernel
theorem e_Mo_holds_130 : decode b_Mo_holds 130 = .ok (.baload, 1) := by decide +kernel
theorem e_Mo_holds_131 : decode b_Mo_holds 131 = .ok (.ifCond .eq 7, 3) := by decide +kernel
theorem e_Mo_holds_134 : decode b_Mo_holds 134 = .ok (.iconst 1, 1) := by decide +kernel
theorem e_Mo_holds_135 : decode b_Mo_holds 135 = .ok (.goto 4, 3) := by decide +kernel
theorem e_Mo_holds_138 : decode b_Mo_holds 138 = .ok (.iconst 0, 1) := by decide +kernel
theorem e_Mo_holds_139 : decode b_Mo_holds 139 = .ok (.bastore, 1) := by decide +kernel
theorem e_Mo_holds_140 : decode b_Mo_holds 140 = .ok (.goto 97, 3) := by decide +kernel
theorem e_Mo_holds_143 : decode b_Mo_holds 143 = .ok (.aload_n 0, 1) := by decide +kernel
theorem e_Mo_holds_144 : decode b_Mo_holds 144 = .ok (.iload 5, 2) := by decide +kernel
theorem e_Mo_holds_146 : decode b_Mo_holds 146 = .ok (.sipush 1000, 3) := by decide +kernel
theorem e_Mo_holds_149 : decode b_Mo_holds 149 = .ok (.idiv, 1) := by decide +kernel
theorem e_Mo_holds_150 : decode b_Mo_holds 150 = .ok (.iload_n 2, 1) := by decide +kernel
theorem e_Mo_holds_151 : decode b_Mo_holds 151 = .ok (.invokevirtual 324, 3) := by decide +kernel
theorem e_Mo_holds_154 : decode b_Mo_holds 154 = .ok (.istore 6, 2) := by decide +kernel
theorem e_Mo_holds_156 : decode b_Mo_holds 156 = .ok (.iload 5, 2) := by decide +kernel
theorem e_Mo_holds_158 : decode b_Mo_holds 158 = .ok (.bipush 100, 2) := by decide +kernel
theorem e_Mo_holds_160 : decode b_Mo_holds 160 = .ok (.idiv, 1) := by decide +kernel
theorem e_Mo_holds_161 : decode b_Mo_holds 161 = .ok (.bipush 10, 2) := by decide +kernel
theorem e_Mo_holds_163 : decode b_Mo_holds 163 = .ok (.irem, 1) := by decide +kernel
theorem e_Mo_holds_164 : decode b_Mo_holds 164 = .ok (.istore 7, 2) := by decide +kernel
theorem e_Mo_holds_166 : decode b_Mo_holds 166 = .ok (.aload_n 0, 1) := by decide +kernel
theorem e_Mo_holds_167 : decode b_Mo_holds 167 = .ok (.getfield 99, 3) := by decide +kernel
theorem e_Mo_holds_170 : decode b_Mo_holds 170 = .ok (.iload_n 3, 1) := by decide +kernel
theorem e_Mo_holds_171 : decode b_Mo_holds 171 = .ok (.iload 7, 2) := by decide +kernel
theorem e_Mo_holds_173 : decode b_Mo_holds 173 = .ok (.ifCond .ne 21, 3) := by decide +kernel
theorem e_Mo_holds_176 : decode b_Mo_holds 176 = .ok (.iload 6, 2) := by decide +kernel
theorem e_Mo_holds_178 : decode b_Mo_holds 178 = .ok (.iload 5, 2) := by decide +kernel
theorem e_Mo_holds_180 : decode b_Mo_holds 180 = .ok (.bipush 100, 2) := by decide +kernel
theorem e_Mo_holds_182 : decode b_Mo_holds 182 = .ok (.irem, 1) := by decide +kernel
theorem e_Mo_holds_183 : decode b_Mo_holds 183 = .ok (.if_icmp .ge 7, 3) := by decide +kernel
theorem e_Mo_holds_186 : decode b_Mo_holds 186 = .ok (.iconst 1, 1) := by decide +kernel
theorem e_Mo_holds_187 : decode b_Mo_holds 187 = .ok (.goto 46, 3) := by decide +kernel
theorem e_Mo_holds_190 : decode b_Mo_holds 190 = .ok (.iconst 0, 1) := by decide +kernel
theorem e_Mo_holds_191 : decode b_Mo_holds 191 = .ok (.goto 42, 3) := by decide +kernel
theorem e_Mo_holds_194 : decode b_Mo_holds 194 = .ok (.iload 7, 2) := by decide +kernel
theorem e_Mo_holds_196 : decode b_Mo_holds 196 = .ok (.iconst 1, 1) := by decide +kernel
theorem e_Mo_holds_197 : decode b_Mo_holds 197 = .ok (.if_icmp .ne 21, 3) := by decide +kernel
theorem e_Mo_holds_200 : decode b_Mo_holds 200 = .ok (.iload 6, 2) := by decide +kernel
theorem e_Mo_holds_202 : decode b_Mo_holds 202 = .ok (.iload 5, 2) := by decide +kernel
theorem e_Mo_holds_204 : decode b_Mo_holds 204 = .ok (.bipush 100, 2) := by decide +kernel
theorem e_Mo_holds_206 : decode b_Mo_holds 206 = .ok (.irem, 1) := by decide +kernel
theorem e_Mo_holds_207 : decode b_Mo_holds 207 = .ok (.if_icmp .ne 7, 3) := by decide +kernel
theorem e_Mo_holds_210 : decode b_Mo_holds 210 = .ok (.iconst 1, 1) := by decide +kernel
theorem e_Mo_holds_211 : decode b_Mo_holds 211 = .ok (.goto 22, 3) := by decide +kernel
theorem e_Mo_holds_214 : decode b_Mo_holds 214 = .ok (.iconst 0, 1) := by decide +kernel
theorem e_Mo_holds_215 : decode b_Mo_holds 215 = .ok (.goto 18, 3) := by decide +kernel
theorem e_Mo_holds_218 : decode b_Mo_holds 218 = .ok (.iload 6, 2) := by decide +kernel
theorem e_Mo_holds_220 : decode b_Mo_holds 220 = .ok (.iload 5, 2) := by decide +kernel
theorem e_Mo_holds_222 : decode b_Mo_holds 222 = .ok (.bipush 100, 2) := by decide +kernel
theorem e_Mo_holds_224 : decode b_Mo_holds 224 = .ok (.irem, 1) := by decide +kernel
theorem e_Mo_holds_225 : decode b_Mo_holds 225 = .ok (.if_icmp .le 7, 3) := by decide +kernel
theorem e_Mo_holds_228 : decode b_Mo_holds 228 = .ok (.iconst 1, 1) := by decide +kernel
theorem e_Mo_holds_229 : decode b_Mo_holds 229 = .ok (.goto 4, 3) := by decide +kernel
theorem e_Mo_holds_232 : decode b_Mo_holds 232 = .ok (.iconst 0, 1) := by decide +kernel
theorem e_Mo_holds_233 : decode b_Mo_holds 233 = .ok (.bastore, 1) := by decide +kernel
theorem e_Mo_holds_234 : decode b_Mo_holds 234 = .ok (.iinc 3 1, 3) := by decide +kernel
theorem e_Mo_holds_237 : decode b_Mo_holds 237 = .ok (.iinc 4 1, 3) := by decide +kernel
theorem e_Mo_holds_240 : decode b_Mo_holds 240 = .ok (.goto (-230), 3) := by decide +kernel
theorem e_Mo_holds_243 : decode b_Mo_holds 243 = .ok (.aload_n 0, 1) := by decide +kernel
theorem e_Mo_holds_244 : decode b_Mo_holds 244 = .ok (.getfield 99, 3) := by decide +kernel
theorem e_Mo_holds_247 : decode b_Mo_holds 247 = .ok (.iconst 0, 1) := by decide +kernel
theorem e_Mo_holds_248 : decode b_Mo_holds 248 = .ok (.baload, 1) := by decide +kernel
theorem e_Mo_holds_249 : decode b_Mo_holds 249 = .ok (.ireturn, 1) := by decide +kernel
theorem e_Mo_sum_0 : decode b_Mo_sum 0 = .ok (.aload_n 0, 1) := by decide +kernel
theorem e_Mo_sum_1 : decode b_Mo_sum 1 = .ok (.getfield 33, 3) := by decide +kernel
theorem e_Mo_sum_4 : decode b_Mo_sum 4 = .ok (.iload_n 1, 1) := by decide +kernel
theorem e_Mo_sum_5 : decode b_Mo_sum 5 = .ok (.iaload, 1) := by decide +kernel
theorem e_Mo_sum_6 : decode b_Mo_sum 6 = .ok (.istore_n 2, 1) := by decide +kernel
theorem e_Mo_sum_7 : decode b_Mo_sum 7 = .ok (.aload_n 0, 1) := by decide +kernel
theorem e_Mo_sum_8 : decode b_Mo_sum 8 = .ok (.invokevirtual 318, 3) := by decide +kernel
theorem e_Mo_sum_11 : decode b_Mo_sum 11 = .ok (.istore_n 3, 1) := by decide +kernel
theorem e_Mo_sum_12 : decode b_Mo_sum 12 = .ok (.iload_n 3, 1) := by decide +kernel
theorem e_Mo_sum_13 : decode b_Mo_sum 13 = .ok (.aload_n 0, 1) := by decide +kernel
theorem e_Mo_sum_14 : decode b_Mo_sum 14 = .ok (.invokevirtual 321, 3) := by decide +kernel
theorem e_Mo_sum_17 : decode b_Mo_sum 17 = .ok (.if_icmp .ge 59, 3) := by decide +kernel
theorem e_Mo_sum_20 : decode b_Mo_sum 20 = .ok (.aload_n 0, 1) := by decide +kernel
theorem e_Mo_sum_21 : decode b_Mo_sum 21 = .ok (.getfield 69, 3) := by decide +kernel
theorem e_Mo_sum_24 : decode b_Mo_sum 24 = .ok (.iload_n 3, 1) := by decide +kernel
theorem e_Mo_sum_25 : decode b_Mo_sum 25 = .ok (.iaload, 1) := by decide +kernel
theorem e_Mo_sum_26 : decode b_Mo_sum 26 = .ok (.iconst 1, 1) := by decide +kernel
theorem e_Mo_sum_27 : decode b_Mo_sum 27 = .ok (.if_icmp .gt 43, 3) := by decide +kernel
theorem e_Mo_sum_30 : decode b_Mo_sum 30 = .ok (.aload_n 0, 1) := by decide +kernel
theorem e_Mo_sum_31 : decode b_Mo_sum 31 = .ok (.iload_n 3, 1) := by decide +kernel
theorem e_Mo_sum_32 : decode b_Mo_sum 32 = .ok (.iload_n 1, 1) := by decide +kernel
theorem e_Mo_sum_33 : decode b_Mo_sum 33 = .ok (.invokevirtual 328, 3) := by decide +kernel
theorem e_Mo_sum_36 : decode b_Mo_sum 36 = .ok (.ifCond .ne 6, 3) := by decide +kernel
theorem e_Mo_sum_39 : decode b_Mo_sum 39 = .ok (.goto 31, 3) := by decide +kernel
theorem e_Mo_sum_42 : decode b_Mo_sum 42 = .ok (.iload_n 2, 1) := by decide +kernel
theorem e_Mo_sum_43 : decode b_Mo_sum 43 = .ok (.aload_n 0, 1) := by decide +kernel
theorem e_Mo_sum_44 : decode b_Mo_sum 44 = .ok (.getfield 69, 3) := by decide +kernel
theorem e_Mo_sum_47 : decode b_Mo_sum 47 = .ok (.iload_n 3, 1) := by decide +kernel
theorem e_Mo_sum_48 : decode b_Mo_sum 48 = .ok (.iaload, 1) := by decide +kernel
theorem e_Mo_sum_49 : decode b_Mo_sum 49 = .ok (.ifCond .ne 12, 3) := by decide +kernel
theorem e_Mo_sum_52 : decode b_Mo_sum 52 = .ok (.aload_n 0, 1) := by decide +kernel
theorem e_Mo_sum_53 : decode b_Mo_sum 53 = .ok (.getfield 72, 3) := by decide +kernel
theorem e_Mo_sum_56 : decode b_Mo_sum 56 = .ok (.iload_n 3, 1) := by decide +kernel
theorem e_Mo_sum_57 : decode b_Mo_sum 57 = .ok (.iaload, 1) := by decide +kernel
theorem e_Mo_sum_58 : decode b_Mo_sum 58 = .ok (.goto 10, 3) := by decide +kernel
theorem e_Mo_sum_61 : decode b_Mo_sum 61 = .ok (.aload_n 0, 1) := by decide +kernel
theorem e_Mo_sum_62 : decode b_Mo_sum 62 = .ok (.getfield 72, 3) := by decide +kernel
theorem e_Mo_sum_65 : decode b_Mo_sum 65 = .ok (.iload_n 3, 1) := by decide +kernel
theorem e_Mo_sum_66 : decode b_Mo_sum 66 = .ok (.iaload, 1) := by decide +kernel
theorem e_Mo_sum_67 : decode b_Mo_sum 67 = .ok (.ineg, 1) := by decide +kernel
theorem e_Mo_sum_68 : decode b_Mo_sum 68 = .ok (.iadd, 1) := by decide +kernel
theorem e_Mo_sum_69 : decode b_Mo_sum 69 = .ok (.istore_n 2, 1) := by decide +kernel
theorem e_Mo_sum_70 : decode b_Mo_sum 70 = .ok (.iinc 3 1, 3) := by decide +kernel
theorem e_Mo_sum_73 : decode b_Mo_sum 73 = .ok (.goto (-61), 3) := by decide +kernel
theorem e_Mo_sum_76 : decode b_Mo_sum 76 = .ok (.iload_n 2, 1) := by decide +kernel
theorem e_Mo_sum_77 : decode b_Mo_sum 77 = .ok (.ireturn, 1) := by decide +kernel
theorem e_Mo_isSaidBeside_0 : decode b_Mo_isSaidBeside 0 = .ok (.iconst 0, 1) := by decide +kernel
theorem e_Mo_isSaidBeside_1 : decode b_Mo_isSaidBeside 1 = .ok (.istore_n 2, 1) := by decide +kernel
theorem e_Mo_isSaidBeside_2 : decode b_Mo_isSaidBeside 2 = .ok (.iload_n 2, 1) := by decide +kernel
theorem e_Mo_isSaidBeside_3 : decode b_Mo_isSaidBeside 3 = .ok (.aload_n 0, 1) := by decide +kernel
theorem e_Mo_isSaidBeside_4 : decode b_Mo_isSaidBeside 4 = .ok (.getfield 7, 3) := by decide +kernel
theorem e_Mo_isSaidBeside_7 : decode b_Mo_isSaidBeside 7 = .ok (.if_icmp .ge 41, 3) := by decide +kernel
theorem e_Mo_isSaidBeside_10 : decode b_Mo_isSaidBeside 10 = .ok (.iload_n 2, 1) := by decide +kernel
theorem e_Mo_isSaidBeside_11 : decode b_Mo_isSaidBeside 11 = .ok (.iload_n 1, 1) := by decide +kernel
theorem e_Mo_isSaidBeside_12 : decode b_Mo_isSaidBeside 12 = .ok (.if_icmp .eq 30, 3) := by decide +kernel
theorem e_Mo_isSaidBeside_15 : decode b_Mo_isSaidBeside 15 = .ok (.aload_n 0, 1) := by decide +kernel
theorem e_Mo_isSaidBeside_16 : decode b_Mo_isSaidBeside 16 = .ok (.getfield 36, 3) := by decide +kernel
theorem e_Mo_isSaidBeside_19 : decode b_Mo_isSaidBeside 19 = .ok (.iload_n 2, 1) := by decide +kernel
theorem e_Mo_isSaidBeside_20 : decode b_Mo_isSaidBeside 20 = .ok (.iaload, 1) := by decide +kernel
theorem e_Mo_isSaidBeside_21 : decode b_Mo_isSaidBeside 21 = .ok (.aload_n 0, 1) := by decide +kernel
theorem e_Mo_isSaidBeside_22 : decode b_Mo_isSaidBeside 22 = .ok (.getfield 36, 3) := by decide +kernel
theorem e_Mo_isSaidBeside_25 : decode b_Mo_isSaidBeside 25 = .ok (.iload_n 1, 1) := by decide +kernel
theorem e_Mo_isSaidBeside_26 : decode b_Mo_isSaidBeside 26 = .ok (.iaload, 1) := by decide +kernel
theorem e_Mo_isSaidBeside_27 : decode b_Mo_isSaidBeside 27 = .ok (.if_icmp .ne 15, 3) := by decide +kernel
theorem e_Mo_isSaidBeside_30 : decode b_Mo_isSaidBeside 30 = .ok (.aload_n 0, 1) := by decide +kernel
theorem e_Mo_isSaidBeside_31 : decode b_Mo_isSaidBeside 31 = .ok (.getfield 39, 3) := by decide +kernel
theorem e_Mo_isSaidBeside_34 : decode b_Mo_isSaidBeside 34 = .ok (.iload_n 2, 1) := by decide +kernel
theorem e_Mo_isSaidBeside_35 : decode b_Mo_isSaidBeside 35 = .ok (.iaload, 1) := by decide +kernel
theorem e_Mo_isSaidBeside_36 : decode b_Mo_isSaidBeside 36 = .ok (.iconst 2, 1) := by decide +kernel
theorem e_Mo_isSaidBeside_37 : decode b_Mo_isSaidBeside 37 = .ok (.if_icmp .ne 5, 3) := by decide +kernel
theorem e_Mo_isSaidBeside_40 : decode b_Mo_isSaidBeside 40 = .ok (.iconst 1, 1) := by decide +kernel
theorem e_Mo_isSaidBeside_41 : decode b_Mo_isSaidBeside 41 = .ok (.ireturn, 1) := by decide +kernel
theorem e_Mo_isSaidBeside_42 : decode b_Mo_isSaidBeside 42 = .ok (.iinc 2 1, 3) := by decide +kernel
theorem e_Mo_isSaidBeside_45 : decode b_Mo_isSaidBeside 45 = .ok (.goto (-43), 3) := by decide +kernel
theorem e_Mo_isSaidBeside_48 : decode b_Mo_isSaidBeside 48 = .ok (.iconst 0, 1) := by decide +kernel
theorem e_Mo_isSaidBeside_49 : decode b_Mo_isSaidBeside 49 = .ok (.ireturn, 1) := by decide +kernel
theorem e_Mo_gives_0 : decode b_Mo_gives 0 = .ok (.aload_n 0, 1) := by decide +kernel
theorem e_Mo_gives_1 : decode b_Mo_gives 1 = .ok (.iload_n 1, 1) := by decide +kernel
theorem e_Mo_gives_2 : decode b_Mo_gives 2 = .ok (.invokevirtual 331, 3) := by decide +kernel
theorem e_Mo_gives_5 : decode b_Mo_gives 5 = .ok (.istore_n 2, 1) := by decide +kernel
theorem e_Mo_gives_6 : decode b_Mo_gives 6 = .ok (.aload_n 0, 1) := by decide +kernel
theorem e_Mo_gives_7 : decode b_Mo_gives 7 = .ok (.getfield 26, 3) := by decide +kernel
theorem e_Mo_gives_10 : decode b_Mo_gives 10 = .ok (.iload_n 1, 1) := by decide +kernel
theorem e_Mo_gives_11 : decode b_Mo_gives 11 = .ok (.iaload, 1) := by decide +kernel
theorem e_Mo_gives_12 : decode b_Mo_gives 12 = .ok (.tableswitch 144 1 6 #[40, 49, 53, 67, 97, 114], 40) := by decide +kernel
theorem e_Mo_gives_52 : decode b_Mo_gives 52 = .ok (.iload_n 2, 1) := by decide +kernel
theorem e_Mo_gives_53 : decode b_Mo_gives 53 = .ok (.aload_n 0, 1) := by decide +kernel
theorem e_Mo_gives_54 : decode b_Mo_gives 54 = .ok (.getfield 30, 3) := by decide +kernel
theorem e_Mo_gives_57 : decode b_Mo_gives 57 = .ok (.iload_n 1, 1) := by decide +kernel
theorem e_Mo_gives_58 : decode b_Mo_gives 58 = .ok (.iaload, 1) := by decide +kernel
theorem e_Mo_gives_59 : decode b_Mo_gives 59 = .ok (.iadd, 1) := by decide +kernel
theorem e_Mo_gives_60 : decode b_Mo_gives 60 = .ok (.ireturn, 1) := by decide +kernel
theorem e_Mo_gives_61 : decode b_Mo_gives 61 = .ok (.iload_n 2, 1) := by decide +kernel
theorem e_Mo_gives_62 : decode b_Mo_gives 62 = .ok (.iconst 2, 1) := by decide +kernel
theorem e_Mo_gives_63 : decode b_Mo_gives 63 = .ok (.idiv, 1) := by decide +kernel
theorem e_Mo_gives_64 : decode b_Mo_gives 64 = .ok (.ireturn, 1) := by decide +kernel
theorem e_Mo_gives_65 : decode b_Mo_gives 65 = .ok (.aload_n 0, 1) := by decide +kernel
theorem e_Mo_gives_66 : decode b_Mo_gives 66 = .ok (.iload_n 1, 1) := by decide +kernel
theorem e_Mo_gives_67 : decode b_Mo_gives 67 = .ok (.invokevirtual 334, 3) := by decide +kernel
theorem e_Mo_gives_70 : decode b_Mo_gives 70 = .ok (.ifCond .eq 7, 3) := by decide +kernel
theorem e_Mo_gives_73 : decode b_Mo_gives 73 = .ok (.iconst 0, 1) := by decide +kernel
theorem e_Mo_gives_74 : decode b_Mo_gives 74 = .ok (.goto 4, 3) := by decide +kernel
theorem e_Mo_gives_77 : decode b_Mo_gives 77 = .ok (.iload_n 2, 1) := by decide +kernel
theorem e_Mo_gives_78 : decode b_Mo_gives 78 = .ok (.ireturn, 1) := by decide +kernel
theorem e_Mo_gives_79 : decode b_Mo_gives 79 = .ok (.aload_n 0, 1) := by decide +kernel
theorem e_Mo_gives_80 : decode b_Mo_gives 80 = .ok (.getfield 13, 3) := by decide +kernel
theorem e_Mo_gives_83 : decode b_Mo_gives 83 = .ok (.iconst 5, 1) := by decide +kernel
theorem e_Mo_gives_84 : decode b_Mo_gives 84 = .ok (.if_icmp .le 16, 3) := by decide +kernel
theorem e_Mo_gives_87 : decode b_Mo_gives 87 = .ok (.iconst 2, 1) := by decide +kernel
theorem e_Mo_gives_88 : decode b_Mo_gives 88 = .ok (.iload_n 2, 1) := by decide +kernel
theorem e_Mo_gives_89 : decode b_Mo_gives 89 = .ok (.aload_n 0, 1) := by decide +kernel
theorem e_Mo_gives_90 : decode b_Mo_gives 90 = .ok (.getfield 30, 3) := by decide +kernel
theorem e_Mo_gives_93 : decode b_Mo_gives 93 = .ok (.iload_n 1, 1) := by decide +kernel
theorem e_Mo_gives_94 : decode b_Mo_gives 94 = .ok (.iaload, 1) := by decide +kernel
theorem e_Mo_gives_95 : decode b_Mo_gives 95 = .ok (.iadd, 1) := by decide +kernel
theorem e_Mo_gives_96 : decode b_Mo_gives 96 = .ok (.imul, 1) := by decide +kernel
theorem e_Mo_gives_97 : decode b_Mo_gives 97 = .ok (.goto 11, 3) := by decide +kernel
theorem e_Mo_gives_100 : decode b_Mo_gives 100 = .ok (.iload_n 2, 1) := by decide +kernel
theorem e_Mo_gives_101 : decode b_Mo_gives 101 = .ok (.aload_n 0, 1) := by decide +kernel
theorem e_Mo_gives_102 : decode b_Mo_gives 102 = .ok (.getfield 30, 3) := by decide +kernel
theorem e_Mo_gives_105 : decode b_Mo_gives 105 = .ok (.iload_n 1, 1) := by decide +kernel
theorem e_Mo_gives_106 : decode b_Mo_gives 106 = .ok (.iaload, 1) := by decide +kernel
theorem e_Mo_gives_107 : decode b_Mo_gives 107 = .ok (.iadd, 1) := by decide +kernel
theorem e_Mo_gives_108 : decode b_Mo_gives 108 = .ok (.ireturn, 1) := by decide +kernel
theorem e_Mo_gives_109 : decode b_Mo_gives 109 = .ok (.iload_n 2, 1) := by decide +kernel
theorem e_Mo_gives_110 : decode b_Mo_gives 110 = .ok (.iconst 2, 1) := by decide +kernel
theorem e_Mo_gives_111 : decode b_Mo_gives 111 = .ok (.idiv, 1) := by decide +kernel
theorem e_Mo_gives_112 : decode b_Mo_gives 112 = .ok (.aload_n 0, 1) := by decide +kernel
theorem e_Mo_gives_113 : decode b_Mo_gives 113 = .ok (.aload_n 0, 1) := by decide +kernel
theorem e_Mo_gives_114 : decode b_Mo_gives 114 = .ok (.getfield 42, 3) := by decide +kernel
theorem e_Mo_gives_117 : decode b_Mo_gives 117 = .ok (.iload_n 1, 1) := by decide +kernel
theorem e_Mo_gives_118 : decode b_Mo_gives 118 = .ok (.iaload, 1) := by decide +kernel
theorem e_Mo_gives_119 : decode b_Mo_gives 119 = .ok (.bipush 9, 2) := by decide +kernel
theorem e_Mo_gives_121 : decode b_Mo_gives 121 = .ok (.invokevirtual 337, 3) := by decide +kernel
theorem e_Mo_gives_124 : decode b_Mo_gives 124 = .ok (.iadd, 1) := by decide +kernel
theorem e_Mo_gives_125 : decode b_Mo_gives 125 = .ok (.ireturn, 1) := by decide +kernel
theorem e_Mo_gives_126 : decode b_Mo_gives 126 = .ok (.aload_n 0, 1) := by decide +kernel
theorem e_Mo_gives_127 : decode b_Mo_gives 127 = .ok (.iload_n 1, 1) := by decide +kernel
theorem e_Mo_gives_128 : decode b_Mo_gives 128 = .ok (.invokevirtual 334, 3) := by decide +kernel
theorem e_Mo_gives_131 : decode b_Mo_gives 131 = .ok (.ifCond .eq 7, 3) := by decide +kernel
theorem e_Mo_gives_134 : decode b_Mo_gives 134 = .ok (.iconst 0, 1) := by decide +kernel
theorem e_Mo_gives_135 : decode b_Mo_gives 135 = .ok (.goto 4, 3) := by decide +kernel
theorem e_Mo_gives_138 : decode b_Mo_gives 138 = .ok (.iload_n 2, 1) := by decide +kernel
theorem e_Mo_gives_139 : decode b_Mo_gives 139 = .ok (.aload_n 0, 1) := by decide +kernel
theorem e_Mo_gives_140 : decode b_Mo_gives 140 = .ok (.getfield 45, 3) := by decide +kernel
theorem e_Mo_gives_143 : decode b_Mo_gives 143 = .ok (.iconst 4, 1) := by decide +kernel
theorem e_Mo_gives_144 : decode b_Mo_gives 144 = .ok (.iload_n 1, 1) := by decide +kernel
theorem e_Mo_gives_145 : decode b_Mo_gives 145 = .ok (.imul, 1) := by decide +kernel
theorem e_Mo_gives_146 : decode b_Mo_gives 146 = .ok (.aload_n 0, 1) := by decide +kernel
theorem e_Mo_gives_147 : decode b_Mo_gives 147 = .ok (.getfield 19, 3) := by decide +kernel
theorem e_Mo_gives_150 : decode b_Mo_gives 150 = .ok (.iconst 4, 1) := by decide +kernel
theorem e_Mo_gives_151 : decode b_Mo_gives 151 = .ok (.irem, 1) := by decide +kernel
theorem e_Mo_gives_152 : decode b_Mo_gives 152 = .ok (.iadd, 1) := by decide +kernel
theorem e_Mo_gives_153 : decode b_Mo_gives 153 = .ok (.iaload, 1) := by decide +kernel
theorem e_Mo_gives_154 : decode b_Mo_gives 154 = .ok (.iadd, 1) := by decide +kernel
theorem e_Mo_gives_155 : decode b_Mo_gives 155 = .ok (.ireturn, 1) := by decide +kernel
theorem e_Mo_gives_156 : decode b_Mo_gives 156 = .ok (.iload_n 2, 1) := by decide +kernel
theorem e_Mo_gives_157 : decode b_Mo_gives 157 = .ok (.ireturn, 1) := by decide +kernel
theorem e_Mo_allGive_0 : decode b_Mo_allGive 0 = .ok (.iconst 0, 1) := by decide +kernel
theorem e_Mo_allGive_1 : decode b_Mo_allGive 1 = .ok (.istore_n 1, 1) := by decide +kernel
theorem e_Mo_allGive_2 : decode b_Mo_allGive 2 = .ok (.iconst 0, 1) := by decide +kernel
theorem e_Mo_allGive_3 : decode b_Mo_allGive 3 = .ok (.istore_n 2, 1) := by decide +kernel
theorem e_Mo_allGive_4 : decode b_Mo_allGive 4 = .ok (.iload_n 2, 1) := by decide +kernel
theorem e_Mo_allGive_5 : decode b_Mo_allGive 5 = .ok (.aload_n 0, 1) := by decide +kernel
theorem e_Mo_allGive_6 : decode b_Mo_allGive 6 = .ok (.getfield 7, 3) := by decide +kernel
theorem e_Mo_allGive_9 : decode b_Mo_allGive 9 = .ok (.if_icmp .ge 31, 3) := by decide +kernel
theorem e_Mo_allGive_12 : decode b_Mo_allGive 12 = .ok (.iload_n 1, 1) := by decide +kernel
theorem e_Mo_allGive_13 : decode b_Mo_allGive 13 = .ok (.aload_n 0, 1) := by decide +kernel
theorem e_Mo_allGive_14 : decode b_Mo_allGive 14 = .ok (.getfield 39, 3) := by decide +kernel
theorem e_Mo_allGive_17 : decode b_Mo_allGive 17 = .ok (.iload_n 2, 1) := by decide +kernel
theorem e_Mo_allGive_18 : decode b_Mo_allGive 18 = .ok (.iaload, 1) := by decide +kernel
theorem e_Mo_allGive_19 : decode b_Mo_allGive 19 = .ok (.iconst 1, 1) := by decide +kernel
theorem e_Mo_allGive_20 : decode b_Mo_allGive 20 = .ok (.if_icmp .ne 11, 3) := by decide +kernel
theorem e_Mo_allGive_23 : decode b_Mo_allGive 23 = .ok (.aload_n 0, 1) := by decide +kernel
theorem e_Mo_allGive_24 : decode b_Mo_allGive 24 = .ok (.iload_n 2, 1) := by decide +kernel
theorem e_Mo_allGive_25 : decode b_Mo_allGive 25 = .ok (.invokevirtual 340, 3) := by decide +kernel
theorem e_Mo_allGive_28 : decode b_Mo_allGive 28 = .ok (.goto 4, 3) := by decide +kernel
theorem e_Mo_allGive_31 : decode b_Mo_allGive 31 = .ok (.iconst 0, 1) := by decide +kernel
theorem e_Mo_allGive_32 : decode b_Mo_allGive 32 = .ok (.iadd, 1) := by decide +kernel
theorem e_Mo_allGive_33 : decode b_Mo_allGive 33 = .ok (.istore_n 1, 1) := by decide +kernel
theorem e_Mo_allGive_34 : decode b_Mo_allGive 34 = .ok (.iinc 2 1, 3) := by decide +kernel
theorem e_Mo_allGive_37 : decode b_Mo_allGive 37 = .ok (.goto (-33), 3) := by decide +kernel
theorem e_Mo_allGive_40 : decode b_Mo_allGive 40 = .ok (.iload_n 1, 1) := by decide +kernel
theorem e_Mo_allGive_41 : decode b_Mo_allGive 41 = .ok (.ireturn, 1) := by decide +kernel
theorem e_Mo_goMinute_0 : decode b_Mo_goMinute 0 = .ok (.aload_n 0, 1) := by decide +kernel
theorem e_Mo_goMinute_1 : decode b_Mo_goMinute 1 = .ok (.getfield 22, 3) := by decide +kernel
theorem e_Mo_goMinute_4 : decode b_Mo_goMinute 4 = .ok (.ifCond .ne 58, 3) := by decide +kernel
theorem e_Mo_goMinute_7 : decode b_Mo_goMinute 7 = .ok (.aload_n 0, 1) := by decide +kernel
theorem e_Mo_goMinute_8 : decode b_Mo_goMinute 8 = .ok (.getfield 16, 3) := by decide +kernel
theorem e_Mo_goMinute_11 : decode b_Mo_goMinute 11 = .ok (.aload_n 0, 1) := by decide +kernel
theorem e_Mo_goMinute_12 : decode b_Mo_goMinute 12 = .ok (.getfield 13, 3) := by decide +kernel
theorem e_Mo_goMinute_15 : decode b_Mo_goMinute 15 = .ok (.aload_n 0, 1) := by decide +kernel
theorem e_Mo_goMinute_16 : decode b_Mo_goMinute 16 = .ok (.invokevirtual 343, 3) := by decide +kernel
theorem e_Mo_goMinute_19 : decode b_Mo_goMinute 19 = .ok (.imul, 1) := by decide +kernel
theorem e_Mo_goMinute_20 : decode b_Mo_goMinute 20 = .ok (.iadd, 1) := by decide +kernel
theorem e_Mo_goMinute_21 : decode b_Mo_goMinute 21 = .ok (.istore_n 1, 1) := by decide +kernel
theorem e_Mo_goMinute_22 : decode b_Mo_goMinute 22 = .ok (.aload_n 0, 1) := by decide +kernel
theorem e_Mo_goMinute_23 : decode b_Mo_goMinute 23 = .ok (.iload_n 1, 1) := by decide +kernel
theorem e_Mo_goMinute_24 : decode b_Mo_goMinute 24 = .ok (.ifCond .ge 7, 3) := by decide +kernel
theorem e_Mo_goMinute_27 : decode b_Mo_goMinute 27 = .ok (.iconst 0, 1) := by decide +kernel
theorem e_Mo_goMinute_28 : decode b_Mo_goMinute 28 = .ok (.goto 11, 3) := by decide +kernel
theorem e_Mo_goMinute_31 : decode b_Mo_goMinute 31 = .ok (.aload_n 0, 1) := by decide +kernel
theorem e_Mo_goMinute_32 : decode b_Mo_goMinute 32 = .ok (.iload_n 1, 1) := by decide +kernel
theorem e_Mo_goMinute_33 : decode b_Mo_goMinute 33 = .ok (.ldc_w 346, 3) := by decide +kernel
theorem e_Mo_goMinute_36 : decode b_Mo_goMinute 36 = .ok (.invokevirtual 337, 3) := by decide +kernel
theorem e_Mo_goMinute_39 : decode b_Mo_goMinute 39 = .ok (.putfield 16, 3) := by decide +kernel
theorem e_Mo_goMinute_42 : decode b_Mo_goMinute 42 = .ok (.aload_n 0, 1) := by decide +kernel
theorem e_Mo_goMinute_43 : decode b_Mo_goMinute 43 = .ok (.aload_n 0, 1) := by decide +kernel
theorem e_Mo_goMinute_44 : decode b_Mo_goMinute 44 = .ok (.getfield 16, 3) := by decide +kernel
theorem e_Mo_goMinute_47 : decode b_Mo_goMinute 47 = .ok (.aload_n 0, 1) := by decide +kernel
theorem e_Mo_goMinute_48 : decode b_Mo_goMinute 48 = .ok (.invokevirtual 347, 3) := by decide +kernel
theorem e_Mo_goMinute_51 : decode b_Mo_goMinute 51 = .ok (.if_icmp .lt 7, 3) := by decide +kernel
theorem e_Mo_goMinute_54 : decode b_Mo_goMinute 54 = .ok (.iconst 1, 1) := by decide +kernel
theorem e_Mo_goMinute_55 : decode b_Mo_goMinute 55 = .ok (.goto 4, 3) := by decide +kernel
theorem e_Mo_goMinute_58 : decode b_Mo_goMinute 58 = .ok (.iconst 0, 1) := by decide +kernel
theorem e_Mo_goMinute_59 : decode b_Mo_goMinute 59 = .ok (.putfield 22, 3) := by decide +kernel
theorem e_Mo_goMinute_62 : decode b_Mo_goMinute 62 = .ok (.iconst 0, 1) := by decide +kernel
theorem e_Mo_goMinute_63 : decode b_Mo_goMinute 63 = .ok (.istore_n 1, 1) := by decide +kernel
theorem e_Mo_goMinute_64 : decode b_Mo_goMinute 64 = .ok (.iload_n 1, 1) := by decide +kernel
theorem e_Mo_goMinute_65 : decode b_Mo_goMinute 65 = .ok (.aload_n 0, 1) := by decide +kernel
theorem e_Mo_goMinute_66 : decode b_Mo_goMinute 66 = .ok (.getfield 7, 3) := by decide +kernel
theorem e_Mo_goMinute_69 : decode b_Mo_goMinute 69 = .ok (.if_icmp .ge 41, 3) := by decide +kernel
theorem e_Mo_goMinute_72 : decode b_Mo_goMinute 72 = .ok (.aload_n 0, 1) := by decide +kernel
theorem e_Mo_goMinute_73 : decode b_Mo_goMinute 73 = .ok (.getfield 39, 3) := by decide +kernel
theorem e_Mo_goMinute_76 : decode b_Mo_goMinute 76 = .ok (.iload_n 1, 1) := by decide +kernel
theorem e_Mo_goMinute_77 : decode b_Mo_goMinute 77 = .ok (.iaload, 1) := by decide +kernel
theorem e_Mo_goMinute_78 : decode b_Mo_goMinute 78 = .ok (.iconst 1, 1) := by decide +kernel
theorem e_Mo_goMinute_79 : decode b_Mo_goMinute 79 = .ok (.if_icmp .ne 25, 3) := by decide +kernel
theorem e_Mo_goMinute_82 : decode b_Mo_goMinute 82 = .ok (.aload_n 0, 1) := by decide +kernel
theorem e_Mo_goMinute_83 : decode b_Mo_goMinute 83 = .ok (.getfield 42, 3) := by decide +kernel
theorem e_Mo_goMinute_86 : decode b_Mo_goMinute 86 = .ok (.iload_n 1, 1) := by decide +kernel
theorem e_Mo_goMinute_87 : decode b_Mo_goMinute 87 = .ok (.aload_n 0, 1) := by decide +kernel
theorem e_Mo_goMinute_88 : decode b_Mo_goMinute 88 = .ok (.aload_n 0, 1) := by decide +kernel
theorem e_Mo_goMinute_89 : decode b_Mo_goMinute 89 = .ok (.getfield 42, 3) := by decide +kernel
theorem e_Mo_goMinute_92 : decode b_Mo_goMinute 92 = .ok (.iload_n 1, 1) := by decide +kernel
theorem e_Mo_goMinute_93 : decode b_Mo_goMinute 93 = .ok (.iaload, 1) := by decide +kernel
theorem e_Mo_goMinute_94 : decode b_Mo_goMinute 94 = .ok (.iconst 1, 1) := by decide +kernel
theorem e_Mo_goMinute_95 : decode b_Mo_goMinute 95 = .ok (.iadd, 1) := by decide +kernel
theorem e_Mo_goMinute_96 : decode b_Mo_goMinute 96 = .ok (.aload_n 0, 1) := by decide +kernel
theorem e_Mo_goMinute_97 : decode b_Mo_goMinute 97 = .ok (.getfield 103, 3) := by decide +kernel
theorem e_Mo_goMinute_100 : decode b_Mo_goMinute 100 = .ok (.invokevirtual 337, 3) := by decide +kernel
theorem e_Mo_goMinute_103 : decode b_Mo_goMinute 103 = .ok (.iastore, 1) := by decide +kernel
theorem e_Mo_goMinute_104 : decode b_Mo_goMinute 104 = .ok (.iinc 1 1, 3) := by decide +kernel
theorem e_Mo_goMinute_107 : decode b_Mo_goMinute 107 = .ok (.goto (-43), 3) := by decide +kernel
theorem e_Mo_goMinute_110 : decode b_Mo_goMinute 110 = .ok (.aload_n 0, 1) := by decide +kernel
theorem e_Mo_goMinute_111 : decode b_Mo_goMinute 111 = .ok (.dup, 1) := by decide +kernel
theorem e_Mo_goMinute_112 : decode b_Mo_goMinute 112 = .ok (.getfield 19, 3) := by decide +kernel
theorem e_Mo_goMinute_115 : decode b_Mo_goMinute 115 = .ok (.iconst 1, 1) := by decide +kernel
theorem e_Mo_goMinute_116 : decode b_Mo_goMinute 116 = .ok (.iadd, 1) := by decide +kernel
theorem e_Mo_goMinute_117 : decode b_Mo_goMinute 117 = .ok (.putfield 19, 3) := by decide +kernel
theorem e_Mo_goMinute_120 : decode b_Mo_goMinute 120 = .ok (.return_, 1) := by decide +kernel
theorem e_Mo_goMinutes_0 : decode b_Mo_goMinutes 0 = .ok (.iconst 0, 1) := by decide +kernel
theorem e_Mo_goMinutes_1 : decode b_Mo_goMinutes 1 = .ok (.istore_n 2, 1) := by decide +kernel
theorem e_Mo_goMinutes_2 : decode b_Mo_goMinutes 2 = .ok (.iload_n 2, 1) := by decide +kernel
theorem e_Mo_goMinutes_3 : decode b_Mo_goMinutes 3 = .ok (.iload_n 1, 1) := by decide +kernel
theorem e_Mo_goMinutes_4 : decode b_Mo_goMinutes 4 = .ok (.if_icmp .ge 13, 3) := by decide +kernel
theorem e_Mo_goMinutes_7 : decode b_Mo_goMinutes 7 = .ok (.aload_n 0, 1) := by decide +kernel
theorem e_Mo_goMinutes_8 : decode b_Mo_goMinutes 8 = .ok (.invokevirtual 350, 3) := by decide +kernel
theorem e_Mo_goMinutes_11 : decode b_Mo_goMinutes 11 = .ok (.iinc 2 1, 3) := by decide +kernel
theorem e_Mo_goMinutes_14 : decode b_Mo_goMinutes 14 = .ok (.goto (-12), 3) := by decide +kernel
theorem e_Mo_goMinutes_17 : decode b_Mo_goMinutes 17 = .ok (.return_, 1) := by decide +kernel
theorem e_Mo_pass_0 : decode b_Mo_pass 0 = .ok (.aload_n 0, 1) := by decide +kernel
theorem e_Mo_pass_1 : decode b_Mo_pass 1 = .ok (.iload_n 1, 1) := by decide +kernel
theorem e_Mo_pass_2 : decode b_Mo_pass 2 = .ok (.invokevirtual 353, 3) := by decide +kernel
theorem e_Mo_pass_5 : decode b_Mo_pass 5 = .ok (.ifCond .ne 6, 3) := by decide +kernel
theorem e_Mo_pass_8 : decode b_Mo_pass 8 = .ok (.bipush (-2), 2) := by decide +kernel
theorem e_Mo_pass_10 : decode b_Mo_pass 10 = .ok (.ireturn, 1) := by decide +kernel
theorem e_Mo_pass_11 : decode b_Mo_pass 11 = .ok (.aload_n 0, 1) := by decide +kernel
theorem e_Mo_pass_12 : decode b_Mo_pass 12 = .ok (.getfield 19, 3) := by decide +kernel
theorem e_Mo_pass_15 : decode b_Mo_pass 15 = .ok (.iload_n 1, 1) := by decide +kernel
theorem e_Mo_pass_16 : decode b_Mo_pass 16 = .ok (.iadd, 1) := by decide +kernel
theorem e_Mo_pass_17 : decode b_Mo_pass 17 = .ok (.sipush 9999, 3) := by decide +kernel
theorem e_Mo_pass_20 : decode b_Mo_pass 20 = .ok (.if_icmp .le 6, 3) := by decide +kernel
theorem e_Mo_pass_23 : decode b_Mo_pass 23 = .ok (.bipush (-3), 2) := by decide +kernel
theorem e_Mo_pass_25 : decode b_Mo_pass 25 = .ok (.ireturn, 1) := by decide +kernel
theorem e_Mo_pass_26 : decode b_Mo_pass 26 = .ok (.aload_n 0, 1) := by decide +kernel
theorem e_Mo_pass_27 : decode b_Mo_pass 27 = .ok (.iload_n 1, 1) := by decide +kernel
theorem e_Mo_pass_28 : decode b_Mo_pass 28 = .ok (.invokevirtual 356, 3) := by decide +kernel
theorem e_Mo_pass_31 : decode b_Mo_pass 31 = .ok (.aload_n 0, 1) := by decide +kernel
theorem e_Mo_pass_32 : decode b_Mo_pass 32 = .ok (.getfield 19, 3) := by decide +kernel
theorem e_Mo_pass_35 : decode b_Mo_pass 35 = .ok (.ireturn, 1) := by decide +kernel
theorem e_Mo_save_0 : decode b_Mo_save 0 = .ok (.aload_n 0, 1) := by decide +kernel
theorem e_Mo_save_1 : decode b_Mo_save 1 = .ok (.ldc_w 359, 3) := by decide +kernel
theorem e_Mo_save_4 : decode b_Mo_save 4 = .ok (.putfield 103, 3) := by decide +kernel
theorem e_Mo_save_7 : decode b_Mo_save 7 = .ok (.aload_n 0, 1) := by decide +kernel
theorem e_Mo_save_8 : decode b_Mo_save 8 = .ok (.aload_n 0, 1) := by decide +kernel
theorem e_Mo_save_9 : decode b_Mo_save 9 = .ok (.getfield 13, 3) := by decide +kernel
theorem e_Mo_save_12 : decode b_Mo_save 12 = .ok (.putfield 106, 3) := by decide +kernel
theorem e_Mo_save_15 : decode b_Mo_save 15 = .ok (.aload_n 0, 1) := by decide +kernel
theorem e_Mo_save_16 : decode b_Mo_save 16 = .ok (.aload_n 0, 1) := by decide +kernel
theorem e_Mo_save_17 : decode b_Mo_save 17 = .ok (.getfield 16, 3) := by decide +kernel
theorem e_Mo_save_20 : decode b_Mo_save 20 = .ok (.putfield 109, 3) := by decide +kernel
theorem e_Mo_save_23 : decode b_Mo_save 23 = .ok (.aload_n 0, 1) := by decide +kernel
theorem e_Mo_save_24 : decode b_Mo_save 24 = .ok (.aload_n 0, 1) := by decide +kernel
theorem e_Mo_save_25 : decode b_Mo_save 25 = .ok (.getfield 19, 3) := by decide +kernel
theorem e_Mo_save_28 : decode b_Mo_save 28 = .ok (.putfield 112, 3) := by decide +kernel
theorem e_Mo_save_31 : decode b_Mo_save 31 = .ok (.aload_n 0, 1) := by decide +kernel
theorem e_Mo_save_32 : decode b_Mo_save 32 = .ok (.aload_n 0, 1) := by decide +kernel
theorem e_Mo_save_33 : decode b_Mo_save 33 = .ok (.getfield 22, 3) := by decide +kernel
theorem e_Mo_save_36 : decode b_Mo_save 36 = .ok (.putfield 115, 3) := by decide +kernel
theorem e_Mo_save_39 : decode b_Mo_save 39 = .ok (.iconst 0, 1) := by decide +kernel
theorem e_Mo_save_40 : decode b_Mo_save 40 = .ok (.istore_n 1, 1) := by decide +kernel
theorem e_Mo_save_41 : decode b_Mo_save 41 = .ok (.iload_n 1, 1) := by decide +kernel
theorem e_Mo_save_42 : decode b_Mo_save 42 = .ok (.bipush 6, 2) := by decide +kernel
theorem e_Mo_save_44 : decode b_Mo_save 44 = .ok (.if_icmp .ge 33, 3) := by decide +kernel
theorem e_Mo_save_47 : decode b_Mo_save 47 = .ok (.aload_n 0, 1) := by decide +kernel
theorem e_Mo_save_48 : decode b_Mo_save 48 = .ok (.getfield 118, 3) := by decide +kernel
theorem e_Mo_save_51 : decode b_Mo_save 51 = .ok (.iload_n 1, 1) := by decide +kernel
theorem e_Mo_save_52 : decode b_Mo_save 52 = .ok (.aload_n 0, 1) := by decide +kernel
theorem e_Mo_save_53 : decode b_Mo_save 53 = .ok (.getfield 39, 3) := by decide +kernel
theorem e_Mo_save_56 : decode b_Mo_save 56 = .ok (.iload_n 1, 1) := by decide +kernel
theorem e_Mo_save_57 : decode b_Mo_save 57 = .ok (.iaload, 1) := by decide +kernel
theorem e_Mo_save_58 : decode b_Mo_save 58 = .ok (.iastore, 1) := by decide +kernel
theorem e_Mo_save_59 : decode b_Mo_save 59 = .ok (.aload_n 0, 1) := by decide +kernel
theorem e_Mo_save_60 : decode b_Mo_save 60 = .ok (.getfield 121, 3) := by decide +kernel
theorem e_Mo_save_63 : decode b_Mo_save 63 = .ok (.iload_n 1, 1) := by decide +kernel
theorem e_Mo_save_64 : decode b_Mo_save 64 = .ok (.aload_n 0, 1) := by decide +kernel
theorem e_Mo_save_65 : decode b_Mo_save 65 = .ok (.getfield 42, 3) := by decide +kernel
theorem e_Mo_save_68 : decode b_Mo_save 68 = .ok (.iload_n 1, 1) := by decide +kernel
theorem e_Mo_save_69 : decode b_Mo_save 69 = .ok (.iaload, 1) := by decide +kernel
theorem e_Mo_save_70 : decode b_Mo_save 70 = .ok (.iastore, 1) := by decide +kernel
theorem e_Mo_save_71 : decode b_Mo_save 71 = .ok (.iinc 1 1, 3) := by decide +kernel
theorem e_Mo_save_74 : decode b_Mo_save 74 = .ok (.goto (-33), 3) := by decide +kernel
theorem e_Mo_save_77 : decode b_Mo_save 77 = .ok (.return_, 1) := by decide +kernel
theorem e_Mo_putBack_0 : decode b_Mo_putBack 0 = .ok (.aload_n 0, 1) := by decide +kernel
theorem e_Mo_putBack_1 : decode b_Mo_putBack 1 = .ok (.sipush 9999, 3) := by decide +kernel
theorem e_Mo_putBack_4 : decode b_Mo_putBack 4 = .ok (.putfield 103, 3) := by decide +kernel
theorem e_Mo_putBack_7 : decode b_Mo_putBack 7 = .ok (.aload_n 0, 1) := by decide +kernel
theorem e_Mo_putBack_8 : decode b_Mo_putBack 8 = .ok (.aload_n 0, 1) := by decide +kernel
theorem e_Mo_putBack_9 : decode b_Mo_putBack 9 = .ok (.getfield 106, 3) := by decide +kernel
theorem e_Mo_putBack_12 : decode b_Mo_putBack 12 = .ok (.putfield 13, 3) := by decide +kernel
theorem e_Mo_putBack_15 : decode b_Mo_putBack 15 = .ok (.aload_n 0, 1) := by decide +kernel
theorem e_Mo_putBack_16 : decode b_Mo_putBack 16 = .ok (.aload_n 0, 1) := by decide +kernel
theorem e_Mo_putBack_17 : decode b_Mo_putBack 17 = .ok (.getfield 109, 3) := by decide +kernel
theorem e_Mo_putBack_20 : decode b_Mo_putBack 20 = .ok (.putfield 16, 3) := by decide +kernel
theorem e_Mo_putBack_23 : decode b_Mo_putBack 23 = .ok (.aload_n 0, 1) := by decide +kernel
theorem e_Mo_putBack_24 : decode b_Mo_putBack 24 = .ok (.aload_n 0, 1) := by decide +kernel
theorem e_Mo_putBack_25 : decode b_Mo_putBack 25 = .ok (.getfield 112, 3) := by decide +kernel
theorem e_Mo_putBack_28 : decode b_Mo_putBack 28 = .ok (.putfield 19, 3) := by decide +kernel
theorem e_Mo_putBack_31 : decode b_Mo_putBack 31 = .ok (.aload_n 0, 1) := by decide +kernel
theorem e_Mo_putBack_32 : decode b_Mo_putBack 32 = .ok (.aload_n 0, 1) := by decide +kernel
theorem e_Mo_putBack_33 : decode b_Mo_putBack 33 = .ok (.getfield 115, 3) := by decide +kernel
theorem e_Mo_putBack_36 : decode b_Mo_putBack 36 = .ok (.putfield 22, 3) := by decide +kernel
theorem e_Mo_putBack_39 : decode b_Mo_putBack 39 = .ok (.iconst 0, 1) := by decide +kernel
theorem e_Mo_putBack_40 : decode b_Mo_putBack 40 = .ok (.istore_n 1, 1) := by decide +kernel
theorem e_Mo_putBack_41 : decode b_Mo_putBack 41 = .ok (.iload_n 1, 1) := by decide +kernel
theorem e_Mo_putBack_42 : decode b_Mo_putBack 42 = .ok (.bipush 6, 2) := by decide +kernel
theorem e_Mo_putBack_44 : decode b_Mo_putBack 44 = .ok (.if_icmp .ge 33, 3) := by decide +kernel
theorem e_Mo_putBack_47 : decode b_Mo_putBack 47 = .ok (.aload_n 0, 1) := by decide +kernel
theorem e_Mo_putBack_48 : decode b_Mo_putBack 48 = .ok (.getfield 39, 3) := by decide +kernel
theorem e_Mo_putBack_51 : decode b_Mo_putBack 51 = .ok (.iload_n 1, 1) := by decide +kernel
theorem e_Mo_putBack_52 : decode b_Mo_putBack 52 = .ok (.aload_n 0, 1) := by decide +kernel
theorem e_Mo_putBack_53 : decode b_Mo_putBack 53 = .ok (.getfield 118, 3) := by decide +kernel
theorem e_Mo_putBack_56 : decode b_Mo_putBack 56 = .ok (.iload_n 1, 1) := by decide +kernel
theorem e_Mo_putBack_57 : decode b_Mo_putBack 57 = .ok (.iaload, 1) := by decide +kernel
theorem e_Mo_putBack_58 : decode b_Mo_putBack 58 = .ok (.iastore, 1) := by decide +kernel
theorem e_Mo_putBack_59 : decode b_Mo_putBack 59 = .ok (.aload_n 0, 1) := by decide +kernel
theorem e_Mo_putBack_60 : decode b_Mo_putBack 60 = .ok (.getfield 42, 3) := by decide +kernel
theorem e_Mo_putBack_63 : decode b_Mo_putBack 63 = .ok (.iload_n 1, 1) := by decide +kernel
theorem e_Mo_putBack_64 : decode b_Mo_putBack 64 = .ok (.aload_n 0, 1) := by decide +kernel
theorem e_Mo_putBack_65 : decode b_Mo_putBack 65 = .ok (.getfield 121, 3) := by decide +kernel
theorem e_Mo_putBack_68 : decode b_Mo_putBack 68 = .ok (.iload_n 1, 1) := by decide +kernel
theorem e_Mo_putBack_69 : decode b_Mo_putBack 69 = .ok (.iaload, 1) := by decide +kernel
theorem e_Mo_putBack_70 : decode b_Mo_putBack 70 = .ok (.iastore, 1) := by decide +kernel
theorem e_Mo_putBack_71 : decode b_Mo_putBack 71 = .ok (.iinc 1 1, 3) := by decide +kernel
theorem e_Mo_putBack_74 : decode b_Mo_putBack 74 = .ok (.goto (-33), 3) := by decide +kernel
theorem e_Mo_putBack_77 : decode b_Mo_putBack 77 = .ok (.return_, 1) := by decide +kernel
theorem e_Mo_setsIf_0 : decode b_Mo_setsIf 0 = .ok (.aload_n 0, 1) := by decide +kernel
theorem e_Mo_setsIf_1 : decode b_Mo_setsIf 1 = .ok (.invokevirtual 360, 3) := by decide +kernel
theorem e_Mo_setsIf_4 : decode b_Mo_setsIf 4 = .ok (.iload_n 1, 1) := by decide +kernel
theorem e_Mo_setsIf_5 : decode b_Mo_setsIf 5 = .ok (.ifCond .lt 8, 3) := by decide +kernel
theorem e_Mo_setsIf_8 : decode b_Mo_setsIf 8 = .ok (.aload_n 0, 1) := by decide +kernel
theorem e_Mo_setsIf_9 : decode b_Mo_setsIf 9 = .ok (.iload_n 1, 1) := by decide +kernel
theorem e_Mo_setsIf_10 : decode b_Mo_setsIf 10 = .ok (.invokevirtual 271, 3) := by decide +kernel
theorem e_Mo_setsIf_13 : decode b_Mo_setsIf 13 = .ok (.iconst 0, 1) := by decide +kernel
theorem e_Mo_setsIf_14 : decode b_Mo_setsIf 14 = .ok (.istore_n 2, 1) := by decide +kernel
theorem e_Mo_setsIf_15 : decode b_Mo_setsIf 15 = .ok (.iload_n 2, 1) := by decide +kernel
theorem e_Mo_setsIf_16 : decode b_Mo_setsIf 16 = .ok (.bipush 61, 2) := by decide +kernel
theorem e_Mo_setsIf_18 : decode b_Mo_setsIf 18 = .ok (.if_icmp .ge 20, 3) := by decide +kernel
theorem e_Mo_setsIf_21 : decode b_Mo_setsIf 21 = .ok (.aload_n 0, 1) := by decide +kernel
theorem e_Mo_setsIf_22 : decode b_Mo_setsIf 22 = .ok (.getfield 22, 3) := by decide +kernel
theorem e_Mo_setsIf_25 : decode b_Mo_setsIf 25 = .ok (.ifCond .ne 13, 3) := by decide +kernel
theorem e_Mo_setsIf_28 : decode b_Mo_setsIf 28 = .ok (.aload_n 0, 1) := by decide +kernel
theorem e_Mo_setsIf_29 : decode b_Mo_setsIf 29 = .ok (.invokevirtual 350, 3) := by decide +kernel
theorem e_Mo_setsIf_32 : decode b_Mo_setsIf 32 = .ok (.iinc 2 1, 3) := by decide +kernel
theorem e_Mo_setsIf_35 : decode b_Mo_setsIf 35 = .ok (.goto (-20), 3) := by decide +kernel
theorem e_Mo_setsIf_38 : decode b_Mo_setsIf 38 = .ok (.aload_n 0, 1) := by decide +kernel
theorem e_Mo_setsIf_39 : decode b_Mo_setsIf 39 = .ok (.invokevirtual 363, 3) := by decide +kernel
theorem e_Mo_setsIf_42 : decode b_Mo_setsIf 42 = .ok (.iload_n 2, 1) := by decide +kernel
theorem e_Mo_setsIf_43 : decode b_Mo_setsIf 43 = .ok (.ireturn, 1) := by decide +kernel
theorem e_Mo_sets_0 : decode b_Mo_sets 0 = .ok (.aload_n 0, 1) := by decide +kernel
theorem e_Mo_sets_1 : decode b_Mo_sets 1 = .ok (.iconst (-1), 1) := by decide +kernel
theorem e_Mo_sets_2 : decode b_Mo_sets 2 = .ok (.invokevirtual 366, 3) := by decide +kernel
theorem e_Mo_sets_5 : decode b_Mo_sets 5 = .ok (.bipush 61, 2) := by decide +kernel
theorem e_Mo_sets_7 : decode b_Mo_sets 7 = .ok (.if_icmp .ne 8, 3) := by decide +kernel
theorem e_Mo_sets_10 : decode b_Mo_sets 10 = .ok (.bipush (-5), 2) := by decide +kernel
theorem e_Mo_sets_12 : decode b_Mo_sets 12 = .ok (.goto 8, 3) := by decide +kernel
theorem e_Mo_sets_15 : decode b_Mo_sets 15 = .ok (.aload_n 0, 1) := by decide +kernel
theorem e_Mo_sets_16 : decode b_Mo_sets 16 = .ok (.iconst (-1), 1) := by decide +kernel
theorem e_Mo_sets_17 : decode b_Mo_sets 17 = .ok (.invokevirtual 366, 3) := by decide +kernel
theorem e_Mo_sets_20 : decode b_Mo_sets 20 = .ok (.ireturn, 1) := by decide +kernel
theorem e_Mo_wordOf_0 : decode b_Mo_wordOf 0 = .ok (.bipush (-5), 2) := by decide +kernel
theorem e_Mo_wordOf_2 : decode b_Mo_wordOf 2 = .ok (.istore_n 1, 1) := by decide +kernel
theorem e_Mo_wordOf_3 : decode b_Mo_wordOf 3 = .ok (.aload_n 0, 1) := by decide +kernel
theorem e_Mo_wordOf_4 : decode b_Mo_wordOf 4 = .ok (.iconst (-1), 1) := by decide +kernel
theorem e_Mo_wordOf_5 : decode b_Mo_wordOf 5 = .ok (.invokevirtual 366, 3) := by decide +kernel
theorem e_Mo_wordOf_8 : decode b_Mo_wordOf 8 = .ok (.istore_n 2, 1) := by decide +kernel
theorem e_Mo_wordOf_9 : decode b_Mo_wordOf 9 = .ok (.iconst 0, 1) := by decide +kernel
theorem e_Mo_wordOf_10 : decode b_Mo_wordOf 10 = .ok (.istore_n 3, 1) := by decide +kernel
theorem e_Mo_wordOf_11 : decode b_Mo_wordOf 11 = .ok (.iload_n 3, 1) := by decide +kernel
theorem e_Mo_wordOf_12 : decode b_Mo_wordOf 12 = .ok (.aload_n 0, 1) := by decide +kernel
theorem e_Mo_wordOf_13 : decode b_Mo_wordOf 13 = .ok (.getfield 7, 3) := by decide +kernel
theorem e_Mo_wordOf_16 : decode b_Mo_wordOf 16 = .ok (.if_icmp .ge 43, 3) := by decide +kernel
theorem e_Mo_wordOf_19 : decode b_Mo_wordOf 19 = .ok (.aload_n 0, 1) := by decide +kernel
theorem e_Mo_wordOf_20 : decode b_Mo_wordOf 20 = .ok (.getfield 39, 3) := by decide +kernel
theorem e_Mo_wordOf_23 : decode b_Mo_wordOf 23 = .ok (.iload_n 3, 1) := by decide +kernel
theorem e_Mo_wordOf_24 : decode b_Mo_wordOf 24 = .ok (.iaload, 1) := by decide +kernel
theorem e_Mo_wordOf_25 : decode b_Mo_wordOf 25 = .ok (.iconst 2, 1) := by decide +kernel
theorem e_Mo_wordOf_26 : decode b_Mo_wordOf 26 = .ok (.if_icmp .ne 6, 3) := by decide +kernel
theorem e_Mo_wordOf_29 : decode b_Mo_wordOf 29 = .ok (.goto 24, 3) := by decide +kernel
theorem e_Mo_wordOf_32 : decode b_Mo_wordOf 32 = .ok (.aload_n 0, 1) := by decide +kernel
theorem e_Mo_wordOf_33 : decode b_Mo_wordOf 33 = .ok (.iload_n 3, 1) := by decide +kernel
theorem e_Mo_wordOf_34 : decode b_Mo_wordOf 34 = .ok (.invokevirtual 366, 3) := by decide +kernel
theorem e_Mo_wordOf_37 : decode b_Mo_wordOf 37 = .ok (.istore 4, 2) := by decide +kernel
theorem e_Mo_wordOf_39 : decode b_Mo_wordOf 39 = .ok (.iload 4, 2) := by decide +kernel
theorem e_Mo_wordOf_41 : decode b_Mo_wordOf 41 = .ok (.iload_n 2, 1) := by decide +kernel
theorem e_Mo_wordOf_42 : decode b_Mo_wordOf 42 = .ok (.if_icmp .gt 6, 3) := by decide +kernel
theorem e_Mo_wordOf_45 : decode b_Mo_wordOf 45 = .ok (.goto 8, 3) := by decide +kernel
theorem e_Mo_wordOf_48 : decode b_Mo_wordOf 48 = .ok (.iload_n 3, 1) := by decide +kernel
theorem e_Mo_wordOf_49 : decode b_Mo_wordOf 49 = .ok (.istore_n 1, 1) := by decide +kernel
theorem e_Mo_wordOf_50 : decode b_Mo_wordOf 50 = .ok (.iload 4, 2) := by decide +kernel
theorem e_Mo_wordOf_52 : decode b_Mo_wordOf 52 = .ok (.istore_n 2, 1) := by decide +kernel
theorem e_Mo_wordOf_53 : decode b_Mo_wordOf 53 = .ok (.iinc 3 1, 3) := by decide +kernel
theorem e_Mo_wordOf_56 : decode b_Mo_wordOf 56 = .ok (.goto (-45), 3) := by decide +kernel
theorem e_Mo_wordOf_59 : decode b_Mo_wordOf 59 = .ok (.iload_n 1, 1) := by decide +kernel
theorem e_Mo_wordOf_60 : decode b_Mo_wordOf 60 = .ok (.ireturn, 1) := by decide +kernel
theorem e_Mo_told_0 : decode b_Mo_told 0 = .ok (.iload_n 1, 1) := by decide +kernel
theorem e_Mo_told_1 : decode b_Mo_told 1 = .ok (.tableswitch 115 0 9 #[55, 60, 65, 70, 75, 88, 94, 100, 105, 110], 55) := by decide +kernel
theorem e_Mo_told_56 : decode b_Mo_told 56 = .ok (.aload_n 0, 1) := by decide +kernel
theorem e_Mo_told_57 : decode b_Mo_told 57 = .ok (.getfield 19, 3) := by decide +kernel
theorem e_Mo_told_60 : decode b_Mo_told 60 = .ok (.ireturn, 1) := by decide +kernel
theorem e_Mo_told_61 : decode b_Mo_told 61 = .ok (.aload_n 0, 1) := by decide +kernel
theorem e_Mo_told_62 : decode b_Mo_told 62 = .ok (.invokevirtual 347, 3) := by decide +kernel
theorem e_Mo_told_65 : decode b_Mo_told 65 = .ok (.ireturn, 1) := by decide +kernel
theorem e_Mo_told_66 : decode b_Mo_told 66 = .ok (.aload_n 0, 1) := by decide +kernel
theorem e_Mo_told_67 : decode b_Mo_told 67 = .ok (.getfield 13, 3) := by decide +kernel
theorem e_Mo_told_70 : decode b_Mo_told 70 = .ok (.ireturn, 1) := by decide +kernel
theorem e_Mo_told_71 : decode b_Mo_told 71 = .ok (.aload_n 0, 1) := by decide +kernel
theorem e_Mo_told_72 : decode b_Mo_told 72 = .ok (.getfield 16, 3) := by decide +kernel
theorem e_Mo_told_75 : decode b_Mo_told 75 = .ok (.ireturn, 1) := by decide +kernel
theorem e_Mo_told_76 : decode b_Mo_told 76 = .ok (.aload_n 0, 1) := by decide +kernel
theorem e_Mo_told_77 : decode b_Mo_told 77 = .ok (.getfield 22, 3) := by decide +kernel
theorem e_Mo_told_80 : decode b_Mo_told 80 = .ok (.ifCond .eq 7, 3) := by decide +kernel
theorem e_Mo_told_83 : decode b_Mo_told 83 = .ok (.iconst 1, 1) := by decide +kernel
theorem e_Mo_told_84 : decode b_Mo_told 84 = .ok (.goto 4, 3) := by decide +kernel
theorem e_Mo_told_87 : decode b_Mo_told 87 = .ok (.iconst 0, 1) := by decide +kernel
theorem e_Mo_told_88 : decode b_Mo_told 88 = .ok (.ireturn, 1) := by decide +kernel
theorem e_Mo_told_89 : decode b_Mo_told 89 = .ok (.aload_n 0, 1) := by decide +kernel
theorem e_Mo_told_90 : decode b_Mo_told 90 = .ok (.iconst 1, 1) := by decide +kernel
theorem e_Mo_told_91 : decode b_Mo_told 91 = .ok (.invokevirtual 264, 3) := by decide +kernel
theorem e_Mo_told_94 : decode b_Mo_told 94 = .ok (.ireturn, 1) := by decide +kernel
theorem e_Mo_told_95 : decode b_Mo_told 95 = .ok (.aload_n 0, 1) := by decide +kernel
theorem e_Mo_told_96 : decode b_Mo_told 96 = .ok (.iconst 2, 1) := by decide +kernel
theorem e_Mo_told_97 : decode b_Mo_told 97 = .ok (.invokevirtual 264, 3) := by decide +kernel
theorem e_Mo_told_100 : decode b_Mo_told 100 = .ok (.ireturn, 1) := by decide +kernel
theorem e_Mo_told_101 : decode b_Mo_told 101 = .ok (.aload_n 0, 1) := by decide +kernel
theorem e_Mo_told_102 : decode b_Mo_told 102 = .ok (.invokevirtual 369, 3) := by decide +kernel
theorem e_Mo_told_105 : decode b_Mo_told 105 = .ok (.ireturn, 1) := by decide +kernel
theorem e_Mo_told_106 : decode b_Mo_told 106 = .ok (.aload_n 0, 1) := by decide +kernel
theorem e_Mo_told_107 : decode b_Mo_told 107 = .ok (.invokevirtual 372, 3) := by decide +kernel
theorem e_Mo_told_110 : decode b_Mo_told 110 = .ok (.ireturn, 1) := by decide +kernel
theorem e_Mo_told_111 : decode b_Mo_told 111 = .ok (.aload_n 0, 1) := by decide +kernel
theorem e_Mo_told_112 : decode b_Mo_told 112 = .ok (.invokevirtual 343, 3) := by decide +kernel
theorem e_Mo_told_115 : decode b_Mo_told 115 = .ok (.ireturn, 1) := by decide +kernel
theorem e_Mo_told_116 : decode b_Mo_told 116 = .ok (.sipush (-10001), 3) := by decide +kernel
theorem e_Mo_told_119 : decode b_Mo_told 119 = .ok (.ireturn, 1) := by decide +kernel
theorem e_Mo_on_0 : decode b_Mo_on 0 = .ok (.aload_n 0, 1) := by decide +kernel
theorem e_Mo_on_1 : decode b_Mo_on 1 = .ok (.iload_n 2, 1) := by decide +kernel
theorem e_Mo_on_2 : decode b_Mo_on 2 = .ok (.iconst 0, 1) := by decide +kernel
theorem e_Mo_on_3 : decode b_Mo_on 3 = .ok (.iconst 1, 1) := by decide +kernel
theorem e_Mo_on_4 : decode b_Mo_on 4 = .ok (.invokevirtual 249, 3) := by decide +kernel
theorem e_Mo_on_7 : decode b_Mo_on 7 = .ok (.ifCond .ne 5, 3) := by decide +kernel
theorem e_Mo_on_10 : decode b_Mo_on 10 = .ok (.iconst (-1), 1) := by decide +kernel
theorem e_Mo_on_11 : decode b_Mo_on 11 = .ok (.ireturn, 1) := by decide +kernel
theorem e_Mo_on_12 : decode b_Mo_on 12 = .ok (.aload_n 0, 1) := by decide +kernel
theorem e_Mo_on_13 : decode b_Mo_on 13 = .ok (.iload_n 1, 1) := by decide +kernel
theorem e_Mo_on_14 : decode b_Mo_on 14 = .ok (.invokevirtual 353, 3) := by decide +kernel
theorem e_Mo_on_17 : decode b_Mo_on 17 = .ok (.ifCond .ne 6, 3) := by decide +kernel
theorem e_Mo_on_20 : decode b_Mo_on 20 = .ok (.bipush (-2), 2) := by decide +kernel
theorem e_Mo_on_22 : decode b_Mo_on 22 = .ok (.ireturn, 1) := by decide +kernel
theorem e_Mo_on_23 : decode b_Mo_on 23 = .ok (.aload_n 0, 1) := by decide +kernel
theorem e_Mo_on_24 : decode b_Mo_on 24 = .ok (.invokevirtual 360, 3) := by decide +kernel
theorem e_Mo_on_27 : decode b_Mo_on 27 = .ok (.aload_n 0, 1) := by decide +kernel
theorem e_Mo_on_28 : decode b_Mo_on 28 = .ok (.iload_n 1, 1) := by decide +kernel
theorem e_Mo_on_29 : decode b_Mo_on 29 = .ok (.invokevirtual 356, 3) := by decide +kernel
theorem e_Mo_on_32 : decode b_Mo_on 32 = .ok (.iload_n 2, 1) := by decide +kernel
theorem e_Mo_on_33 : decode b_Mo_on 33 = .ok (.ifCond .ne 10, 3) := by decide +kernel
theorem e_Mo_on_36 : decode b_Mo_on 36 = .ok (.aload_n 0, 1) := by decide +kernel
theorem e_Mo_on_37 : decode b_Mo_on 37 = .ok (.getfield 16, 3) := by decide +kernel
theorem e_Mo_on_40 : decode b_Mo_on 40 = .ok (.goto 15, 3) := by decide +kernel
theorem e_Mo_on_43 : decode b_Mo_on 43 = .ok (.aload_n 0, 1) := by decide +kernel
theorem e_Mo_on_44 : decode b_Mo_on 44 = .ok (.getfield 22, 3) := by decide +kernel
theorem e_Mo_on_47 : decode b_Mo_on 47 = .ok (.ifCond .eq 7, 3) := by decide +kernel
theorem e_Mo_on_50 : decode b_Mo_on 50 = .ok (.iconst 1, 1) := by decide +kernel
theorem e_Mo_on_51 : decode b_Mo_on 51 = .ok (.goto 4, 3) := by decide +kernel
theorem e_Mo_on_54 : decode b_Mo_on 54 = .ok (.iconst 0, 1) := by decide +kernel
theorem e_Mo_on_55 : decode b_Mo_on 55 = .ok (.istore_n 3, 1) := by decide +kernel
theorem e_Mo_on_56 : decode b_Mo_on 56 = .ok (.aload_n 0, 1) := by decide +kernel
theorem e_Mo_on_57 : decode b_Mo_on 57 = .ok (.invokevirtual 363, 3) := by decide +kernel
theorem e_Mo_on_60 : decode b_Mo_on 60 = .ok (.iload_n 3, 1) := by decide +kernel
theorem e_Mo_on_61 : decode b_Mo_on 61 = .ok (.ireturn, 1) := by decide +kernel
theorem e_Mo_layLine_0 : decode b_Mo_layLine 0 = .ok (.iload_n 1, 1) := by decide +kernel
theorem e_Mo_layLine_1 : decode b_Mo_layLine 1 = .ok (.istore_n 3, 1) := by decide +kernel
theorem e_Mo_layLine_2 : decode b_Mo_layLine 2 = .ok (.iconst 0, 1) := by decide +kernel
theorem e_Mo_layLine_3 : decode b_Mo_layLine 3 = .ok (.istore 4, 2) := by decide +kernel
theorem e_Mo_layLine_5 : decode b_Mo_layLine 5 = .ok (.iload_n 2, 1) := by decide +kernel
theorem e_Mo_layLine_6 : decode b_Mo_layLine 6 = .ok (.iconst 1, 1) := by decide +kernel
theorem e_Mo_layLine_7 : decode b_Mo_layLine 7 = .ok (.isub, 1) := by decide +kernel
theorem e_Mo_layLine_8 : decode b_Mo_layLine 8 = .ok (.istore 5, 2) := by decide +kernel
theorem e_Mo_layLine_10 : decode b_Mo_layLine 10 = .ok (.iload 5, 2) := by decide +kernel
theorem e_Mo_layLine_12 : decode b_Mo_layLine 12 = .ok (.ifCond .lt 86, 3) := by decide +kernel
theorem e_Mo_layLine_15 : decode b_Mo_layLine 15 = .ok (.aload_n 0, 1) := by decide +kernel
theorem e_Mo_layLine_16 : decode b_Mo_layLine 16 = .ok (.getfield 124, 3) := by decide +kernel
theorem e_Mo_layLine_19 : decode b_Mo_layLine 19 = .ok (.iload 5, 2) := by decide +kernel
theorem e_Mo_layLine_21 : decode b_Mo_layLine 21 = .ok (.iload_n 3, 1) := by decide +kernel
theorem e_Mo_layLine_22 : decode b_Mo_layLine 22 = .ok (.bipush 6, 2) := by decide +kernel
theorem e_Mo_layLine_24 : decode b_Mo_layLine 24 = .ok (.irem, 1) := by decide +kernel
theorem e_Mo_layLine_25 : decode b_Mo_layLine 25 = .ok (.iastore, 1) := by decide +kernel
theorem e_Mo_layLine_26 : decode b_Mo_layLine 26 = .ok (.iload_n 3, 1) := by decide +kernel
theorem e_Mo_layLine_27 : decode b_Mo_layLine 27 = .ok (.bipush 6, 2) := by decide +kernel
theorem e_Mo_layLine_29 : decode b_Mo_layLine 29 = .ok (.idiv, 1) := by decide +kernel
theorem e_Mo_layLine_30 : decode b_Mo_layLine 30 = .ok (.istore_n 3, 1) := by decide +kernel
theorem e_Mo_layLine_31 : decode b_Mo_layLine 31 = .ok (.aload_n 0, 1) := by decide +kernel
theorem e_Mo_layLine_32 : decode b_Mo_layLine 32 = .ok (.getfield 124, 3) := by decide +kernel
theorem e_Mo_layLine_35 : decode b_Mo_layLine 35 = .ok (.iload 5, 2) := by decide +kernel
theorem e_Mo_layLine_37 : decode b_Mo_layLine 37 = .ok (.iaload, 1) := by decide +kernel
theorem e_Mo_layLine_38 : decode b_Mo_layLine 38 = .ok (.aload_n 0, 1) := by decide +kernel
theorem e_Mo_layLine_39 : decode b_Mo_layLine 39 = .ok (.getfield 7, 3) := by decide +kernel
theorem e_Mo_layLine_42 : decode b_Mo_layLine 42 = .ok (.if_icmp .ge 34, 3) := by decide +kernel
theorem e_Mo_layLine_45 : decode b_Mo_layLine 45 = .ok (.aload_n 0, 1) := by decide +kernel
theorem e_Mo_layLine_46 : decode b_Mo_layLine 46 = .ok (.iload 4, 2) := by decide +kernel
theorem e_Mo_layLine_48 : decode b_Mo_layLine 48 = .ok (.aload_n 0, 1) := by decide +kernel
theorem e_Mo_layLine_49 : decode b_Mo_layLine 49 = .ok (.getfield 124, 3) := by decide +kernel
theorem e_Mo_layLine_52 : decode b_Mo_layLine 52 = .ok (.iload 5, 2) := by decide +kernel
theorem e_Mo_layLine_54 : decode b_Mo_layLine 54 = .ok (.iaload, 1) := by decide +kernel
theorem e_Mo_layLine_55 : decode b_Mo_layLine 55 = .ok (.invokevirtual 245, 3) := by decide +kernel
theorem e_Mo_layLine_58 : decode b_Mo_layLine 58 = .ok (.ifCond .ne 18, 3) := by decide +kernel
theorem e_Mo_layLine_61 : decode b_Mo_layLine 61 = .ok (.aload_n 0, 1) := by decide +kernel
theorem e_Mo_layLine_62 : decode b_Mo_layLine 62 = .ok (.getfield 39, 3) := by decide +kernel
theorem e_Mo_layLine_65 : decode b_Mo_layLine 65 = .ok (.aload_n 0, 1) := by decide +kernel
theorem e_Mo_layLine_66 : decode b_Mo_layLine 66 = .ok (.getfield 124, 3) := by decide +kernel
theorem e_Mo_layLine_69 : decode b_Mo_layLine 69 = .ok (.iload 5, 2) := by decide +kernel
theorem e_Mo_layLine_71 : decode b_Mo_layLine 71 = .ok (.iaload, 1) := by decide +kernel
theorem e_Mo_layLine_72 : decode b_Mo_layLine 72 = .ok (.iaload, 1) := by decide +kernel
theorem e_Mo_layLine_73 : decode b_Mo_layLine 73 = .ok (.ifCond .eq 5, 3) := by decide +kernel
theorem e_Mo_layLine_76 : decode b_Mo_layLine 76 = .ok (.iconst 0, 1) := by decide +kernel
theorem e_Mo_layLine_77 : decode b_Mo_layLine 77 = .ok (.ireturn, 1) := by decide +kernel
theorem e_Mo_layLine_78 : decode b_Mo_layLine 78 = .ok (.iload 4, 2) := by decide +kernel
theorem e_Mo_layLine_80 : decode b_Mo_layLine 80 = .ok (.iconst 1, 1) := by decide +kernel
theorem e_Mo_layLine_81 : decode b_Mo_layLine 81 = .ok (.aload_n 0, 1) := by decide +kernel
theorem e_Mo_layLine_82 : decode b_Mo_layLine 82 = .ok (.getfield 124, 3) := by decide +kernel
theorem e_Mo_layLine_85 : decode b_Mo_layLine 85 = .ok (.iload 5, 2) := by decide +kernel
theorem e_Mo_layLine_87 : decode b_Mo_layLine 87 = .ok (.iaload, 1) := by decide +kernel
theorem e_Mo_layLine_88 : decode b_Mo_layLine 88 = .ok (.ishl, 1) := by decide +kernel
theorem e_Mo_layLine_89 : decode b_Mo_layLine 89 = .ok (.ior, 1) := by decide +kernel
theorem e_Mo_layLine_90 : decode b_Mo_layLine 90 = .ok (.istore 4, 2) := by decide +kernel
theorem e_Mo_layLine_92 : decode b_Mo_layLine 92 = .ok (.iinc 5 (-1), 3) := by decide +kernel
theorem e_Mo_layLine_95 : decode b_Mo_layLine 95 = .ok (.goto (-85), 3) := by decide +kernel
theorem e_Mo_layLine_98 : decode b_Mo_layLine 98 = .ok (.iconst 1, 1) := by decide +kernel
theorem e_Mo_layLine_99 : decode b_Mo_layLine 99 = .ok (.ireturn, 1) := by decide +kernel
theorem e_Mo_colourBy_0 : decode b_Mo_colourBy 0 = .ok (.aload_n 0, 1) := by decide +kernel
theorem e_Mo_colourBy_1 : decode b_Mo_colourBy 1 = .ok (.invokevirtual 360, 3) := by decide +kernel
theorem e_Mo_colourBy_4 : decode b_Mo_colourBy 4 = .ok (.iconst 0, 1) := by decide +kernel
theorem e_Mo_colourBy_5 : decode b_Mo_colourBy 5 = .ok (.istore_n 2, 1) := by decide +kernel
theorem e_Mo_colourBy_6 : decode b_Mo_colourBy 6 = .ok (.iload_n 2, 1) := by decide +kernel
theorem e_Mo_colourBy_7 : decode b_Mo_colourBy 7 = .ok (.iload_n 1, 1) := by decide +kernel
theorem e_Mo_colourBy_8 : decode b_Mo_colourBy 8 = .ok (.if_icmp .ge 23, 3) := by decide +kernel
theorem e_Mo_colourBy_11 : decode b_Mo_colourBy 11 = .ok (.aload_n 0, 1) := by decide +kernel
theorem e_Mo_colourBy_12 : decode b_Mo_colourBy 12 = .ok (.aload_n 0, 1) := by decide +kernel
theorem e_Mo_colourBy_13 : decode b_Mo_colourBy 13 = .ok (.getfield 124, 3) := by decide +kernel
theorem e_Mo_colourBy_16 : decode b_Mo_colourBy 16 = .ok (.iload_n 2, 1) := by decide +kernel
theorem e_Mo_colourBy_17 : decode b_Mo_colourBy 17 = .ok (.iaload, 1) := by decide +kernel
theorem e_Mo_colourBy_18 : decode b_Mo_colourBy 18 = .ok (.invokevirtual 260, 3) := by decide +kernel
theorem e_Mo_colourBy_21 : decode b_Mo_colourBy 21 = .ok (.aload_n 0, 1) := by decide +kernel
theorem e_Mo_colourBy_22 : decode b_Mo_colourBy 22 = .ok (.invokevirtual 350, 3) := by decide +kernel
theorem e_Mo_colourBy_25 : decode b_Mo_colourBy 25 = .ok (.iinc 2 1, 3) := by decide +kernel
theorem e_Mo_colourBy_28 : decode b_Mo_colourBy 28 = .ok (.goto (-22), 3) := by decide +kernel
theorem e_Mo_colourBy_31 : decode b_Mo_colourBy 31 = .ok (.aload_n 0, 1) := by decide +kernel
theorem e_Mo_colourBy_32 : decode b_Mo_colourBy 32 = .ok (.getfield 16, 3) := by decide +kernel
theorem e_Mo_colourBy_35 : decode b_Mo_colourBy 35 = .ok (.istore_n 2, 1) := by decide +kernel
theorem e_Mo_colourBy_36 : decode b_Mo_colourBy 36 = .ok (.aload_n 0, 1) := by decide +kernel
theorem e_Mo_colourBy_37 : decode b_Mo_colourBy 37 = .ok (.invokevirtual 363, 3) := by decide +kernel
theorem e_Mo_colourBy_40 : decode b_Mo_colourBy 40 = .ok (.iload_n 2, 1) := by decide +kernel
theorem e_Mo_colourBy_41 : decode b_Mo_colourBy 41 = .ok (.ireturn, 1) := by decide +kernel
theorem e_Mo_best_0 : decode b_Mo_best 0 = .ok (.aload_n 0, 1) := by decide +kernel
theorem e_Mo_best_1 : decode b_Mo_best 1 = .ok (.iload_n 2, 1) := by decide +kernel
theorem e_Mo_best_2 : decode b_Mo_best 2 = .ok (.iconst (-1), 1) := by decide +kernel
theorem e_Mo_best_3 : decode b_Mo_best 3 = .ok (.iconst 2, 1) := by decide +kernel
theorem e_Mo_best_4 : decode b_Mo_best 4 = .ok (.invokevirtual 249, 3) := by decide +kernel
theorem e_Mo_best_7 : decode b_Mo_best 7 = .ok (.ifCond .ne 5, 3) := by decide +kernel
theorem e_Mo_best_10 : decode b_Mo_best 10 = .ok (.iconst (-1), 1) := by decide +kernel
theorem e_Mo_best_11 : decode b_Mo_best 11 = .ok (.ireturn, 1) := by decide +kernel
theorem e_Mo_best_12 : decode b_Mo_best 12 = .ok (.aload_n 0, 1) := by decide +kernel
theorem e_Mo_best_13 : decode b_Mo_best 13 = .ok (.iload_n 1, 1) := by decide +kernel
theorem e_Mo_best_14 : decode b_Mo_best 14 = .ok (.iconst 1, 1) := by decide +kernel
theorem e_Mo_best_15 : decode b_Mo_best 15 = .ok (.iconst 3, 1) := by decide +kernel
theorem e_Mo_best_16 : decode b_Mo_best 16 = .ok (.invokevirtual 249, 3) := by decide +kernel
theorem e_Mo_best_19 : decode b_Mo_best 19 = .ok (.ifCond .ne 6, 3) := by decide +kernel
theorem e_Mo_best_22 : decode b_Mo_best 22 = .ok (.bipush (-2), 2) := by decide +kernel
theorem e_Mo_best_24 : decode b_Mo_best 24 = .ok (.ireturn, 1) := by decide +kernel
theorem e_Mo_best_25 : decode b_Mo_best 25 = .ok (.iconst 1, 1) := by decide +kernel
theorem e_Mo_best_26 : decode b_Mo_best 26 = .ok (.istore_n 3, 1) := by decide +kernel
theorem e_Mo_best_27 : decode b_Mo_best 27 = .ok (.iconst 0, 1) := by decide +kernel
theorem e_Mo_best_28 : decode b_Mo_best 28 = .ok (.istore 4, 2) := by decide +kernel
theorem e_Mo_best_30 : decode b_Mo_best 30 = .ok (.iload 4, 2) := by decide +kernel
theorem e_Mo_best_32 : decode b_Mo_best 32 = .ok (.iload_n 1, 1) := by decide +kernel
theorem e_Mo_best_33 : decode b_Mo_best 33 = .ok (.if_icmp .ge 14, 3) := by decide +kernel
theorem e_Mo_best_36 : decode b_Mo_best 36 = .ok (.iload_n 3, 1) := by decide +kernel
theorem e_Mo_best_37 : decode b_Mo_best 37 = .ok (.bipush 6, 2) := by decide +kernel
theorem e_Mo_best_39 : decode b_Mo_best 39 = .ok (.imul, 1) := by decide +kernel
theorem e_Mo_best_40 : decode b_Mo_best 40 = .ok (.istore_n 3, 1) := by decide +kernel
theorem e_Mo_best_41 : decode b_Mo_best 41 = .ok (.iinc 4 1, 3) := by decide +kernel
theorem e_Mo_best_44 : decode b_Mo_best 44 = .ok (.goto (-14), 3) := by decide +kernel
theorem e_Mo_best_47 : decode b_Mo_best 47 = .ok (.bipush (-5), 2) := by decide +kernel
theorem e_Mo_best_49 : decode b_Mo_best 49 = .ok (.istore 4, 2) := by decide +kernel
theorem e_Mo_best_51 : decode b_Mo_best 51 = .ok (.iconst 0, 1) := by decide +kernel
theorem e_Mo_best_52 : decode b_Mo_best 52 = .ok (.istore 5, 2) := by decide +kernel
theorem e_Mo_best_54 : decode b_Mo_best 54 = .ok (.iload 5, 2) := by decide +kernel
theorem e_Mo_best_56 : decode b_Mo_best 56 = .ok (.iload_n 3, 1) := by decide +kernel
theorem e_Mo_best_57 : decode b_Mo_best 57 = .ok (.if_icmp .ge 72, 3) := by decide +kernel
theorem e_Mo_best_60 : decode b_Mo_best 60 = .ok (.aload_n 0, 1) := by decide +kernel
theorem e_Mo_best_61 : decode b_Mo_best 61 = .ok (.iload 5, 2) := by decide +kernel
theorem e_Mo_best_63 : decode b_Mo_best 63 = .ok (.iload_n 1, 1) := by decide +kernel
theorem e_Mo_best_64 : decode b_Mo_best 64 = .ok (.invokevirtual 375, 3) := by decide +kernel
theorem e_Mo_best_67 : decode b_Mo_best 67 = .ok (.ifCond .ne 6, 3) := by decide +kernel
theorem e_Mo_best_70 : decode b_Mo_best 70 = .ok (.goto 53, 3) := by decide +kernel
theorem e_Mo_best_73 : decode b_Mo_best 73 = .ok (.aload_n 0, 1) := by decide +kernel
theorem e_Mo_best_74 : decode b_Mo_best 74 = .ok (.iload_n 1, 1) := by decide +kernel
theorem e_Mo_best_75 : decode b_Mo_best 75 = .ok (.invokevirtual 378, 3) := by decide +kernel
theorem e_Mo_best_78 : decode b_Mo_best 78 = .ok (.istore 6, 2) := by decide +kernel
theorem e_Mo_best_80 : decode b_Mo_best 80 = .ok (.iload 6, 2) := by decide +kernel
theorem e_Mo_best_82 : decode b_Mo_best 82 = .ok (.iload 4, 2) := by decide +kernel
theorem e_Mo_best_84 : decode b_Mo_best 84 = .ok (.if_icmp .gt 6, 3) := by decide +kernel
theorem e_Mo_best_87 : decode b_Mo_best 87 = .ok (.goto 36, 3) := by decide +kernel
theorem e_Mo_best_90 : decode b_Mo_best 90 = .ok (.iload 6, 2) := by decide +kernel
theorem e_Mo_best_92 : decode b_Mo_best 92 = .ok (.istore 4, 2) := by decide +kernel
theorem e_Mo_best_94 : decode b_Mo_best 94 = .ok (.iconst 0, 1) := by decide +kernel
theorem e_Mo_best_95 : decode b_Mo_best 95 = .ok (.istore 7, 2) := by decide +kernel
theorem e_Mo_best_97 : decode b_Mo_best 97 = .ok (.iload 7, 2) := by decide +kernel
theorem e_Mo_best_99 : decode b_Mo_best 99 = .ok (.iconst 3, 1) := by decide +kernel
theorem e_Mo_best_100 : decode b_Mo_best 100 = .ok (.if_icmp .ge 23, 3) := by decide +kernel
theorem e_Mo_best_103 : decode b_Mo_best 103 = .ok (.aload_n 0, 1) := by decide +kernel
theorem e_Mo_best_104 : decode b_Mo_best 104 = .ok (.getfield 127, 3) := by decide +kernel
theorem e_Mo_best_107 : decode b_Mo_best 107 = .ok (.iload 7, 2) := by decide +kernel
theorem e_Mo_best_109 : decode b_Mo_best 109 = .ok (.aload_n 0, 1) := by decide +kernel
theorem e_Mo_best_110 : decode b_Mo_best 110 = .ok (.getfield 124, 3) := by decide +kernel
theorem e_Mo_best_113 : decode b_Mo_best 113 = .ok (.iload 7, 2) := by decide +kernel
theorem e_Mo_best_115 : decode b_Mo_best 115 = .ok (.iaload, 1) := by decide +kernel
theorem e_Mo_best_116 : decode b_Mo_best 116 = .ok (.iastore, 1) := by decide +kernel
theorem e_Mo_best_117 : decode b_Mo_best 117 = .ok (.iinc 7 1, 3) := by decide +kernel
theorem e_Mo_best_120 : decode b_Mo_best 120 = .ok (.goto (-23), 3) := by decide +kernel
theorem e_Mo_best_123 : decode b_Mo_best 123 = .ok (.iinc 5 1, 3) := by decide +kernel
theorem e_Mo_best_126 : decode b_Mo_best 126 = .ok (.goto (-72), 3) := by decide +kernel
theorem e_Mo_best_129 : decode b_Mo_best 129 = .ok (.iload_n 2, 1) := by decide +kernel
theorem e_Mo_best_130 : decode b_Mo_best 130 = .ok (.ifCond .lt 8, 3) := by decide +kernel
theorem e_Mo_best_133 : decode b_Mo_best 133 = .ok (.iload 4, 2) := by decide +kernel
theorem e_Mo_best_135 : decode b_Mo_best 135 = .ok (.ifCond .ge 6, 3) := by decide +kernel
theorem e_Mo_best_138 : decode b_Mo_best 138 = .ok (.iload 4, 2) := by decide +kernel
theorem e_Mo_best_140 : decode b_Mo_best 140 = .ok (.ireturn, 1) := by decide +kernel
theorem e_Mo_best_141 : decode b_Mo_best 141 = .ok (.iload_n 2, 1) := by decide +kernel
theorem e_Mo_best_142 : decode b_Mo_best 142 = .ok (.iload_n 1, 1) := by decide +kernel
theorem e_Mo_best_143 : decode b_Mo_best 143 = .ok (.if_icmp .ge 12, 3) := by decide +kernel
theorem e_Mo_best_146 : decode b_Mo_best 146 = .ok (.aload_n 0, 1) := by decide +kernel
theorem e_Mo_best_147 : decode b_Mo_best 147 = .ok (.getfield 127, 3) := by decide +kernel
theorem e_Mo_best_150 : decode b_Mo_best 150 = .ok (.iload_n 2, 1) := by decide +kernel
theorem e_Mo_best_151 : decode b_Mo_best 151 = .ok (.iaload, 1) := by decide +kernel
theorem e_Mo_best_152 : decode b_Mo_best 152 = .ok (.goto 5, 3) := by decide +kernel
theorem e_Mo_best_155 : decode b_Mo_best 155 = .ok (.bipush (-5), 2) := by decide +kernel
theorem e_Mo_best_157 : decode b_Mo_best 157 = .ok (.ireturn, 1) := by decide +kernel
theorem e_Mo_isSetBy_0 : decode b_Mo_isSetBy 0 = .ok (.aload_n 0, 1) := by decide +kernel
theorem e_Mo_isSetBy_1 : decode b_Mo_isSetBy 1 = .ok (.invokevirtual 360, 3) := by decide +kernel
theorem e_Mo_isSetBy_4 : decode b_Mo_isSetBy 4 = .ok (.iconst 0, 1) := by decide +kernel
theorem e_Mo_isSetBy_5 : decode b_Mo_isSetBy 5 = .ok (.istore_n 3, 1) := by decide +kernel
theorem e_Mo_isSetBy_6 : decode b_Mo_isSetBy 6 = .ok (.iload_n 3, 1) := by decide +kernel
theorem e_Mo_isSetBy_7 : decode b_Mo_isSetBy 7 = .ok (.aload_n 0, 1) := by decide +kernel
theorem e_Mo_isSetBy_8 : decode b_Mo_isSetBy 8 = .ok (.getfield 7, 3) := by decide +kernel
theorem e_Mo_isSetBy_11 : decode b_Mo_isSetBy 11 = .ok (.if_icmp .ge 23, 3) := by decide +kernel
theorem e_Mo_isSetBy_14 : decode b_Mo_isSetBy 14 = .ok (.aload_n 0, 1) := by decide +kernel
theorem e_Mo_isSetBy_15 : decode b_Mo_isSetBy 15 = .ok (.iload_n 1, 1) := by decide +kernel
theorem e_Mo_isSetBy_16 : decode b_Mo_isSetBy 16 = .ok (.iload_n 3, 1) := by decide +kernel
theorem e_Mo_isSetBy_17 : decode b_Mo_isSetBy 17 = .ok (.invokevirtual 245, 3) := by decide +kernel
theorem e_Mo_isSetBy_20 : decode b_Mo_isSetBy 20 = .ok (.ifCond .eq 8, 3) := by decide +kernel
theorem e_Mo_isSetBy_23 : decode b_Mo_isSetBy 23 = .ok (.aload_n 0, 1) := by decide +kernel
theorem e_Mo_isSetBy_24 : decode b_Mo_isSetBy 24 = .ok (.iload_n 3, 1) := by decide +kernel
theorem e_Mo_isSetBy_25 : decode b_Mo_isSetBy 25 = .ok (.invokevirtual 260, 3) := by decide +kernel
theorem e_Mo_isSetBy_28 : decode b_Mo_isSetBy 28 = .ok (.iinc 3 1, 3) := by decide +kernel
theorem e_Mo_isSetBy_31 : decode b_Mo_isSetBy 31 = .ok (.goto (-25), 3) := by decide +kernel
theorem e_Mo_isSetBy_34 : decode b_Mo_isSetBy 34 = .ok (.aload_n 0, 1) := by decide +kernel
theorem e_Mo_isSetBy_35 : decode b_Mo_isSetBy 35 = .ok (.iload_n 2, 1) := by decide +kernel
theorem e_Mo_isSetBy_36 : decode b_Mo_isSetBy 36 = .ok (.invokevirtual 356, 3) := by decide +kernel
theorem e_Mo_isSetBy_39 : decode b_Mo_isSetBy 39 = .ok (.aload_n 0, 1) := by decide +kernel
theorem e_Mo_isSetBy_40 : decode b_Mo_isSetBy 40 = .ok (.getfield 22, 3) := by decide +kernel
theorem e_Mo_isSetBy_43 : decode b_Mo_isSetBy 43 = .ok (.istore_n 3, 1) := by decide +kernel
theorem e_Mo_isSetBy_44 : decode b_Mo_isSetBy 44 = .ok (.aload_n 0, 1) := by decide +kernel
theorem e_Mo_isSetBy_45 : decode b_Mo_isSetBy 45 = .ok (.invokevirtual 363, 3) := by decide +kernel
theorem e_Mo_isSetBy_48 : decode b_Mo_isSetBy 48 = .ok (.iload_n 3, 1) := by decide +kernel
theorem e_Mo_isSetBy_49 : decode b_Mo_isSetBy 49 = .ok (.ireturn, 1) := by decide +kernel
theorem e_Mo_enough_0 : decode b_Mo_enough 0 = .ok (.aload_n 0, 1) := by decide +kernel
theorem e_Mo_enough_1 : decode b_Mo_enough 1 = .ok (.iload_n 1, 1) := by decide +kernel
theorem e_Mo_enough_2 : decode b_Mo_enough 2 = .ok (.iconst 1, 1) := by decide +kernel
theorem e_Mo_enough_3 : decode b_Mo_enough 3 = .ok (.bipush 12, 2) := by decide +kernel
theorem e_Mo_enough_5 : decode b_Mo_enough 5 = .ok (.invokevirtual 249, 3) := by decide +kernel
theorem e_Mo_enough_8 : decode b_Mo_enough 8 = .ok (.ifCond .ne 6, 3) := by decide +kernel
theorem e_Mo_enough_11 : decode b_Mo_enough 11 = .ok (.bipush (-2), 2) := by decide +kernel
theorem e_Mo_enough_13 : decode b_Mo_enough 13 = .ok (.ireturn, 1) := by decide +kernel
theorem e_Mo_enough_14 : decode b_Mo_enough 14 = .ok (.bipush (-5), 2) := by decide +kernel
theorem e_Mo_enough_16 : decode b_Mo_enough 16 = .ok (.istore_n 2, 1) := by decide +kernel
theorem e_Mo_enough_17 : decode b_Mo_enough 17 = .ok (.aload_n 0, 1) := by decide +kernel
theorem e_Mo_enough_18 : decode b_Mo_enough 18 = .ok (.iconst 0, 1) := by decide +kernel
theorem e_Mo_enough_19 : decode b_Mo_enough 19 = .ok (.invokevirtual 264, 3) := by decide +kernel
theorem e_Mo_enough_22 : decode b_Mo_enough 22 = .ok (.istore_n 3, 1) := by decide +kernel
theorem e_Mo_enough_23 : decode b_Mo_enough 23 = .ok (.iconst 0, 1) := by decide +kernel
theorem e_Mo_enough_24 : decode b_Mo_enough 24 = .ok (.istore 4, 2) := by decide +kernel
theorem e_Mo_enough_26 : decode b_Mo_enough 26 = .ok (.iload 4, 2) := by decide +kernel
theorem e_Mo_enough_28 : decode b_Mo_enough 28 = .ok (.iload_n 3, 1) := by decide +kernel
theorem e_Mo_enough_29 : decode b_Mo_enough 29 = .ok (.if_icmp .gt 56, 3) := by decide +kernel
theorem e_Mo_enough_32 : decode b_Mo_enough 32 = .ok (.iload 4, 2) := by decide +kernel
theorem e_Mo_enough_34 : decode b_Mo_enough 34 = .ok (.iload_n 3, 1) := by decide +kernel
theorem e_Mo_enough_35 : decode b_Mo_enough 35 = .ok (.iconst (-1), 1) := by decide +kernel
theorem e_Mo_enough_36 : decode b_Mo_enough 36 = .ok (.ixor, 1) := by decide +kernel
theorem e_Mo_enough_37 : decode b_Mo_enough 37 = .ok (.iand, 1) := by decide +kernel
theorem e_Mo_enough_38 : decode b_Mo_enough 38 = .ok (.ifCond .ne 41, 3) := by decide +kernel
theorem e_Mo_enough_41 : decode b_Mo_enough 41 = .ok (.iload_n 2, 1) := by decide +kernel
theorem e_Mo_enough_42 : decode b_Mo_enough 42 = .ok (.ifCond .lt 20, 3) := by decide +kernel
theorem e_Mo_enough_45 : decode b_Mo_enough 45 = .ok (.aload_n 0, 1) := by decide +kernel
theorem e_Mo_enough_46 : decode b_Mo_enough 46 = .ok (.iload 4, 2) := by decide +kernel
theorem e_Mo_enough_48 : decode b_Mo_enough 48 = .ok (.invokevirtual 268, 3) := by decide +kernel
theorem e_Mo_enough_51 : decode b_Mo_enough 51 = .ok (.aload_n 0, 1) := by decide +kernel
theorem e_Mo_enough_52 : decode b_Mo_enough 52 = .ok (.iload_n 2, 1) := by decide +kernel
theorem e_Mo_enough_53 : decode b_Mo_enough 53 = .ok (.invokevirtual 268, 3) := by decide +kernel
theorem e_Mo_enough_56 : decode b_Mo_enough 56 = .ok (.if_icmp .lt 6, 3) := by decide +kernel
theorem e_Mo_enough_59 : decode b_Mo_enough 59 = .ok (.goto 20, 3) := by decide +kernel
theorem e_Mo_enough_62 : decode b_Mo_enough 62 = .ok (.aload_n 0, 1) := by decide +kernel
theorem e_Mo_enough_63 : decode b_Mo_enough 63 = .ok (.iload 4, 2) := by decide +kernel
theorem e_Mo_enough_65 : decode b_Mo_enough 65 = .ok (.iload_n 1, 1) := by decide +kernel
theorem e_Mo_enough_66 : decode b_Mo_enough 66 = .ok (.invokevirtual 381, 3) := by decide +kernel
theorem e_Mo_enough_69 : decode b_Mo_enough 69 = .ok (.ifCond .eq 8, 3) := by decide +kernel
theorem e_Mo_enough_72 : decode b_Mo_enough 72 = .ok (.iload 4, 2) := by decide +kernel
theorem e_Mo_enough_74 : decode b_Mo_enough 74 = .ok (.goto 4, 3) := by decide +kernel
theorem e_Mo_enough_77 : decode b_Mo_enough 77 = .ok (.iload_n 2, 1) := by decide +kernel
theorem e_Mo_enough_78 : decode b_Mo_enough 78 = .ok (.istore_n 2, 1) := by decide +kernel
theorem e_Mo_enough_79 : decode b_Mo_enough 79 = .ok (.iinc 4 1, 3) := by decide +kernel
theorem e_Mo_enough_82 : decode b_Mo_enough 82 = .ok (.goto (-56), 3) := by decide +kernel
theorem e_Mo_enough_85 : decode b_Mo_enough 85 = .ok (.iload_n 2, 1) := by decide +kernel
theorem e_Mo_enough_86 : decode b_Mo_enough 86 = .ok (.ireturn, 1) := by decide +kernel
theorem e_Mo_flame_0 : decode b_Mo_flame 0 = .ok (.aload_n 0, 1) := by decide +kernel
theorem e_Mo_flame_1 : decode b_Mo_flame 1 = .ok (.iload_n 1, 1) := by decide +kernel
theorem e_Mo_flame_2 : decode b_Mo_flame 2 = .ok (.iconst 1, 1) := by decide +kernel
theorem e_Mo_flame_3 : decode b_Mo_flame 3 = .ok (.bipush 20, 2) := by decide +kernel
theorem e_Mo_flame_5 : decode b_Mo_flame 5 = .ok (.invokevirtual 249, 3) := by decide +kernel
theorem e_Mo_flame_8 : decode b_Mo_flame 8 = .ok (.ifCond .eq 15, 3) := by decide +kernel
theorem e_Mo_flame_11 : decode b_Mo_flame 11 = .ok (.aload_n 0, 1) := by decide +kernel
theorem e_Mo_flame_12 : decode b_Mo_flame 12 = .ok (.iload_n 2, 1) := by decide +kernel
theorem e_Mo_flame_13 : decode b_Mo_flame 13 = .ok (.iconst 0, 1) := by decide +kernel
theorem e_Mo_flame_14 : decode b_Mo_flame 14 = .ok (.sipush 9999, 3) := by decide +kernel
theorem e_Mo_flame_17 : decode b_Mo_flame 17 = .ok (.invokevirtual 249, 3) := by decide +kernel
theorem e_Mo_flame_20 : decode b_Mo_flame 20 = .ok (.ifCond .ne 6, 3) := by decide +kernel
theorem e_Mo_flame_23 : decode b_Mo_flame 23 = .ok (.bipush (-2), 2) := by decide +kernel
theorem e_Mo_flame_25 : decode b_Mo_flame 25 = .ok (.ireturn, 1) := by decide +kernel
theorem e_Mo_flame_26 : decode b_Mo_flame 26 = .ok (.iconst 0, 1) := by decide +kernel
theorem e_Mo_flame_27 : decode b_Mo_flame 27 = .ok (.istore_n 3, 1) := by decide +kernel
theorem e_Mo_flame_28 : decode b_Mo_flame 28 = .ok (.ldc_w 359, 3) := by decide +kernel
theorem e_Mo_flame_31 : decode b_Mo_flame 31 = .ok (.istore 4, 2) := by decide +kernel
theorem e_Mo_flame_33 : decode b_Mo_flame 33 = .ok (.iconst 0, 1) := by decide +kernel
theorem e_Mo_flame_34 : decode b_Mo_flame 34 = .ok (.istore 5, 2) := by decide +kernel
theorem e_Mo_flame_36 : decode b_Mo_flame 36 = .ok (.iload 5, 2) := by decide +kernel
theorem e_Mo_flame_38 : decode b_Mo_flame 38 = .ok (.bipush 10, 2) := by decide +kernel
theorem e_Mo_flame_40 : decode b_Mo_flame 40 = .ok (.if_icmp .ge 56, 3) := by decide +kernel
theorem e_Mo_flame_43 : decode b_Mo_flame 43 = .ok (.aload_n 0, 1) := by decide +kernel
theorem e_Mo_flame_44 : decode b_Mo_flame 44 = .ok (.invokevirtual 360, 3) := by decide +kernel
theorem e_Mo_flame_47 : decode b_Mo_flame 47 = .ok (.aload_n 0, 1) := by decide +kernel
theorem e_Mo_flame_48 : decode b_Mo_flame 48 = .ok (.iload 5, 2) := by decide +kernel
theorem e_Mo_flame_50 : decode b_Mo_flame 50 = .ok (.putfield 13, 3) := by decide +kernel
theorem e_Mo_flame_53 : decode b_Mo_flame 53 = .ok (.aload_n 0, 1) := by decide +kernel
theorem e_Mo_flame_54 : decode b_Mo_flame 54 = .ok (.iload_n 1, 1) := by decide +kernel
theorem e_Mo_flame_55 : decode b_Mo_flame 55 = .ok (.invokevirtual 356, 3) := by decide +kernel
theorem e_Mo_flame_58 : decode b_Mo_flame 58 = .ok (.aload_n 0, 1) := by decide +kernel
theorem e_Mo_flame_59 : decode b_Mo_flame 59 = .ok (.aload_n 0, 1) := by decide +kernel
theorem e_Mo_flame_60 : decode b_Mo_flame 60 = .ok (.getfield 16, 3) := by decide +kernel
theorem e_Mo_flame_63 : decode b_Mo_flame 63 = .ok (.iload_n 2, 1) := by decide +kernel
theorem e_Mo_flame_64 : decode b_Mo_flame 64 = .ok (.invokevirtual 384, 3) := by decide +kernel
theorem e_Mo_flame_67 : decode b_Mo_flame 67 = .ok (.istore 6, 2) := by decide +kernel
theorem e_Mo_flame_69 : decode b_Mo_flame 69 = .ok (.aload_n 0, 1) := by decide +kernel
theorem e_Mo_flame_70 : decode b_Mo_flame 70 = .ok (.invokevirtual 363, 3) := by decide +kernel
theorem e_Mo_flame_73 : decode b_Mo_flame 73 = .ok (.iload 6, 2) := by decide +kernel
theorem e_Mo_flame_75 : decode b_Mo_flame 75 = .ok (.iload 4, 2) := by decide +kernel
theorem e_Mo_flame_77 : decode b_Mo_flame 77 = .ok (.if_icmp .lt 6, 3) := by decide +kernel
theorem e_Mo_flame_80 : decode b_Mo_flame 80 = .ok (.goto 10, 3) := by decide +kernel
theorem e_Mo_flame_83 : decode b_Mo_flame 83 = .ok (.iload 5, 2) := by decide +kernel
theorem e_Mo_flame_85 : decode b_Mo_flame 85 = .ok (.istore_n 3, 1) := by decide +kernel
theorem e_Mo_flame_86 : decode b_Mo_flame 86 = .ok (.iload 6, 2) := by decide +kernel
theorem e_Mo_flame_88 : decode b_Mo_flame 88 = .ok (.istore 4, 2) := by decide +kernel
theorem e_Mo_flame_90 : decode b_Mo_flame 90 = .ok (.iinc 5 1, 3) := by decide +kernel
theorem e_Mo_flame_93 : decode b_Mo_flame 93 = .ok (.goto (-57), 3) := by decide +kernel
theorem e_Mo_flame_96 : decode b_Mo_flame 96 = .ok (.iload_n 3, 1) := by decide +kernel
theorem e_Mo_flame_97 : decode b_Mo_flame 97 = .ok (.ireturn, 1) := by decide +kernel
theorem e_Mo_see_0 : decode b_Mo_see 0 = .ok (.iload_n 1, 1) := by decide +kernel
theorem e_Mo_see_1 : decode b_Mo_see 1 = .ok (.iconst (-1), 1) := by decide +kernel
theorem e_Mo_see_2 : decode b_Mo_see 2 = .ok (.if_icmp .ne 10, 3) := by decide +kernel
theorem e_Mo_see_5 : decode b_Mo_see 5 = .ok (.aload_n 0, 1) := by decide +kernel
theorem e_Mo_see_6 : decode b_Mo_see 6 = .ok (.iconst 0, 1) := by decide +kernel
theorem e_Mo_see_7 : decode b_Mo_see 7 = .ok (.putfield 130, 3) := by decide +kernel
theorem e_Mo_see_10 : decode b_Mo_see 10 = .ok (.iconst 0, 1) := by decide +kernel
theorem e_Mo_see_11 : decode b_Mo_see 11 = .ok (.ireturn, 1) := by decide +kernel
theorem e_Mo_see_12 : decode b_Mo_see 12 = .ok (.aload_n 0, 1) := by decide +kernel
theorem e_Mo_see_13 : decode b_Mo_see 13 = .ok (.iload_n 1, 1) := by decide +kernel
theorem e_Mo_see_14 : decode b_Mo_see 14 = .ok (.iconst 0, 1) := by decide +kernel
theorem e_Mo_see_15 : decode b_Mo_see 15 = .ok (.bipush 12, 2) := by decide +kernel
theorem e_Mo_see_17 : decode b_Mo_see 17 = .ok (.invokevirtual 249, 3) := by decide +kernel
theorem e_Mo_see_20 : decode b_Mo_see 20 = .ok (.ifCond .eq 15, 3) := by decide +kernel
theorem e_Mo_see_23 : decode b_Mo_see 23 = .ok (.aload_n 0, 1) := by decide +kernel
theorem e_Mo_see_24 : decode b_Mo_see 24 = .ok (.iload_n 2, 1) := by decide +kernel
theorem e_Mo_see_25 : decode b_Mo_see 25 = .ok (.iconst 0, 1) := by decide +kernel
theorem e_Mo_see_26 : decode b_Mo_see 26 = .ok (.sipush 9999, 3) := by decide +kernel
theorem e_Mo_see_29 : decode b_Mo_see 29 = .ok (.invokevirtual 249, 3) := by decide +kernel
theorem e_Mo_see_32 : decode b_Mo_see 32 = .ok (.ifCond .ne 6, 3) := by decide +kernel
theorem e_Mo_see_35 : decode b_Mo_see 35 = .ok (.bipush (-2), 2) := by decide +kernel
theorem e_Mo_see_37 : decode b_Mo_see 37 = .ok (.ireturn, 1) := by decide +kernel
theorem e_Mo_see_38 : decode b_Mo_see 38 = .ok (.aload_n 0, 1) := by decide +kernel
theorem e_Mo_see_39 : decode b_Mo_see 39 = .ok (.getfield 130, 3) := by decide +kernel
theorem e_Mo_see_42 : decode b_Mo_see 42 = .ok (.iconst 5, 1) := by decide +kernel
theorem e_Mo_see_43 : decode b_Mo_see 43 = .ok (.if_icmp .ne 6, 3) := by decide +kernel
theorem e_Mo_see_46 : decode b_Mo_see 46 = .ok (.bipush (-4), 2) := by decide +kernel
theorem e_Mo_see_48 : decode b_Mo_see 48 = .ok (.ireturn, 1) := by decide +kernel
theorem e_Mo_see_49 : decode b_Mo_see 49 = .ok (.aload_n 0, 1) := by decide +kernel
theorem e_Mo_see_50 : decode b_Mo_see 50 = .ok (.getfield 133, 3) := by decide +kernel
theorem e_Mo_see_53 : decode b_Mo_see 53 = .ok (.aload_n 0, 1) := by decide +kernel
theorem e_Mo_see_54 : decode b_Mo_see 54 = .ok (.getfield 130, 3) := by decide +kernel
theorem e_Mo_see_57 : decode b_Mo_see 57 = .ok (.iload_n 1, 1) := by decide +kernel
theorem e_Mo_see_58 : decode b_Mo_see 58 = .ok (.iastore, 1) := by decide +kernel
theorem e_Mo_see_59 : decode b_Mo_see 59 = .ok (.aload_n 0, 1) := by decide +kernel
theorem e_Mo_see_60 : decode b_Mo_see 60 = .ok (.getfield 136, 3) := by decide +kernel
theorem e_Mo_see_63 : decode b_Mo_see 63 = .ok (.aload_n 0, 1) := by decide +kernel
theorem e_Mo_see_64 : decode b_Mo_see 64 = .ok (.getfield 130, 3) := by decide +kernel
theorem e_Mo_see_67 : decode b_Mo_see 67 = .ok (.iload_n 2, 1) := by decide +kernel
theorem e_Mo_see_68 : decode b_Mo_see 68 = .ok (.iastore, 1) := by decide +kernel
theorem e_Mo_see_69 : decode b_Mo_see 69 = .ok (.aload_n 0, 1) := by decide +kernel
theorem e_Mo_see_70 : decode b_Mo_see 70 = .ok (.dup, 1) := by decide +kernel
theorem e_Mo_see_71 : decode b_Mo_see 71 = .ok (.getfield 130, 3) := by decide +kernel
theorem e_Mo_see_74 : decode b_Mo_see 74 = .ok (.iconst 1, 1) := by decide +kernel
theorem e_Mo_see_75 : decode b_Mo_see 75 = .ok (.iadd, 1) := by decide +kernel
theorem e_Mo_see_76 : decode b_Mo_see 76 = .ok (.putfield 130, 3) := by decide +kernel
theorem e_Mo_see_79 : decode b_Mo_see 79 = .ok (.aload_n 0, 1) := by decide +kernel
theorem e_Mo_see_80 : decode b_Mo_see 80 = .ok (.getfield 130, 3) := by decide +kernel
theorem e_Mo_see_83 : decode b_Mo_see 83 = .ok (.ireturn, 1) := by decide +kernel
theorem e_Mo_isSeen_0 : decode b_Mo_isSeen 0 = .ok (.iconst 1, 1) := by decide +kernel
theorem e_Mo_isSeen_1 : decode b_Mo_isSeen 1 = .ok (.istore_n 1, 1) := by decide +kernel
theorem e_Mo_isSeen_2 : decode b_Mo_isSeen 2 = .ok (.iconst 0, 1) := by decide +kernel
theorem e_Mo_isSeen_3 : decode b_Mo_isSeen 3 = .ok (.istore_n 2, 1) := by decide +kernel
theorem e_Mo_isSeen_4 : decode b_Mo_isSeen 4 = .ok (.iload_n 2, 1) := by decide +kernel
theorem e_Mo_isSeen_5 : decode b_Mo_isSeen 5 = .ok (.aload_n 0, 1) := by decide +kernel
theorem e_Mo_isSeen_6 : decode b_Mo_isSeen 6 = .ok (.getfield 130, 3) := by decide +kernel
theorem e_Mo_isSeen_9 : decode b_Mo_isSeen 9 = .ok (.if_icmp .ge 50, 3) := by decide +kernel
theorem e_Mo_isSeen_12 : decode b_Mo_isSeen 12 = .ok (.iload_n 1, 1) := by decide +kernel
theorem e_Mo_isSeen_13 : decode b_Mo_isSeen 13 = .ok (.ifCond .eq 46, 3) := by decide +kernel
theorem e_Mo_isSeen_16 : decode b_Mo_isSeen 16 = .ok (.aload_n 0, 1) := by decide +kernel
theorem e_Mo_isSeen_17 : decode b_Mo_isSeen 17 = .ok (.invokevirtual 360, 3) := by decide +kernel
theorem e_Mo_isSeen_20 : decode b_Mo_isSeen 20 = .ok (.aload_n 0, 1) := by decide +kernel
theorem e_Mo_isSeen_21 : decode b_Mo_isSeen 21 = .ok (.aload_n 0, 1) := by decide +kernel
theorem e_Mo_isSeen_22 : decode b_Mo_isSeen 22 = .ok (.getfield 133, 3) := by decide +kernel
theorem e_Mo_isSeen_25 : decode b_Mo_isSeen 25 = .ok (.iload_n 2, 1) := by decide +kernel
theorem e_Mo_isSeen_26 : decode b_Mo_isSeen 26 = .ok (.iaload, 1) := by decide +kernel
theorem e_Mo_isSeen_27 : decode b_Mo_isSeen 27 = .ok (.invokevirtual 356, 3) := by decide +kernel
theorem e_Mo_isSeen_30 : decode b_Mo_isSeen 30 = .ok (.aload_n 0, 1) := by decide +kernel
theorem e_Mo_isSeen_31 : decode b_Mo_isSeen 31 = .ok (.getfield 16, 3) := by decide +kernel
theorem e_Mo_isSeen_34 : decode b_Mo_isSeen 34 = .ok (.aload_n 0, 1) := by decide +kernel
theorem e_Mo_isSeen_35 : decode b_Mo_isSeen 35 = .ok (.getfield 136, 3) := by decide +kernel
theorem e_Mo_isSeen_38 : decode b_Mo_isSeen 38 = .ok (.iload_n 2, 1) := by decide +kernel
theorem e_Mo_isSeen_39 : decode b_Mo_isSeen 39 = .ok (.iaload, 1) := by decide +kernel
theorem e_Mo_isSeen_40 : decode b_Mo_isSeen 40 = .ok (.if_icmp .ne 7, 3) := by decide +kernel
theorem e_Mo_isSeen_43 : decode b_Mo_isSeen 43 = .ok (.iconst 1, 1) := by decide +kernel
theorem e_Mo_isSeen_44 : decode b_Mo_isSeen 44 = .ok (.goto 4, 3) := by decide +kernel
theorem e_Mo_isSeen_47 : decode b_Mo_isSeen 47 = .ok (.iconst 0, 1) := by decide +kernel
theorem e_Mo_isSeen_48 : decode b_Mo_isSeen 48 = .ok (.istore_n 1, 1) := by decide +kernel
theorem e_Mo_isSeen_49 : decode b_Mo_isSeen 49 = .ok (.aload_n 0, 1) := by decide +kernel
theorem e_Mo_isSeen_50 : decode b_Mo_isSeen 50 = .ok (.invokevirtual 363, 3) := by decide +kernel
theorem e_Mo_isSeen_53 : decode b_Mo_isSeen 53 = .ok (.iinc 2 1, 3) := by decide +kernel
theorem e_Mo_isSeen_56 : decode b_Mo_isSeen 56 = .ok (.goto (-52), 3) := by decide +kernel
theorem e_Mo_isSeen_59 : decode b_Mo_isSeen 59 = .ok (.iload_n 1, 1) := by decide +kernel
theorem e_Mo_isSeen_60 : decode b_Mo_isSeen 60 = .ok (.ireturn, 1) := by decide +kernel
theorem e_Mo_weights_0 : decode b_Mo_weights 0 = .ok (.aload_n 0, 1) := by decide +kernel
theorem e_Mo_weights_1 : decode b_Mo_weights 1 = .ok (.getfield 33, 3) := by decide +kernel
theorem e_Mo_weights_4 : decode b_Mo_weights 4 = .ok (.iload_n 1, 1) := by decide +kernel
theorem e_Mo_weights_5 : decode b_Mo_weights 5 = .ok (.iaload, 1) := by decide +kernel
theorem e_Mo_weights_6 : decode b_Mo_weights 6 = .ok (.istore_n 2, 1) := by decide +kernel
theorem e_Mo_weights_7 : decode b_Mo_weights 7 = .ok (.iconst 0, 1) := by decide +kernel
theorem e_Mo_weights_8 : decode b_Mo_weights 8 = .ok (.istore_n 3, 1) := by decide +kernel
theorem e_Mo_weights_9 : decode b_Mo_weights 9 = .ok (.iconst 0, 1) := by decide +kernel
theorem e_Mo_weights_10 : decode b_Mo_weights 10 = .ok (.istore 4, 2) := by decide +kernel
theorem e_Mo_weights_12 : decode b_Mo_weights 12 = .ok (.iload 4, 2) := by decide +kernel
theorem e_Mo_weights_14 : decode b_Mo_weights 14 = .ok (.bipush 21, 2) := by decide +kernel
theorem e_Mo_weights_16 : decode b_Mo_weights 16 = .ok (.if_icmp .ge 35, 3) := by decide +kernel
theorem e_Mo_weights_19 : decode b_Mo_weights 19 = .ok (.aload_n 0, 1) := by decide +kernel
theorem e_Mo_weights_20 : decode b_Mo_weights 20 = .ok (.getfield 33, 3) := by decide +kernel
theorem e_Mo_weights_23 : decode b_Mo_weights 23 = .ok (.iload_n 1, 1) := by decide +kernel
theorem e_Mo_weights_24 : decode b_Mo_weights 24 = .ok (.iload 4, 2) := by decide +kernel
theorem e_Mo_weights_26 : decode b_Mo_weights 26 = .ok (.iastore, 1) := by decide +kernel
theorem e_Mo_weights_27 : decode b_Mo_weights 27 = .ok (.iload_n 3, 1) := by decide +kernel
theorem e_Mo_weights_28 : decode b_Mo_weights 28 = .ok (.aload_n 0, 1) := by decide +kernel
theorem e_Mo_weights_29 : decode b_Mo_weights 29 = .ok (.invokevirtual 387, 3) := by decide +kernel
theorem e_Mo_weights_32 : decode b_Mo_weights 32 = .ok (.ifCond .eq 10, 3) := by decide +kernel
theorem e_Mo_weights_35 : decode b_Mo_weights 35 = .ok (.iconst 1, 1) := by decide +kernel
theorem e_Mo_weights_36 : decode b_Mo_weights 36 = .ok (.iload 4, 2) := by decide +kernel
theorem e_Mo_weights_38 : decode b_Mo_weights 38 = .ok (.ishl, 1) := by decide +kernel
theorem e_Mo_weights_39 : decode b_Mo_weights 39 = .ok (.goto 4, 3) := by decide +kernel
theorem e_Mo_weights_42 : decode b_Mo_weights 42 = .ok (.iconst 0, 1) := by decide +kernel
theorem e_Mo_weights_43 : decode b_Mo_weights 43 = .ok (.ior, 1) := by decide +kernel
theorem e_Mo_weights_44 : decode b_Mo_weights 44 = .ok (.istore_n 3, 1) := by decide +kernel
theorem e_Mo_weights_45 : decode b_Mo_weights 45 = .ok (.iinc 4 1, 3) := by decide +kernel
theorem e_Mo_weights_48 : decode b_Mo_weights 48 = .ok (.goto (-36), 3) := by decide +kernel
theorem e_Mo_weights_51 : decode b_Mo_weights 51 = .ok (.aload_n 0, 1) := by decide +kernel
theorem e_Mo_weights_52 : decode b_Mo_weights 52 = .ok (.getfield 33, 3) := by decide +kernel
theorem e_Mo_weights_55 : decode b_Mo_weights 55 = .ok (.iload_n 1, 1) := by decide +kernel
theorem e_Mo_weights_56 : decode b_Mo_weights 56 = .ok (.iload_n 2, 1) := by decide +kernel
theorem e_Mo_weights_57 : decode b_Mo_weights 57 = .ok (.iastore, 1) := by decide +kernel
theorem e_Mo_weights_58 : decode b_Mo_weights 58 = .ok (.iload_n 3, 1) := by decide +kernel
theorem e_Mo_weights_59 : decode b_Mo_weights 59 = .ok (.ireturn, 1) := by decide +kernel
theorem e_Mo_of_0 : decode b_Mo_of 0 = .ok (.aload_n 0, 1) := by decide +kernel
theorem e_Mo_of_1 : decode b_Mo_of 1 = .ok (.iload_n 1, 1) := by decide +kernel
theorem e_Mo_of_2 : decode b_Mo_of 2 = .ok (.invokevirtual 257, 3) := by decide +kernel
theorem e_Mo_of_5 : decode b_Mo_of 5 = .ok (.ifCond .ne 7, 3) := by decide +kernel
theorem e_Mo_of_8 : decode b_Mo_of 8 = .ok (.sipush (-10001), 3) := by decide +kernel
theorem e_Mo_of_11 : decode b_Mo_of 11 = .ok (.ireturn, 1) := by decide +kernel
theorem e_Mo_of_12 : decode b_Mo_of 12 = .ok (.iload_n 2, 1) := by decide +kernel
theorem e_Mo_of_13 : decode b_Mo_of 13 = .ok (.tableswitch 101 0 7 #[47, 54, 61, 68, 75, 82, 89, 95], 47) := by decide +kernel
theorem e_Mo_of_60 : decode b_Mo_of 60 = .ok (.aload_n 0, 1) := by decide +kernel
theorem e_Mo_of_61 : decode b_Mo_of 61 = .ok (.getfield 26, 3) := by decide +kernel
theorem e_Mo_of_64 : decode b_Mo_of 64 = .ok (.iload_n 1, 1) := by decide +kernel
theorem e_Mo_of_65 : decode b_Mo_of 65 = .ok (.iaload, 1) := by decide +kernel
theorem e_Mo_of_66 : decode b_Mo_of 66 = .ok (.ireturn, 1) := by decide +kernel
theorem e_Mo_of_67 : decode b_Mo_of 67 = .ok (.aload_n 0, 1) := by decide +kernel
theorem e_Mo_of_68 : decode b_Mo_of 68 = .ok (.getfield 30, 3) := by decide +kernel
theorem e_Mo_of_71 : decode b_Mo_of 71 = .ok (.iload_n 1, 1) := by decide +kernel
theorem e_Mo_of_72 : decode b_Mo_of 72 = .ok (.iaload, 1) := by decide +kernel
theorem e_Mo_of_73 : decode b_Mo_of 73 = .ok (.ireturn, 1) := by decide +kernel
theorem e_Mo_of_74 : decode b_Mo_of 74 = .ok (.aload_n 0, 1) := by decide +kernel
theorem e_Mo_of_75 : decode b_Mo_of 75 = .ok (.getfield 33, 3) := by decide +kernel
theorem e_Mo_of_78 : decode b_Mo_of 78 = .ok (.iload_n 1, 1) := by decide +kernel
theorem e_Mo_of_79 : decode b_Mo_of 79 = .ok (.iaload, 1) := by decide +kernel
theorem e_Mo_of_80 : decode b_Mo_of 80 = .ok (.ireturn, 1) := by decide +kernel
theorem e_Mo_of_81 : decode b_Mo_of 81 = .ok (.aload_n 0, 1) := by decide +kernel
theorem e_Mo_of_82 : decode b_Mo_of 82 = .ok (.getfield 36, 3) := by decide +kernel
theorem e_Mo_of_85 : decode b_Mo_of 85 = .ok (.iload_n 1, 1) := by decide +kernel
theorem e_Mo_of_86 : decode b_Mo_of 86 = .ok (.iaload, 1) := by decide +kernel
theorem e_Mo_of_87 : decode b_Mo_of 87 = .ok (.ireturn, 1) := by decide +kernel
theorem e_Mo_of_88 : decode b_Mo_of 88 = .ok (.aload_n 0, 1) := by decide +kernel
theorem e_Mo_of_89 : decode b_Mo_of 89 = .ok (.getfield 39, 3) := by decide +kernel
theorem e_Mo_of_92 : decode b_Mo_of 92 = .ok (.iload_n 1, 1) := by decide +kernel
theorem e_Mo_of_93 : decode b_Mo_of 93 = .ok (.iaload, 1) := by decide +kernel
theorem e_Mo_of_94 : decode b_Mo_of 94 = .ok (.ireturn, 1) := by decide +kernel
theorem e_Mo_of_95 : decode b_Mo_of 95 = .ok (.aload_n 0, 1) := by decide +kernel
theorem e_Mo_of_96 : decode b_Mo_of 96 = .ok (.getfield 42, 3) := by decide +kernel
theorem e_Mo_of_99 : decode b_Mo_of 99 = .ok (.iload_n 1, 1) := by decide +kernel
theorem e_Mo_of_100 : decode b_Mo_of 100 = .ok (.iaload, 1) := by decide +kernel
theorem e_Mo_of_101 : decode b_Mo_of 101 = .ok (.ireturn, 1) := by decide +kernel
theorem e_Mo_of_102 : decode b_Mo_of 102 = .ok (.aload_n 0, 1) := by decide +kernel
theorem e_Mo_of_103 : decode b_Mo_of 103 = .ok (.iload_n 1, 1) := by decide +kernel
theorem e_Mo_of_104 : decode b_Mo_of 104 = .ok (.invokevirtual 340, 3) := by decide +kernel
theorem e_Mo_of_107 : decode b_Mo_of 107 = .ok (.ireturn, 1) := by decide +kernel
theorem e_Mo_of_108 : decode b_Mo_of 108 = .ok (.aload_n 0, 1) := by decide +kernel
theorem e_Mo_of_109 : decode b_Mo_of 109 = .ok (.iload_n 1, 1) := by decide +kernel
theorem e_Mo_of_110 : decode b_Mo_of 110 = .ok (.invokevirtual 390, 3) := by decide +kernel
theorem e_Mo_of_113 : decode b_Mo_of 113 = .ok (.ireturn, 1) := by decide +kernel
theorem e_Mo_of_114 : decode b_Mo_of 114 = .ok (.sipush (-10001), 3) := by decide +kernel
theorem e_Mo_of_117 : decode b_Mo_of 117 = .ok (.ireturn, 1) := by decide +kernel
theorem e_Mo_can_0 : decode b_Mo_can 0 = .ok (.aload_n 0, 1) := by decide +kernel
theorem e_Mo_can_1 : decode b_Mo_can 1 = .ok (.iload_n 1, 1) := by decide +kernel
theorem e_Mo_can_2 : decode b_Mo_can 2 = .ok (.invokevirtual 257, 3) := by decide +kernel
theorem e_Mo_can_5 : decode b_Mo_can 5 = .ok (.ifCond .eq 13, 3) := by decide +kernel
theorem e_Mo_can_8 : decode b_Mo_can 8 = .ok (.aload_n 0, 1) := by decide +kernel
theorem e_Mo_can_9 : decode b_Mo_can 9 = .ok (.iload_n 2, 1) := by decide +kernel
theorem e_Mo_can_10 : decode b_Mo_can 10 = .ok (.iconst 0, 1) := by decide +kernel
theorem e_Mo_can_11 : decode b_Mo_can 11 = .ok (.iconst 1, 1) := by decide +kernel
theorem e_Mo_can_12 : decode b_Mo_can 12 = .ok (.invokevirtual 249, 3) := by decide +kernel
theorem e_Mo_can_15 : decode b_Mo_can 15 = .ok (.ifCond .ne 5, 3) := by decide +kernel
theorem e_Mo_can_18 : decode b_Mo_can 18 = .ok (.iconst (-1), 1) := by decide +kernel
theorem e_Mo_can_19 : decode b_Mo_can 19 = .ok (.ireturn, 1) := by decide +kernel
theorem e_Mo_can_20 : decode b_Mo_can 20 = .ok (.aload_n 0, 1) := by decide +kernel
theorem e_Mo_can_21 : decode b_Mo_can 21 = .ok (.getfield 30, 3) := by decide +kernel
theorem e_Mo_can_24 : decode b_Mo_can 24 = .ok (.iload_n 1, 1) := by decide +kernel
theorem e_Mo_can_25 : decode b_Mo_can 25 = .ok (.iaload, 1) := by decide +kernel
theorem e_Mo_can_26 : decode b_Mo_can 26 = .ok (.istore_n 3, 1) := by decide +kernel
theorem e_Mo_can_27 : decode b_Mo_can 27 = .ok (.iconst 0, 1) := by decide +kernel
theorem e_Mo_can_28 : decode b_Mo_can 28 = .ok (.istore 4, 2) := by decide +kernel
theorem e_Mo_can_30 : decode b_Mo_can 30 = .ok (.bipush (-5), 2) := by decide +kernel
theorem e_Mo_can_32 : decode b_Mo_can 32 = .ok (.istore 5, 2) := by decide +kernel
theorem e_Mo_can_34 : decode b_Mo_can 34 = .ok (.bipush 9, 2) := by decide +kernel
theorem e_Mo_can_36 : decode b_Mo_can 36 = .ok (.istore 6, 2) := by decide +kernel
theorem e_Mo_can_38 : decode b_Mo_can 38 = .ok (.iload 6, 2) := by decide +kernel
theorem e_Mo_can_40 : decode b_Mo_can 40 = .ok (.ifCond .lt 34, 3) := by decide +kernel
theorem e_Mo_can_43 : decode b_Mo_can 43 = .ok (.aload_n 0, 1) := by decide +kernel
theorem e_Mo_can_44 : decode b_Mo_can 44 = .ok (.getfield 30, 3) := by decide +kernel
theorem e_Mo_can_47 : decode b_Mo_can 47 = .ok (.iload_n 1, 1) := by decide +kernel
theorem e_Mo_can_48 : decode b_Mo_can 48 = .ok (.iload 6, 2) := by decide +kernel
theorem e_Mo_can_50 : decode b_Mo_can 50 = .ok (.iastore, 1) := by decide +kernel
theorem e_Mo_can_51 : decode b_Mo_can 51 = .ok (.aload_n 0, 1) := by decide +kernel
theorem e_Mo_can_52 : decode b_Mo_can 52 = .ok (.invokevirtual 387, 3) := by decide +kernel
theorem e_Mo_can_55 : decode b_Mo_can 55 = .ok (.ifCond .ne 6, 3) := by decide +kernel
theorem e_Mo_can_58 : decode b_Mo_can 58 = .ok (.goto 10, 3) := by decide +kernel
theorem e_Mo_can_61 : decode b_Mo_can 61 = .ok (.iinc 4 1, 3) := by decide +kernel
theorem e_Mo_can_64 : decode b_Mo_can 64 = .ok (.iload 6, 2) := by decide +kernel
theorem e_Mo_can_66 : decode b_Mo_can 66 = .ok (.istore 5, 2) := by decide +kernel
theorem e_Mo_can_68 : decode b_Mo_can 68 = .ok (.iinc 6 (-1), 3) := by decide +kernel
theorem e_Mo_can_71 : decode b_Mo_can 71 = .ok (.goto (-33), 3) := by decide +kernel
theorem e_Mo_can_74 : decode b_Mo_can 74 = .ok (.aload_n 0, 1) := by decide +kernel
theorem e_Mo_can_75 : decode b_Mo_can 75 = .ok (.getfield 30, 3) := by decide +kernel
theorem e_Mo_can_78 : decode b_Mo_can 78 = .ok (.iload_n 1, 1) := by decide +kernel
theorem e_Mo_can_79 : decode b_Mo_can 79 = .ok (.iload_n 3, 1) := by decide +kernel
theorem e_Mo_can_80 : decode b_Mo_can 80 = .ok (.iastore, 1) := by decide +kernel
theorem e_Mo_can_81 : decode b_Mo_can 81 = .ok (.iload_n 2, 1) := by decide +kernel
theorem e_Mo_can_82 : decode b_Mo_can 82 = .ok (.ifCond .ne 8, 3) := by decide +kernel
theorem e_Mo_can_85 : decode b_Mo_can 85 = .ok (.iload 4, 2) := by decide +kernel
theorem e_Mo_can_87 : decode b_Mo_can 87 = .ok (.goto 5, 3) := by decide +kernel
theorem e_Mo_can_90 : decode b_Mo_can 90 = .ok (.iload 5, 2) := by decide +kernel
theorem e_Mo_can_92 : decode b_Mo_can 92 = .ok (.ireturn, 1) := by decide +kernel
theorem e_Mo_divisor_0 : decode b_Mo_divisor 0 = .ok (.iload_n 1, 1) := by decide +kernel
theorem e_Mo_divisor_1 : decode b_Mo_divisor 1 = .ok (.ifCond .ge 8, 3) := by decide +kernel
theorem e_Mo_divisor_4 : decode b_Mo_divisor 4 = .ok (.iload_n 1, 1) := by decide +kernel
theorem e_Mo_divisor_5 : decode b_Mo_divisor 5 = .ok (.ineg, 1) := by decide +kernel
theorem e_Mo_divisor_6 : decode b_Mo_divisor 6 = .ok (.goto 4, 3) := by decide +kernel
theorem e_Mo_divisor_9 : decode b_Mo_divisor 9 = .ok (.iload_n 1, 1) := by decide +kernel
theorem e_Mo_divisor_10 : decode b_Mo_divisor 10 = .ok (.istore_n 3, 1) := by decide +kernel
theorem e_Mo_divisor_11 : decode b_Mo_divisor 11 = .ok (.iload_n 2, 1) := by decide +kernel
theorem e_Mo_divisor_12 : decode b_Mo_divisor 12 = .ok (.istore 4, 2) := by decide +kernel
theorem e_Mo_divisor_14 : decode b_Mo_divisor 14 = .ok (.iload 4, 2) := by decide +kernel
theorem e_Mo_divisor_16 : decode b_Mo_divisor 16 = .ok (.ifCond .eq 19, 3) := by decide +kernel
theorem e_Mo_divisor_19 : decode b_Mo_divisor 19 = .ok (.iload_n 3, 1) := by decide +kernel
theorem e_Mo_divisor_20 : decode b_Mo_divisor 20 = .ok (.iload 4, 2) := by decide +kernel
theorem e_Mo_divisor_22 : decode b_Mo_divisor 22 = .ok (.irem, 1) := by decide +kernel
theorem e_Mo_divisor_23 : decode b_Mo_divisor 23 = .ok (.istore 5, 2) := by decide +kernel
theorem e_Mo_divisor_25 : decode b_Mo_divisor 25 = .ok (.iload 4, 2) := by decide +kernel
theorem e_Mo_divisor_27 : decode b_Mo_divisor 27 = .ok (.istore_n 3, 1) := by decide +kernel
theorem e_Mo_divisor_28 : decode b_Mo_divisor 28 = .ok (.iload 5, 2) := by decide +kernel
theorem e_Mo_divisor_30 : decode b_Mo_divisor 30 = .ok (.istore 4, 2) := by decide +kernel
theorem e_Mo_divisor_32 : decode b_Mo_divisor 32 = .ok (.goto (-18), 3) := by decide +kernel
theorem e_Mo_divisor_35 : decode b_Mo_divisor 35 = .ok (.iload_n 3, 1) := by decide +kernel
theorem e_Mo_divisor_36 : decode b_Mo_divisor 36 = .ok (.ireturn, 1) := by decide +kernel
theorem e_Mo_lowest_0 : decode b_Mo_lowest 0 = .ok (.aload_n 0, 1) := by decide +kernel
theorem e_Mo_lowest_1 : decode b_Mo_lowest 1 = .ok (.iload_n 1, 1) := by decide +kernel
theorem e_Mo_lowest_2 : decode b_Mo_lowest 2 = .ok (.iload_n 2, 1) := by decide +kernel
theorem e_Mo_lowest_3 : decode b_Mo_lowest 3 = .ok (.invokevirtual 393, 3) := by decide +kernel
theorem e_Mo_lowest_6 : decode b_Mo_lowest 6 = .ok (.istore 4, 2) := by decide +kernel
theorem e_Mo_lowest_8 : decode b_Mo_lowest 8 = .ok (.iload_n 3, 1) := by decide +kernel
theorem e_Mo_lowest_9 : decode b_Mo_lowest 9 = .ok (.ifCond .ne 11, 3) := by decide +kernel
theorem e_Mo_lowest_12 : decode b_Mo_lowest 12 = .ok (.iload_n 1, 1) := by decide +kernel
theorem e_Mo_lowest_13 : decode b_Mo_lowest 13 = .ok (.iload 4, 2) := by decide +kernel
theorem e_Mo_lowest_15 : decode b_Mo_lowest 15 = .ok (.idiv, 1) := by decide +kernel
theorem e_Mo_lowest_16 : decode b_Mo_lowest 16 = .ok (.i2l, 1) := by decide +kernel
theorem e_Mo_lowest_17 : decode b_Mo_lowest 17 = .ok (.goto 8, 3) := by decide +kernel
theorem e_Mo_lowest_20 : decode b_Mo_lowest 20 = .ok (.iload_n 2, 1) := by decide +kernel
theorem e_Mo_lowest_21 : decode b_Mo_lowest 21 = .ok (.iload 4, 2) := by decide +kernel
theorem e_Mo_lowest_23 : decode b_Mo_lowest 23 = .ok (.idiv, 1) := by decide +kernel
theorem e_Mo_lowest_24 : decode b_Mo_lowest 24 = .ok (.i2l, 1) := by decide +kernel
theorem e_Mo_lowest_25 : decode b_Mo_lowest 25 = .ok (.lreturn, 1) := by decide +kernel
theorem e_Mo_odds_0 : decode b_Mo_odds 0 = .ok (.aload_n 0, 1) := by decide +kernel
theorem e_Mo_odds_1 : decode b_Mo_odds 1 = .ok (.iload_n 1, 1) := by decide +kernel
theorem e_Mo_odds_2 : decode b_Mo_odds 2 = .ok (.iconst 0, 1) := by decide +kernel
theorem e_Mo_odds_3 : decode b_Mo_odds 3 = .ok (.bipush 20, 2) := by decide +kernel
theorem e_Mo_odds_5 : decode b_Mo_odds 5 = .ok (.invokevirtual 249, 3) := by decide +kernel
theorem e_Mo_odds_8 : decode b_Mo_odds 8 = .ok (.ifCond .eq 13, 3) := by decide +kernel
theorem e_Mo_odds_11 : decode b_Mo_odds 11 = .ok (.aload_n 0, 1) := by decide +kernel
theorem e_Mo_odds_12 : decode b_Mo_odds 12 = .ok (.iload_n 2, 1) := by decide +kernel
theorem e_Mo_odds_13 : decode b_Mo_odds 13 = .ok (.iconst 0, 1) := by decide +kernel
theorem e_Mo_odds_14 : decode b_Mo_odds 14 = .ok (.iconst 1, 1) := by decide +kernel
theorem e_Mo_odds_15 : decode b_Mo_odds 15 = .ok (.invokevirtual 249, 3) := by decide +kernel
theorem e_Mo_odds_18 : decode b_Mo_odds 18 = .ok (.ifCond .ne 7, 3) := by decide +kernel
theorem e_Mo_odds_21 : decode b_Mo_odds 21 = .ok (.ldc2_w 396, 3) := by decide +kernel
theorem e_Mo_odds_24 : decode b_Mo_odds 24 = .ok (.lreturn, 1) := by decide +kernel
theorem e_Mo_odds_25 : decode b_Mo_odds 25 = .ok (.iconst 0, 1) := by decide +kernel
theorem e_Mo_odds_26 : decode b_Mo_odds 26 = .ok (.istore_n 3, 1) := by decide +kernel
theorem e_Mo_odds_27 : decode b_Mo_odds 27 = .ok (.iconst 0, 1) := by decide +kernel
theorem e_Mo_odds_28 : decode b_Mo_odds 28 = .ok (.istore 4, 2) := by decide +kernel
theorem e_Mo_odds_30 : decode b_Mo_odds 30 = .ok (.iconst 0, 1) := by decide +kernel
theorem e_Mo_odds_31 : decode b_Mo_odds 31 = .ok (.istore 5, 2) := by decide +kernel
theorem e_Mo_odds_33 : decode b_Mo_odds 33 = .ok (.iload 5, 2) := by decide +kernel
theorem e_Mo_odds_35 : decode b_Mo_odds 35 = .ok (.aload_n 0, 1) := by decide +kernel
theorem e_Mo_odds_36 : decode b_Mo_odds 36 = .ok (.getfield 7, 3) := by decide +kernel
theorem e_Mo_odds_39 : decode b_Mo_odds 39 = .ok (.if_icmp .ge 45, 3) := by decide +kernel
theorem e_Mo_odds_42 : decode b_Mo_odds 42 = .ok (.aload_n 0, 1) := by decide +kernel
theorem e_Mo_odds_43 : decode b_Mo_odds 43 = .ok (.getfield 39, 3) := by decide +kernel
theorem e_Mo_odds_46 : decode b_Mo_odds 46 = .ok (.iload 5, 2) := by decide +kernel
theorem e_Mo_odds_48 : decode b_Mo_odds 48 = .ok (.iaload, 1) := by decide +kernel
theorem e_Mo_odds_49 : decode b_Mo_odds 49 = .ok (.ifCond .eq 6, 3) := by decide +kernel
theorem e_Mo_odds_52 : decode b_Mo_odds 52 = .ok (.goto 26, 3) := by decide +kernel
theorem e_Mo_odds_55 : decode b_Mo_odds 55 = .ok (.iinc 4 1, 3) := by decide +kernel
theorem e_Mo_odds_58 : decode b_Mo_odds 58 = .ok (.iload_n 3, 1) := by decide +kernel
theorem e_Mo_odds_59 : decode b_Mo_odds 59 = .ok (.aload_n 0, 1) := by decide +kernel
theorem e_Mo_odds_60 : decode b_Mo_odds 60 = .ok (.iconst 1, 1) := by decide +kernel
theorem e_Mo_odds_61 : decode b_Mo_odds 61 = .ok (.iload 5, 2) := by decide +kernel
theorem e_Mo_odds_63 : decode b_Mo_odds 63 = .ok (.ishl, 1) := by decide +kernel
theorem e_Mo_odds_64 : decode b_Mo_odds 64 = .ok (.iload_n 1, 1) := by decide +kernel
theorem e_Mo_odds_65 : decode b_Mo_odds 65 = .ok (.invokevirtual 381, 3) := by decide +kernel
theorem e_Mo_odds_68 : decode b_Mo_odds 68 = .ok (.ifCond .eq 7, 3) := by decide +kernel
theorem e_Mo_odds_71 : decode b_Mo_odds 71 = .ok (.iconst 1, 1) := by decide +kernel
theorem e_Mo_odds_72 : decode b_Mo_odds 72 = .ok (.goto 4, 3) := by decide +kernel
theorem e_Mo_odds_75 : decode b_Mo_odds 75 = .ok (.iconst 0, 1) := by decide +kernel
theorem e_Mo_odds_76 : decode b_Mo_odds 76 = .ok (.iadd, 1) := by decide +kernel
theorem e_Mo_odds_77 : decode b_Mo_odds 77 = .ok (.istore_n 3, 1) := by decide +kernel
theorem e_Mo_odds_78 : decode b_Mo_odds 78 = .ok (.iinc 5 1, 3) := by decide +kernel
theorem e_Mo_odds_81 : decode b_Mo_odds 81 = .ok (.goto (-48), 3) := by decide +kernel
theorem e_Mo_odds_84 : decode b_Mo_odds 84 = .ok (.iload 4, 2) := by decide +kernel
theorem e_Mo_odds_86 : decode b_Mo_odds 86 = .ok (.ifCond .ne 9, 3) := by decide +kernel
theorem e_Mo_odds_89 : decode b_Mo_odds 89 = .ok (.ldc2_w 396, 3) := by decide +kernel
theorem e_Mo_odds_92 : decode b_Mo_odds 92 = .ok (.goto 11, 3) := by decide +kernel
theorem e_Mo_odds_95 : decode b_Mo_odds 95 = .ok (.aload_n 0, 1) := by decide +kernel
theorem e_Mo_odds_96 : decode b_Mo_odds 96 = .ok (.iload_n 3, 1) := by decide +kernel
theorem e_Mo_odds_97 : decode b_Mo_odds 97 = .ok (.iload 4, 2) := by decide +kernel
theorem e_Mo_odds_99 : decode b_Mo_odds 99 = .ok (.iload_n 2, 1) := by decide +kernel
theorem e_Mo_odds_100 : decode b_Mo_odds 100 = .ok (.invokevirtual 398, 3) := by decide +kernel
theorem e_Mo_odds_103 : decode b_Mo_odds 103 = .ok (.lreturn, 1) := by decide +kernel
