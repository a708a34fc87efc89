theorem e_Ro_first_0 : decode b_Ro_first 0 = .ok (.iload_n 1, 1) := by decide +kernel
theorem e_Ro_first_1 : decode b_Ro_first 1 = .ok (.ifCond .lt 21, 3) := by decide +kernel
theorem e_Ro_first_4 : decode b_Ro_first 4 = .ok (.iload_n 1, 1) := by decide +kernel
theorem e_Ro_first_5 : decode b_Ro_first 5 = .ok (.aload_n 0, 1) := by decide +kernel
theorem e_Ro_first_6 : decode b_Ro_first 6 = .ok (.getfield 15, 3) := by decide +kernel
theorem e_Ro_first_9 : decode b_Ro_first 9 = .ok (.arraylength, 1) := by decide +kernel
theorem e_Ro_first_10 : decode b_Ro_first 10 = .ok (.if_icmp .ge 12, 3) := by decide +kernel
theorem e_Ro_first_13 : decode b_Ro_first 13 = .ok (.aload_n 0, 1) := by decide +kernel
theorem e_Ro_first_14 : decode b_Ro_first 14 = .ok (.getfield 15, 3) := by decide +kernel
theorem e_Ro_first_17 : decode b_Ro_first 17 = .ok (.iload_n 1, 1) := by decide +kernel
theorem e_Ro_first_18 : decode b_Ro_first 18 = .ok (.iaload, 1) := by decide +kernel
theorem e_Ro_first_19 : decode b_Ro_first 19 = .ok (.goto 4, 3) := by decide +kernel
theorem e_Ro_first_22 : decode b_Ro_first 22 = .ok (.iconst (-1), 1) := by decide +kernel
theorem e_Ro_first_23 : decode b_Ro_first 23 = .ok (.ireturn, 1) := by decide +kernel
theorem e_Ro_second_0 : decode b_Ro_second 0 = .ok (.iload_n 1, 1) := by decide +kernel
theorem e_Ro_second_1 : decode b_Ro_second 1 = .ok (.ifCond .lt 21, 3) := by decide +kernel
theorem e_Ro_second_4 : decode b_Ro_second 4 = .ok (.iload_n 1, 1) := by decide +kernel
theorem e_Ro_second_5 : decode b_Ro_second 5 = .ok (.aload_n 0, 1) := by decide +kernel
theorem e_Ro_second_6 : decode b_Ro_second 6 = .ok (.getfield 21, 3) := by decide +kernel
theorem e_Ro_second_9 : decode b_Ro_second 9 = .ok (.arraylength, 1) := by decide +kernel
theorem e_Ro_second_10 : decode b_Ro_second 10 = .ok (.if_icmp .ge 12, 3) := by decide +kernel
theorem e_Ro_second_13 : decode b_Ro_second 13 = .ok (.aload_n 0, 1) := by decide +kernel
theorem e_Ro_second_14 : decode b_Ro_second 14 = .ok (.getfield 21, 3) := by decide +kernel
theorem e_Ro_second_17 : decode b_Ro_second 17 = .ok (.iload_n 1, 1) := by decide +kernel
theorem e_Ro_second_18 : decode b_Ro_second 18 = .ok (.iaload, 1) := by decide +kernel
theorem e_Ro_second_19 : decode b_Ro_second 19 = .ok (.goto 4, 3) := by decide +kernel
theorem e_Ro_second_22 : decode b_Ro_second 22 = .ok (.iconst (-1), 1) := by decide +kernel
theorem e_Ro_second_23 : decode b_Ro_second 23 = .ok (.ireturn, 1) := by decide +kernel
theorem e_Ta_init_0 : decode b_Ta_init 0 = .ok (.aload_n 0, 1) := by decide +kernel
theorem e_Ta_init_1 : decode b_Ta_init 1 = .ok (.invokespecial 3, 3) := by decide +kernel
theorem e_Ta_init_4 : decode b_Ta_init 4 = .ok (.aload_n 0, 1) := by decide +kernel
theorem e_Ta_init_5 : decode b_Ta_init 5 = .ok (.iconst (-1), 1) := by decide +kernel
theorem e_Ta_init_6 : decode b_Ta_init 6 = .ok (.putfield 9, 3) := by decide +kernel
theorem e_Ta_init_9 : decode b_Ta_init 9 = .ok (.aload_n 0, 1) := by decide +kernel
theorem e_Ta_init_10 : decode b_Ta_init 10 = .ok (.bipush 60, 2) := by decide +kernel
theorem e_Ta_init_12 : decode b_Ta_init 12 = .ok (.newarray .long, 2) := by decide +kernel
theorem e_Ta_init_14 : decode b_Ta_init 14 = .ok (.putfield 15, 3) := by decide +kernel
theorem e_Ta_init_17 : decode b_Ta_init 17 = .ok (.return_, 1) := by decide +kernel
theorem e_Ta_become_0 : decode b_Ta_become 0 = .ok (.aload_n 0, 1) := by decide +kernel
theorem e_Ta_become_1 : decode b_Ta_become 1 = .ok (.iload_n 1, 1) := by decide +kernel
theorem e_Ta_become_2 : decode b_Ta_become 2 = .ok (.putfield 9, 3) := by decide +kernel
theorem e_Ta_become_5 : decode b_Ta_become 5 = .ok (.aload_n 0, 1) := by decide +kernel
theorem e_Ta_become_6 : decode b_Ta_become 6 = .ok (.iload_n 2, 1) := by decide +kernel
theorem e_Ta_become_7 : decode b_Ta_become 7 = .ok (.putfield 19, 3) := by decide +kernel
theorem e_Ta_become_10 : decode b_Ta_become 10 = .ok (.iconst 0, 1) := by decide +kernel
theorem e_Ta_become_11 : decode b_Ta_become 11 = .ok (.istore_n 3, 1) := by decide +kernel
theorem e_Ta_become_12 : decode b_Ta_become 12 = .ok (.iload_n 3, 1) := by decide +kernel
theorem e_Ta_become_13 : decode b_Ta_become 13 = .ok (.bipush 60, 2) := by decide +kernel
theorem e_Ta_become_15 : decode b_Ta_become 15 = .ok (.if_icmp .ge 16, 3) := by decide +kernel
theorem e_Ta_become_18 : decode b_Ta_become 18 = .ok (.aload_n 0, 1) := by decide +kernel
theorem e_Ta_become_19 : decode b_Ta_become 19 = .ok (.getfield 15, 3) := by decide +kernel
theorem e_Ta_become_22 : decode b_Ta_become 22 = .ok (.iload_n 3, 1) := by decide +kernel
theorem e_Ta_become_23 : decode b_Ta_become 23 = .ok (.lconst 0, 1) := by decide +kernel
theorem e_Ta_become_24 : decode b_Ta_become 24 = .ok (.lastore, 1) := by decide +kernel
theorem e_Ta_become_25 : decode b_Ta_become 25 = .ok (.iinc 3 1, 3) := by decide +kernel
theorem e_Ta_become_28 : decode b_Ta_become 28 = .ok (.goto (-16), 3) := by decide +kernel
theorem e_Ta_become_31 : decode b_Ta_become 31 = .ok (.return_, 1) := by decide +kernel
theorem e_Ta_has_0 : decode b_Ta_has 0 = .ok (.iload_n 1, 1) := by decide +kernel
theorem e_Ta_has_1 : decode b_Ta_has 1 = .ok (.ifCond .lt 21, 3) := by decide +kernel
theorem e_Ta_has_4 : decode b_Ta_has 4 = .ok (.iload_n 1, 1) := by decide +kernel
theorem e_Ta_has_5 : decode b_Ta_has 5 = .ok (.aload_n 0, 1) := by decide +kernel
theorem e_Ta_has_6 : decode b_Ta_has 6 = .ok (.getfield 19, 3) := by decide +kernel
theorem e_Ta_has_9 : decode b_Ta_has 9 = .ok (.if_icmp .ge 13, 3) := by decide +kernel
theorem e_Ta_has_12 : decode b_Ta_has 12 = .ok (.iload_n 1, 1) := by decide +kernel
theorem e_Ta_has_13 : decode b_Ta_has 13 = .ok (.bipush 60, 2) := by decide +kernel
theorem e_Ta_has_15 : decode b_Ta_has 15 = .ok (.if_icmp .ge 7, 3) := by decide +kernel
theorem e_Ta_has_18 : decode b_Ta_has 18 = .ok (.iconst 1, 1) := by decide +kernel
theorem e_Ta_has_19 : decode b_Ta_has 19 = .ok (.goto 4, 3) := by decide +kernel
theorem e_Ta_has_22 : decode b_Ta_has 22 = .ok (.iconst 0, 1) := by decide +kernel
theorem e_Ta_has_23 : decode b_Ta_has 23 = .ok (.ireturn, 1) := by decide +kernel
theorem e_Ta_hasRun_0 : decode b_Ta_hasRun 0 = .ok (.iload_n 2, 1) := by decide +kernel
theorem e_Ta_hasRun_1 : decode b_Ta_hasRun 1 = .ok (.ifCond .lt 30, 3) := by decide +kernel
theorem e_Ta_hasRun_4 : decode b_Ta_hasRun 4 = .ok (.iload_n 1, 1) := by decide +kernel
theorem e_Ta_hasRun_5 : decode b_Ta_hasRun 5 = .ok (.ifCond .lt 26, 3) := by decide +kernel
theorem e_Ta_hasRun_8 : decode b_Ta_hasRun 8 = .ok (.aload_n 0, 1) := by decide +kernel
theorem e_Ta_hasRun_9 : decode b_Ta_hasRun 9 = .ok (.getfield 19, 3) := by decide +kernel
theorem e_Ta_hasRun_12 : decode b_Ta_hasRun 12 = .ok (.bipush 60, 2) := by decide +kernel
theorem e_Ta_hasRun_14 : decode b_Ta_hasRun 14 = .ok (.if_icmp .gt 17, 3) := by decide +kernel
theorem e_Ta_hasRun_17 : decode b_Ta_hasRun 17 = .ok (.iload_n 1, 1) := by decide +kernel
theorem e_Ta_hasRun_18 : decode b_Ta_hasRun 18 = .ok (.aload_n 0, 1) := by decide +kernel
theorem e_Ta_hasRun_19 : decode b_Ta_hasRun 19 = .ok (.getfield 19, 3) := by decide +kernel
theorem e_Ta_hasRun_22 : decode b_Ta_hasRun 22 = .ok (.iload_n 2, 1) := by decide +kernel
theorem e_Ta_hasRun_23 : decode b_Ta_hasRun 23 = .ok (.isub, 1) := by decide +kernel
theorem e_Ta_hasRun_24 : decode b_Ta_hasRun 24 = .ok (.if_icmp .gt 7, 3) := by decide +kernel
theorem e_Ta_hasRun_27 : decode b_Ta_hasRun 27 = .ok (.iconst 1, 1) := by decide +kernel
theorem e_Ta_hasRun_28 : decode b_Ta_hasRun 28 = .ok (.goto 4, 3) := by decide +kernel
theorem e_Ta_hasRun_31 : decode b_Ta_hasRun 31 = .ok (.iconst 0, 1) := by decide +kernel
theorem e_Ta_hasRun_32 : decode b_Ta_hasRun 32 = .ok (.ireturn, 1) := by decide +kernel
theorem e_Ta_fitted_0 : decode b_Ta_fitted 0 = .ok (.aload_n 0, 1) := by decide +kernel
theorem e_Ta_fitted_1 : decode b_Ta_fitted 1 = .ok (.getfield 9, 3) := by decide +kernel
theorem e_Ta_fitted_4 : decode b_Ta_fitted 4 = .ok (.tableswitch 62 0 4 #[36, 41, 46, 62, 50], 36) := by decide +kernel
theorem e_Ta_fitted_40 : decode b_Ta_fitted 40 = .ok (.lload_n 1, 1) := by decide +kernel
theorem e_Ta_fitted_41 : decode b_Ta_fitted 41 = .ok (.l2i, 1) := by decide +kernel
theorem e_Ta_fitted_42 : decode b_Ta_fitted 42 = .ok (.i2b, 1) := by decide +kernel
theorem e_Ta_fitted_43 : decode b_Ta_fitted 43 = .ok (.i2l, 1) := by decide +kernel
theorem e_Ta_fitted_44 : decode b_Ta_fitted 44 = .ok (.lreturn, 1) := by decide +kernel
theorem e_Ta_fitted_45 : decode b_Ta_fitted 45 = .ok (.lload_n 1, 1) := by decide +kernel
theorem e_Ta_fitted_46 : decode b_Ta_fitted 46 = .ok (.l2i, 1) := by decide +kernel
theorem e_Ta_fitted_47 : decode b_Ta_fitted 47 = .ok (.i2s, 1) := by decide +kernel
theorem e_Ta_fitted_48 : decode b_Ta_fitted 48 = .ok (.i2l, 1) := by decide +kernel
theorem e_Ta_fitted_49 : decode b_Ta_fitted 49 = .ok (.lreturn, 1) := by decide +kernel
theorem e_Ta_fitted_50 : decode b_Ta_fitted 50 = .ok (.lload_n 1, 1) := by decide +kernel
theorem e_Ta_fitted_51 : decode b_Ta_fitted 51 = .ok (.l2i, 1) := by decide +kernel
theorem e_Ta_fitted_52 : decode b_Ta_fitted 52 = .ok (.i2l, 1) := by decide +kernel
theorem e_Ta_fitted_53 : decode b_Ta_fitted 53 = .ok (.lreturn, 1) := by decide +kernel
theorem e_Ta_fitted_54 : decode b_Ta_fitted 54 = .ok (.lload_n 1, 1) := by decide +kernel
theorem e_Ta_fitted_55 : decode b_Ta_fitted 55 = .ok (.lconst 0, 1) := by decide +kernel
theorem e_Ta_fitted_56 : decode b_Ta_fitted 56 = .ok (.lcmp, 1) := by decide +kernel
theorem e_Ta_fitted_57 : decode b_Ta_fitted 57 = .ok (.ifCond .eq 7, 3) := by decide +kernel
theorem e_Ta_fitted_60 : decode b_Ta_fitted 60 = .ok (.lconst 1, 1) := by decide +kernel
theorem e_Ta_fitted_61 : decode b_Ta_fitted 61 = .ok (.goto 4, 3) := by decide +kernel
theorem e_Ta_fitted_64 : decode b_Ta_fitted 64 = .ok (.lconst 0, 1) := by decide +kernel
theorem e_Ta_fitted_65 : decode b_Ta_fitted 65 = .ok (.lreturn, 1) := by decide +kernel
theorem e_Ta_fitted_66 : decode b_Ta_fitted 66 = .ok (.lload_n 1, 1) := by decide +kernel
theorem e_Ta_fitted_67 : decode b_Ta_fitted 67 = .ok (.lreturn, 1) := by decide +kernel
theorem e_Th_init_0 : decode b_Th_init 0 = .ok (.aload_n 0, 1) := by decide +kernel
theorem e_Th_init_1 : decode b_Th_init 1 = .ok (.invokespecial 3, 3) := by decide +kernel
theorem e_Th_init_4 : decode b_Th_init 4 = .ok (.aload_n 0, 1) := by decide +kernel
theorem e_Th_init_5 : decode b_Th_init 5 = .ok (.iconst 4, 1) := by decide +kernel
theorem e_Th_init_6 : decode b_Th_init 6 = .ok (.newarray .int, 2) := by decide +kernel
theorem e_Th_init_8 : decode b_Th_init 8 = .ok (.putfield 9, 3) := by decide +kernel
theorem e_Th_init_11 : decode b_Th_init 11 = .ok (.aload_n 0, 1) := by decide +kernel
theorem e_Th_init_12 : decode b_Th_init 12 = .ok (.iload_n 1, 1) := by decide +kernel
theorem e_Th_init_13 : decode b_Th_init 13 = .ok (.putfield 15, 3) := by decide +kernel
theorem e_Th_init_16 : decode b_Th_init 16 = .ok (.return_, 1) := by decide +kernel
theorem e_Th_copyFrom_0 : decode b_Th_copyFrom 0 = .ok (.aload_n 0, 1) := by decide +kernel
theorem e_Th_copyFrom_1 : decode b_Th_copyFrom 1 = .ok (.aload_n 1, 1) := by decide +kernel
theorem e_Th_copyFrom_2 : decode b_Th_copyFrom 2 = .ok (.getfield 19, 3) := by decide +kernel
theorem e_Th_copyFrom_5 : decode b_Th_copyFrom 5 = .ok (.putfield 19, 3) := by decide +kernel
theorem e_Th_copyFrom_8 : decode b_Th_copyFrom 8 = .ok (.aload_n 0, 1) := by decide +kernel
theorem e_Th_copyFrom_9 : decode b_Th_copyFrom 9 = .ok (.aload_n 1, 1) := by decide +kernel
theorem e_Th_copyFrom_10 : decode b_Th_copyFrom 10 = .ok (.getfield 22, 3) := by decide +kernel
theorem e_Th_copyFrom_13 : decode b_Th_copyFrom 13 = .ok (.putfield 22, 3) := by decide +kernel
theorem e_Th_copyFrom_16 : decode b_Th_copyFrom 16 = .ok (.aload_n 0, 1) := by decide +kernel
theorem e_Th_copyFrom_17 : decode b_Th_copyFrom 17 = .ok (.aload_n 1, 1) := by decide +kernel
theorem e_Th_copyFrom_18 : decode b_Th_copyFrom 18 = .ok (.getfield 25, 3) := by decide +kernel
theorem e_Th_copyFrom_21 : decode b_Th_copyFrom 21 = .ok (.putfield 25, 3) := by decide +kernel
theorem e_Th_copyFrom_24 : decode b_Th_copyFrom 24 = .ok (.aload_n 0, 1) := by decide +kernel
theorem e_Th_copyFrom_25 : decode b_Th_copyFrom 25 = .ok (.aload_n 1, 1) := by decide +kernel
theorem e_Th_copyFrom_26 : decode b_Th_copyFrom 26 = .ok (.getfield 28, 3) := by decide +kernel
theorem e_Th_copyFrom_29 : decode b_Th_copyFrom 29 = .ok (.putfield 28, 3) := by decide +kernel
theorem e_Th_copyFrom_32 : decode b_Th_copyFrom 32 = .ok (.aload_n 0, 1) := by decide +kernel
theorem e_Th_copyFrom_33 : decode b_Th_copyFrom 33 = .ok (.aload_n 1, 1) := by decide +kernel
theorem e_Th_copyFrom_34 : decode b_Th_copyFrom 34 = .ok (.getfield 31, 3) := by decide +kernel
theorem e_Th_copyFrom_37 : decode b_Th_copyFrom 37 = .ok (.putfield 31, 3) := by decide +kernel
theorem e_Th_copyFrom_40 : decode b_Th_copyFrom 40 = .ok (.aload_n 0, 1) := by decide +kernel
theorem e_Th_copyFrom_41 : decode b_Th_copyFrom 41 = .ok (.aload_n 1, 1) := by decide +kernel
theorem e_Th_copyFrom_42 : decode b_Th_copyFrom 42 = .ok (.getfield 34, 3) := by decide +kernel
theorem e_Th_copyFrom_45 : decode b_Th_copyFrom 45 = .ok (.putfield 34, 3) := by decide +kernel
theorem e_Th_copyFrom_48 : decode b_Th_copyFrom 48 = .ok (.aload_n 1, 1) := by decide +kernel
theorem e_Th_copyFrom_49 : decode b_Th_copyFrom 49 = .ok (.getfield 9, 3) := by decide +kernel
theorem e_Th_copyFrom_52 : decode b_Th_copyFrom 52 = .ok (.iconst 0, 1) := by decide +kernel
theorem e_Th_copyFrom_53 : decode b_Th_copyFrom 53 = .ok (.aload_n 0, 1) := by decide +kernel
theorem e_Th_copyFrom_54 : decode b_Th_copyFrom 54 = .ok (.getfield 9, 3) := by decide +kernel
theorem e_Th_copyFrom_57 : decode b_Th_copyFrom 57 = .ok (.iconst 0, 1) := by decide +kernel
theorem e_Th_copyFrom_58 : decode b_Th_copyFrom 58 = .ok (.iconst 4, 1) := by decide +kernel
theorem e_Th_copyFrom_59 : decode b_Th_copyFrom 59 = .ok (.invokestatic 37, 3) := by decide +kernel
theorem e_Th_copyFrom_62 : decode b_Th_copyFrom 62 = .ok (.return_, 1) := by decide +kernel
theorem e_Th_begin_0 : decode b_Th_begin 0 = .ok (.aload_n 0, 1) := by decide +kernel
theorem e_Th_begin_1 : decode b_Th_begin 1 = .ok (.iload_n 1, 1) := by decide +kernel
theorem e_Th_begin_2 : decode b_Th_begin 2 = .ok (.putfield 19, 3) := by decide +kernel
theorem e_Th_begin_5 : decode b_Th_begin 5 = .ok (.aload_n 0, 1) := by decide +kernel
theorem e_Th_begin_6 : decode b_Th_begin 6 = .ok (.iload_n 2, 1) := by decide +kernel
theorem e_Th_begin_7 : decode b_Th_begin 7 = .ok (.putfield 22, 3) := by decide +kernel
theorem e_Th_begin_10 : decode b_Th_begin 10 = .ok (.aload_n 0, 1) := by decide +kernel
theorem e_Th_begin_11 : decode b_Th_begin 11 = .ok (.iload_n 3, 1) := by decide +kernel
theorem e_Th_begin_12 : decode b_Th_begin 12 = .ok (.putfield 25, 3) := by decide +kernel
theorem e_Th_begin_15 : decode b_Th_begin 15 = .ok (.aload_n 0, 1) := by decide +kernel
theorem e_Th_begin_16 : decode b_Th_begin 16 = .ok (.iload 4, 2) := by decide +kernel
theorem e_Th_begin_18 : decode b_Th_begin 18 = .ok (.putfield 28, 3) := by decide +kernel
theorem e_Th_begin_21 : decode b_Th_begin 21 = .ok (.aload_n 0, 1) := by decide +kernel
theorem e_Th_begin_22 : decode b_Th_begin 22 = .ok (.iconst 0, 1) := by decide +kernel
theorem e_Th_begin_23 : decode b_Th_begin 23 = .ok (.putfield 31, 3) := by decide +kernel
theorem e_Th_begin_26 : decode b_Th_begin 26 = .ok (.aload_n 0, 1) := by decide +kernel
theorem e_Th_begin_27 : decode b_Th_begin 27 = .ok (.iconst 0, 1) := by decide +kernel
theorem e_Th_begin_28 : decode b_Th_begin 28 = .ok (.putfield 34, 3) := by decide +kernel
theorem e_Th_begin_31 : decode b_Th_begin 31 = .ok (.iconst 0, 1) := by decide +kernel
theorem e_Th_begin_32 : decode b_Th_begin 32 = .ok (.istore 5, 2) := by decide +kernel
theorem e_Th_begin_34 : decode b_Th_begin 34 = .ok (.iload 5, 2) := by decide +kernel
theorem e_Th_begin_36 : decode b_Th_begin 36 = .ok (.iconst 4, 1) := by decide +kernel
theorem e_Th_begin_37 : decode b_Th_begin 37 = .ok (.if_icmp .ge 17, 3) := by decide +kernel
theorem e_Th_begin_40 : decode b_Th_begin 40 = .ok (.aload_n 0, 1) := by decide +kernel
theorem e_Th_begin_41 : decode b_Th_begin 41 = .ok (.getfield 9, 3) := by decide +kernel
theorem e_Th_begin_44 : decode b_Th_begin 44 = .ok (.iload 5, 2) := by decide +kernel
theorem e_Th_begin_46 : decode b_Th_begin 46 = .ok (.iconst 0, 1) := by decide +kernel
theorem e_Th_begin_47 : decode b_Th_begin 47 = .ok (.iastore, 1) := by decide +kernel
theorem e_Th_begin_48 : decode b_Th_begin 48 = .ok (.iinc 5 1, 3) := by decide +kernel
theorem e_Th_begin_51 : decode b_Th_begin 51 = .ok (.goto (-17), 3) := by decide +kernel
theorem e_Th_begin_54 : decode b_Th_begin 54 = .ok (.return_, 1) := by decide +kernel
theorem e_Th_putIn_0 : decode b_Th_putIn 0 = .ok (.aload_n 0, 1) := by decide +kernel
theorem e_Th_putIn_1 : decode b_Th_putIn 1 = .ok (.iconst 1, 1) := by decide +kernel
theorem e_Th_putIn_2 : decode b_Th_putIn 2 = .ok (.putfield 31, 3) := by decide +kernel
theorem e_Th_putIn_5 : decode b_Th_putIn 5 = .ok (.aload_n 0, 1) := by decide +kernel
theorem e_Th_putIn_6 : decode b_Th_putIn 6 = .ok (.iconst 0, 1) := by decide +kernel
theorem e_Th_putIn_7 : decode b_Th_putIn 7 = .ok (.putfield 34, 3) := by decide +kernel
theorem e_Th_putIn_10 : decode b_Th_putIn 10 = .ok (.return_, 1) := by decide +kernel
theorem e_Th_isUnder_0 : decode b_Th_isUnder 0 = .ok (.aload_n 0, 1) := by decide +kernel
theorem e_Th_isUnder_1 : decode b_Th_isUnder 1 = .ok (.getfield 19, 3) := by decide +kernel
theorem e_Th_isUnder_4 : decode b_Th_isUnder 4 = .ok (.istore_n 2, 1) := by decide +kernel
theorem e_Th_isUnder_5 : decode b_Th_isUnder 5 = .ok (.iconst 0, 1) := by decide +kernel
theorem e_Th_isUnder_6 : decode b_Th_isUnder 6 = .ok (.istore_n 3, 1) := by decide +kernel
theorem e_Th_isUnder_7 : decode b_Th_isUnder 7 = .ok (.iload_n 3, 1) := by decide +kernel
theorem e_Th_isUnder_8 : decode b_Th_isUnder 8 = .ok (.getstatic 43, 3) := by decide +kernel
theorem e_Th_isUnder_11 : decode b_Th_isUnder 11 = .ok (.arraylength, 1) := by decide +kernel
theorem e_Th_isUnder_12 : decode b_Th_isUnder 12 = .ok (.if_icmp .ge 34, 3) := by decide +kernel
theorem e_Th_isUnder_15 : decode b_Th_isUnder 15 = .ok (.iload_n 2, 1) := by decide +kernel
theorem e_Th_isUnder_16 : decode b_Th_isUnder 16 = .ok (.ifCond .lt 30, 3) := by decide +kernel
theorem e_Th_isUnder_19 : decode b_Th_isUnder 19 = .ok (.iload_n 2, 1) := by decide +kernel
theorem e_Th_isUnder_20 : decode b_Th_isUnder 20 = .ok (.getstatic 43, 3) := by decide +kernel
theorem e_Th_isUnder_23 : decode b_Th_isUnder 23 = .ok (.arraylength, 1) := by decide +kernel
theorem e_Th_isUnder_24 : decode b_Th_isUnder 24 = .ok (.if_icmp .ge 22, 3) := by decide +kernel
theorem e_Th_isUnder_27 : decode b_Th_isUnder 27 = .ok (.iload_n 2, 1) := by decide +kernel
theorem e_Th_isUnder_28 : decode b_Th_isUnder 28 = .ok (.iload_n 1, 1) := by decide +kernel
theorem e_Th_isUnder_29 : decode b_Th_isUnder 29 = .ok (.if_icmp .ne 5, 3) := by decide +kernel
theorem e_Th_isUnder_32 : decode b_Th_isUnder 32 = .ok (.iconst 1, 1) := by decide +kernel
theorem e_Th_isUnder_33 : decode b_Th_isUnder 33 = .ok (.ireturn, 1) := by decide +kernel
theorem e_Th_isUnder_34 : decode b_Th_isUnder 34 = .ok (.getstatic 43, 3) := by decide +kernel
theorem e_Th_isUnder_37 : decode b_Th_isUnder 37 = .ok (.iload_n 2, 1) := by decide +kernel
theorem e_Th_isUnder_38 : decode b_Th_isUnder 38 = .ok (.iaload, 1) := by decide +kernel
theorem e_Th_isUnder_39 : decode b_Th_isUnder 39 = .ok (.istore_n 2, 1) := by decide +kernel
theorem e_Th_isUnder_40 : decode b_Th_isUnder 40 = .ok (.iinc 3 1, 3) := by decide +kernel
theorem e_Th_isUnder_43 : decode b_Th_isUnder 43 = .ok (.goto (-36), 3) := by decide +kernel
theorem e_Th_isUnder_46 : decode b_Th_isUnder 46 = .ok (.iconst 0, 1) := by decide +kernel
theorem e_Th_isUnder_47 : decode b_Th_isUnder 47 = .ok (.ireturn, 1) := by decide +kernel
theorem e_Wh_init_0 : decode b_Wh_init 0 = .ok (.aload_n 0, 1) := by decide +kernel
theorem e_Wh_init_1 : decode b_Wh_init 1 = .ok (.invokespecial 3, 3) := by decide +kernel
theorem e_Wh_init_4 : decode b_Wh_init 4 = .ok (.aload_n 0, 1) := by decide +kernel
theorem e_Wh_init_5 : decode b_Wh_init 5 = .ok (.new 9, 3) := by decide +kernel
theorem e_Wh_init_8 : decode b_Wh_init 8 = .ok (.dup, 1) := by decide +kernel
theorem e_Wh_init_9 : decode b_Wh_init 9 = .ok (.iconst 5, 1) := by decide +kernel
theorem e_Wh_init_10 : decode b_Wh_init 10 = .ok (.invokespecial 11, 3) := by decide +kernel
theorem e_Wh_init_13 : decode b_Wh_init 13 = .ok (.putfield 14, 3) := by decide +kernel
theorem e_Wh_init_16 : decode b_Wh_init 16 = .ok (.aload_n 0, 1) := by decide +kernel
theorem e_Wh_init_17 : decode b_Wh_init 17 = .ok (.new 9, 3) := by decide +kernel
theorem e_Wh_init_20 : decode b_Wh_init 20 = .ok (.dup, 1) := by decide +kernel
theorem e_Wh_init_21 : decode b_Wh_init 21 = .ok (.bipush 10, 2) := by decide +kernel
theorem e_Wh_init_23 : decode b_Wh_init 23 = .ok (.invokespecial 11, 3) := by decide +kernel
theorem e_Wh_init_26 : decode b_Wh_init 26 = .ok (.putfield 20, 3) := by decide +kernel
theorem e_Wh_init_29 : decode b_Wh_init 29 = .ok (.aload_n 0, 1) := by decide +kernel
theorem e_Wh_init_30 : decode b_Wh_init 30 = .ok (.new 9, 3) := by decide +kernel
theorem e_Wh_init_33 : decode b_Wh_init 33 = .ok (.dup, 1) := by decide +kernel
theorem e_Wh_init_34 : decode b_Wh_init 34 = .ok (.bipush 8, 2) := by decide +kernel
theorem e_Wh_init_36 : decode b_Wh_init 36 = .ok (.invokespecial 11, 3) := by decide +kernel
theorem e_Wh_init_39 : decode b_Wh_init 39 = .ok (.putfield 23, 3) := by decide +kernel
theorem e_Wh_init_42 : decode b_Wh_init 42 = .ok (.aload_n 0, 1) := by decide +kernel
theorem e_Wh_init_43 : decode b_Wh_init 43 = .ok (.new 26, 3) := by decide +kernel
theorem e_Wh_init_46 : decode b_Wh_init 46 = .ok (.dup, 1) := by decide +kernel
theorem e_Wh_init_47 : decode b_Wh_init 47 = .ok (.aload_n 1, 1) := by decide +kernel
theorem e_Wh_init_48 : decode b_Wh_init 48 = .ok (.invokespecial 28, 3) := by decide +kernel
theorem e_Wh_init_51 : decode b_Wh_init 51 = .ok (.putfield 31, 3) := by decide +kernel
theorem e_Wh_init_54 : decode b_Wh_init 54 = .ok (.return_, 1) := by decide +kernel
theorem e_Wh_copyFrom_0 : decode b_Wh_copyFrom 0 = .ok (.aload_n 0, 1) := by decide +kernel
theorem e_Wh_copyFrom_1 : decode b_Wh_copyFrom 1 = .ok (.getfield 31, 3) := by decide +kernel
theorem e_Wh_copyFrom_4 : decode b_Wh_copyFrom 4 = .ok (.aload_n 1, 1) := by decide +kernel
theorem e_Wh_copyFrom_5 : decode b_Wh_copyFrom 5 = .ok (.getfield 31, 3) := by decide +kernel
theorem e_Wh_copyFrom_8 : decode b_Wh_copyFrom 8 = .ok (.invokevirtual 35, 3) := by decide +kernel
theorem e_Wh_copyFrom_11 : decode b_Wh_copyFrom 11 = .ok (.aload_n 0, 1) := by decide +kernel
theorem e_Wh_copyFrom_12 : decode b_Wh_copyFrom 12 = .ok (.getfield 14, 3) := by decide +kernel
theorem e_Wh_copyFrom_15 : decode b_Wh_copyFrom 15 = .ok (.aload_n 1, 1) := by decide +kernel
theorem e_Wh_copyFrom_16 : decode b_Wh_copyFrom 16 = .ok (.getfield 14, 3) := by decide +kernel
theorem e_Wh_copyFrom_19 : decode b_Wh_copyFrom 19 = .ok (.invokevirtual 39, 3) := by decide +kernel
theorem e_Wh_copyFrom_22 : decode b_Wh_copyFrom 22 = .ok (.aload_n 0, 1) := by decide +kernel
theorem e_Wh_copyFrom_23 : decode b_Wh_copyFrom 23 = .ok (.getfield 20, 3) := by decide +kernel
theorem e_Wh_copyFrom_26 : decode b_Wh_copyFrom 26 = .ok (.aload_n 1, 1) := by decide +kernel
theorem e_Wh_copyFrom_27 : decode b_Wh_copyFrom 27 = .ok (.getfield 20, 3) := by decide +kernel
theorem e_Wh_copyFrom_30 : decode b_Wh_copyFrom 30 = .ok (.invokevirtual 39, 3) := by decide +kernel
theorem e_Wh_copyFrom_33 : decode b_Wh_copyFrom 33 = .ok (.aload_n 0, 1) := by decide +kernel
theorem e_Wh_copyFrom_34 : decode b_Wh_copyFrom 34 = .ok (.getfield 23, 3) := by decide +kernel
theorem e_Wh_copyFrom_37 : decode b_Wh_copyFrom 37 = .ok (.aload_n 1, 1) := by decide +kernel
theorem e_Wh_copyFrom_38 : decode b_Wh_copyFrom 38 = .ok (.getfield 23, 3) := by decide +kernel
theorem e_Wh_copyFrom_41 : decode b_Wh_copyFrom 41 = .ok (.invokevirtual 39, 3) := by decide +kernel
theorem e_Wh_copyFrom_44 : decode b_Wh_copyFrom 44 = .ok (.return_, 1) := by decide +kernel
theorem e_Qu_init_0 : decode b_Qu_init 0 = .ok (.aload_n 0, 1) := by decide +kernel
theorem e_Qu_init_1 : decode b_Qu_init 1 = .ok (.invokespecial 3, 3) := by decide +kernel
theorem e_Qu_init_4 : decode b_Qu_init 4 = .ok (.new 9, 3) := by decide +kernel
theorem e_Qu_init_7 : decode b_Qu_init 7 = .ok (.dup, 1) := by decide +kernel
theorem e_Qu_init_8 : decode b_Qu_init 8 = .ok (.invokespecial 11, 3) := by decide +kernel
theorem e_Qu_init_11 : decode b_Qu_init 11 = .ok (.astore_n 1, 1) := by decide +kernel
theorem e_Qu_init_12 : decode b_Qu_init 12 = .ok (.aload_n 0, 1) := by decide +kernel
theorem e_Qu_init_13 : decode b_Qu_init 13 = .ok (.new 12, 3) := by decide +kernel
theorem e_Qu_init_16 : decode b_Qu_init 16 = .ok (.dup, 1) := by decide +kernel
theorem e_Qu_init_17 : decode b_Qu_init 17 = .ok (.aload_n 1, 1) := by decide +kernel
theorem e_Qu_init_18 : decode b_Qu_init 18 = .ok (.invokespecial 14, 3) := by decide +kernel
theorem e_Qu_init_21 : decode b_Qu_init 21 = .ok (.putfield 17, 3) := by decide +kernel
theorem e_Qu_init_24 : decode b_Qu_init 24 = .ok (.aload_n 0, 1) := by decide +kernel
theorem e_Qu_init_25 : decode b_Qu_init 25 = .ok (.new 12, 3) := by decide +kernel
theorem e_Qu_init_28 : decode b_Qu_init 28 = .ok (.dup, 1) := by decide +kernel
theorem e_Qu_init_29 : decode b_Qu_init 29 = .ok (.aload_n 1, 1) := by decide +kernel
theorem e_Qu_init_30 : decode b_Qu_init 30 = .ok (.invokespecial 14, 3) := by decide +kernel
theorem e_Qu_init_33 : decode b_Qu_init 33 = .ok (.putfield 23, 3) := by decide +kernel
theorem e_Qu_init_36 : decode b_Qu_init 36 = .ok (.aload_n 0, 1) := by decide +kernel
theorem e_Qu_init_37 : decode b_Qu_init 37 = .ok (.new 26, 3) := by decide +kernel
theorem e_Qu_init_40 : decode b_Qu_init 40 = .ok (.dup, 1) := by decide +kernel
theorem e_Qu_init_41 : decode b_Qu_init 41 = .ok (.aload_n 0, 1) := by decide +kernel
theorem e_Qu_init_42 : decode b_Qu_init 42 = .ok (.getfield 17, 3) := by decide +kernel
theorem e_Qu_init_45 : decode b_Qu_init 45 = .ok (.aload_n 1, 1) := by decide +kernel
theorem e_Qu_init_46 : decode b_Qu_init 46 = .ok (.invokespecial 28, 3) := by decide +kernel
theorem e_Qu_init_49 : decode b_Qu_init 49 = .ok (.putfield 31, 3) := by decide +kernel
theorem e_Qu_init_52 : decode b_Qu_init 52 = .ok (.aload_n 0, 1) := by decide +kernel
theorem e_Qu_init_53 : decode b_Qu_init 53 = .ok (.new 35, 3) := by decide +kernel
theorem e_Qu_init_56 : decode b_Qu_init 56 = .ok (.dup, 1) := by decide +kernel
theorem e_Qu_init_57 : decode b_Qu_init 57 = .ok (.aload_n 1, 1) := by decide +kernel
theorem e_Qu_init_58 : decode b_Qu_init 58 = .ok (.invokespecial 37, 3) := by decide +kernel
theorem e_Qu_init_61 : decode b_Qu_init 61 = .ok (.putfield 38, 3) := by decide +kernel
theorem e_Qu_init_64 : decode b_Qu_init 64 = .ok (.aload_n 0, 1) := by decide +kernel
theorem e_Qu_init_65 : decode b_Qu_init 65 = .ok (.bipush 6, 2) := by decide +kernel
theorem e_Qu_init_67 : decode b_Qu_init 67 = .ok (.anewarray 9, 3) := by decide +kernel
theorem e_Qu_init_70 : decode b_Qu_init 70 = .ok (.putfield 42, 3) := by decide +kernel
theorem e_Qu_init_73 : decode b_Qu_init 73 = .ok (.iconst 0, 1) := by decide +kernel
theorem e_Qu_init_74 : decode b_Qu_init 74 = .ok (.istore_n 2, 1) := by decide +kernel
theorem e_Qu_init_75 : decode b_Qu_init 75 = .ok (.iload_n 2, 1) := by decide +kernel
theorem e_Qu_init_76 : decode b_Qu_init 76 = .ok (.bipush 6, 2) := by decide +kernel
theorem e_Qu_init_78 : decode b_Qu_init 78 = .ok (.if_icmp .ge 22, 3) := by decide +kernel
theorem e_Qu_init_81 : decode b_Qu_init 81 = .ok (.aload_n 0, 1) := by decide +kernel
theorem e_Qu_init_82 : decode b_Qu_init 82 = .ok (.getfield 42, 3) := by decide +kernel
theorem e_Qu_init_85 : decode b_Qu_init 85 = .ok (.iload_n 2, 1) := by decide +kernel
theorem e_Qu_init_86 : decode b_Qu_init 86 = .ok (.new 9, 3) := by decide +kernel
theorem e_Qu_init_89 : decode b_Qu_init 89 = .ok (.dup, 1) := by decide +kernel
theorem e_Qu_init_90 : decode b_Qu_init 90 = .ok (.invokespecial 11, 3) := by decide +kernel
theorem e_Qu_init_93 : decode b_Qu_init 93 = .ok (.aastore, 1) := by decide +kernel
theorem e_Qu_init_94 : decode b_Qu_init 94 = .ok (.iinc 2 1, 3) := by decide +kernel
theorem e_Qu_init_97 : decode b_Qu_init 97 = .ok (.goto (-22), 3) := by decide +kernel
theorem e_Qu_init_100 : decode b_Qu_init 100 = .ok (.aload_n 0, 1) := by decide +kernel
theorem e_Qu_init_101 : decode b_Qu_init 101 = .ok (.new 46, 3) := by decide +kernel
theorem e_Qu_init_104 : decode b_Qu_init 104 = .ok (.dup, 1) := by decide +kernel
theorem e_Qu_init_105 : decode b_Qu_init 105 = .ok (.invokespecial 48, 3) := by decide +kernel
theorem e_Qu_init_108 : decode b_Qu_init 108 = .ok (.putfield 49, 3) := by decide +kernel
theorem e_Qu_init_111 : decode b_Qu_init 111 = .ok (.aload_n 0, 1) := by decide +kernel
theorem e_Qu_init_112 : decode b_Qu_init 112 = .ok (.bipush 6, 2) := by decide +kernel
theorem e_Qu_init_114 : decode b_Qu_init 114 = .ok (.anewarray 53, 3) := by decide +kernel
theorem e_Qu_init_117 : decode b_Qu_init 117 = .ok (.putfield 55, 3) := by decide +kernel
theorem e_Qu_init_120 : decode b_Qu_init 120 = .ok (.iconst 0, 1) := by decide +kernel
theorem e_Qu_init_121 : decode b_Qu_init 121 = .ok (.istore_n 2, 1) := by decide +kernel
theorem e_Qu_init_122 : decode b_Qu_init 122 = .ok (.iload_n 2, 1) := by decide +kernel
theorem e_Qu_init_123 : decode b_Qu_init 123 = .ok (.bipush 6, 2) := by decide +kernel
theorem e_Qu_init_125 : decode b_Qu_init 125 = .ok (.if_icmp .ge 22, 3) := by decide +kernel
theorem e_Qu_init_128 : decode b_Qu_init 128 = .ok (.aload_n 0, 1) := by decide +kernel
theorem e_Qu_init_129 : decode b_Qu_init 129 = .ok (.getfield 55, 3) := by decide +kernel
theorem e_Qu_init_132 : decode b_Qu_init 132 = .ok (.iload_n 2, 1) := by decide +kernel
theorem e_Qu_init_133 : decode b_Qu_init 133 = .ok (.new 53, 3) := by decide +kernel
theorem e_Qu_init_136 : decode b_Qu_init 136 = .ok (.dup, 1) := by decide +kernel
theorem e_Qu_init_137 : decode b_Qu_init 137 = .ok (.invokespecial 59, 3) := by decide +kernel
theorem e_Qu_init_140 : decode b_Qu_init 140 = .ok (.aastore, 1) := by decide +kernel
theorem e_Qu_init_141 : decode b_Qu_init 141 = .ok (.iinc 2 1, 3) := by decide +kernel
theorem e_Qu_init_144 : decode b_Qu_init 144 = .ok (.goto (-22), 3) := by decide +kernel
theorem e_Qu_init_147 : decode b_Qu_init 147 = .ok (.return_, 1) := by decide +kernel
theorem e_Qu_thing_0 : decode b_Qu_thing 0 = .ok (.iload_n 1, 1) := by decide +kernel
theorem e_Qu_thing_1 : decode b_Qu_thing 1 = .ok (.iconst 0, 1) := by decide +kernel
theorem e_Qu_thing_2 : decode b_Qu_thing 2 = .ok (.bipush 6, 2) := by decide +kernel
theorem e_Qu_thing_4 : decode b_Qu_thing 4 = .ok (.invokestatic 60, 3) := by decide +kernel
theorem e_Qu_thing_7 : decode b_Qu_thing 7 = .ok (.ifCond .ne 5, 3) := by decide +kernel
theorem e_Qu_thing_10 : decode b_Qu_thing 10 = .ok (.iconst (-1), 1) := by decide +kernel
theorem e_Qu_thing_11 : decode b_Qu_thing 11 = .ok (.ireturn, 1) := by decide +kernel
theorem e_Qu_thing_12 : decode b_Qu_thing 12 = .ok (.iload_n 2, 1) := by decide +kernel
theorem e_Qu_thing_13 : decode b_Qu_thing 13 = .ok (.iconst 0, 1) := by decide +kernel
theorem e_Qu_thing_14 : decode b_Qu_thing 14 = .ok (.bipush 9, 2) := by decide +kernel
theorem e_Qu_thing_16 : decode b_Qu_thing 16 = .ok (.invokestatic 60, 3) := by decide +kernel
theorem e_Qu_thing_19 : decode b_Qu_thing 19 = .ok (.ifCond .eq 23, 3) := by decide +kernel
theorem e_Qu_thing_22 : decode b_Qu_thing 22 = .ok (.iload_n 3, 1) := by decide +kernel
theorem e_Qu_thing_23 : decode b_Qu_thing 23 = .ok (.iconst 0, 1) := by decide +kernel
theorem e_Qu_thing_24 : decode b_Qu_thing 24 = .ok (.bipush 20, 2) := by decide +kernel
theorem e_Qu_thing_26 : decode b_Qu_thing 26 = .ok (.invokestatic 60, 3) := by decide +kernel
theorem e_Qu_thing_29 : decode b_Qu_thing 29 = .ok (.ifCond .eq 13, 3) := by decide +kernel
theorem e_Qu_thing_32 : decode b_Qu_thing 32 = .ok (.iload 4, 2) := by decide +kernel
theorem e_Qu_thing_34 : decode b_Qu_thing 34 = .ok (.iconst 0, 1) := by decide +kernel
theorem e_Qu_thing_35 : decode b_Qu_thing 35 = .ok (.iconst 1, 1) := by decide +kernel
theorem e_Qu_thing_36 : decode b_Qu_thing 36 = .ok (.invokestatic 60, 3) := by decide +kernel
theorem e_Qu_thing_39 : decode b_Qu_thing 39 = .ok (.ifCond .ne 6, 3) := by decide +kernel
theorem e_Qu_thing_42 : decode b_Qu_thing 42 = .ok (.bipush (-2), 2) := by decide +kernel
theorem e_Qu_thing_44 : decode b_Qu_thing 44 = .ok (.ireturn, 1) := by decide +kernel
theorem e_Qu_thing_45 : decode b_Qu_thing 45 = .ok (.aload_n 0, 1) := by decide +kernel
theorem e_Qu_thing_46 : decode b_Qu_thing 46 = .ok (.getfield 17, 3) := by decide +kernel
theorem e_Qu_thing_49 : decode b_Qu_thing 49 = .ok (.getfield 64, 3) := by decide +kernel
theorem e_Qu_thing_52 : decode b_Qu_thing 52 = .ok (.iload_n 1, 1) := by decide +kernel
theorem e_Qu_thing_53 : decode b_Qu_thing 53 = .ok (.iload_n 2, 1) := by decide +kernel
theorem e_Qu_thing_54 : decode b_Qu_thing 54 = .ok (.iload_n 3, 1) := by decide +kernel
theorem e_Qu_thing_55 : decode b_Qu_thing 55 = .ok (.iload 4, 2) := by decide +kernel
theorem e_Qu_thing_57 : decode b_Qu_thing 57 = .ok (.invokevirtual 68, 3) := by decide +kernel
theorem e_Qu_thing_60 : decode b_Qu_thing 60 = .ok (.ireturn, 1) := by decide +kernel
theorem e_Qu_of_0 : decode b_Qu_of 0 = .ok (.aload_n 0, 1) := by decide +kernel
theorem e_Qu_of_1 : decode b_Qu_of 1 = .ok (.getfield 17, 3) := by decide +kernel
theorem e_Qu_of_4 : decode b_Qu_of 4 = .ok (.getfield 64, 3) := by decide +kernel
theorem e_Qu_of_7 : decode b_Qu_of 7 = .ok (.iload_n 1, 1) := by decide +kernel
theorem e_Qu_of_8 : decode b_Qu_of 8 = .ok (.invokevirtual 74, 3) := by decide +kernel
theorem e_Qu_of_11 : decode b_Qu_of 11 = .ok (.astore_n 3, 1) := by decide +kernel
theorem e_Qu_of_12 : decode b_Qu_of 12 = .ok (.aload_n 3, 1) := by decide +kernel
theorem e_Qu_of_13 : decode b_Qu_of 13 = .ok (.ifnonnull 7, 3) := by decide +kernel
theorem e_Qu_of_16 : decode b_Qu_of 16 = .ok (.sipush (-10001), 3) := by decide +kernel
theorem e_Qu_of_19 : decode b_Qu_of 19 = .ok (.ireturn, 1) := by decide +kernel
theorem e_Qu_of_20 : decode b_Qu_of 20 = .ok (.iload_n 2, 1) := by decide +kernel
theorem e_Qu_of_21 : decode b_Qu_of 21 = .ok (.tableswitch 98 0 7 #[47, 52, 57, 62, 67, 72, 77, 89], 47) := by decide +kernel
theorem e_Qu_of_68 : decode b_Qu_of 68 = .ok (.aload_n 3, 1) := by decide +kernel
theorem e_Qu_of_69 : decode b_Qu_of 69 = .ok (.getfield 78, 3) := by decide +kernel
theorem e_Qu_of_72 : decode b_Qu_of 72 = .ok (.ireturn, 1) := by decide +kernel
theorem e_Qu_of_73 : decode b_Qu_of 73 = .ok (.aload_n 3, 1) := by decide +kernel
theorem e_Qu_of_74 : decode b_Qu_of 74 = .ok (.getfield 84, 3) := by decide +kernel
theorem e_Qu_of_77 : decode b_Qu_of 77 = .ok (.ireturn, 1) := by decide +kernel
theorem e_Qu_of_78 : decode b_Qu_of 78 = .ok (.aload_n 3, 1) := by decide +kernel
theorem e_Qu_of_79 : decode b_Qu_of 79 = .ok (.getfield 87, 3) := by decide +kernel
theorem e_Qu_of_82 : decode b_Qu_of 82 = .ok (.ireturn, 1) := by decide +kernel
theorem e_Qu_of_83 : decode b_Qu_of 83 = .ok (.aload_n 3, 1) := by decide +kernel
theorem e_Qu_of_84 : decode b_Qu_of 84 = .ok (.getfield 90, 3) := by decide +kernel
theorem e_Qu_of_87 : decode b_Qu_of 87 = .ok (.ireturn, 1) := by decide +kernel
theorem e_Qu_of_88 : decode b_Qu_of 88 = .ok (.aload_n 3, 1) := by decide +kernel
theorem e_Qu_of_89 : decode b_Qu_of 89 = .ok (.getfield 93, 3) := by decide +kernel
theorem e_Qu_of_92 : decode b_Qu_of 92 = .ok (.ireturn, 1) := by decide +kernel
theorem e_Qu_of_93 : decode b_Qu_of 93 = .ok (.aload_n 3, 1) := by decide +kernel
theorem e_Qu_of_94 : decode b_Qu_of 94 = .ok (.getfield 96, 3) := by decide +kernel
theorem e_Qu_of_97 : decode b_Qu_of 97 = .ok (.ireturn, 1) := by decide +kernel
theorem e_Qu_of_98 : decode b_Qu_of 98 = .ok (.aload_n 0, 1) := by decide +kernel
theorem e_Qu_of_99 : decode b_Qu_of 99 = .ok (.getfield 17, 3) := by decide +kernel
theorem e_Qu_of_102 : decode b_Qu_of 102 = .ok (.getfield 64, 3) := by decide +kernel
theorem e_Qu_of_105 : decode b_Qu_of 105 = .ok (.aload_n 3, 1) := by decide +kernel
theorem e_Qu_of_106 : decode b_Qu_of 106 = .ok (.invokevirtual 99, 3) := by decide +kernel
theorem e_Qu_of_109 : decode b_Qu_of 109 = .ok (.ireturn, 1) := by decide +kernel
theorem e_Qu_of_110 : decode b_Qu_of 110 = .ok (.aload_n 0, 1) := by decide +kernel
theorem e_Qu_of_111 : decode b_Qu_of 111 = .ok (.getfield 31, 3) := by decide +kernel
theorem e_Qu_of_114 : decode b_Qu_of 114 = .ok (.iload_n 1, 1) := by decide +kernel
theorem e_Qu_of_115 : decode b_Qu_of 115 = .ok (.invokevirtual 103, 3) := by decide +kernel
theorem e_Qu_of_118 : decode b_Qu_of 118 = .ok (.ireturn, 1) := by decide +kernel
theorem e_Qu_of_119 : decode b_Qu_of 119 = .ok (.sipush (-10001), 3) := by decide +kernel
theorem e_Qu_of_122 : decode b_Qu_of 122 = .ok (.ireturn, 1) := by decide +kernel
theorem e_Qu_put_0 : decode b_Qu_put 0 = .ok (.aload_n 0, 1) := by decide +kernel
theorem e_Qu_put_1 : decode b_Qu_put 1 = .ok (.getfield 17, 3) := by decide +kernel
theorem e_Qu_put_4 : decode b_Qu_put 4 = .ok (.getfield 64, 3) := by decide +kernel
theorem e_Qu_put_7 : decode b_Qu_put 7 = .ok (.iload_n 1, 1) := by decide +kernel
theorem e_Qu_put_8 : decode b_Qu_put 8 = .ok (.invokevirtual 74, 3) := by decide +kernel
theorem e_Qu_put_11 : decode b_Qu_put 11 = .ok (.astore_n 2, 1) := by decide +kernel
theorem e_Qu_put_12 : decode b_Qu_put 12 = .ok (.aload_n 2, 1) := by decide +kernel
theorem e_Qu_put_13 : decode b_Qu_put 13 = .ok (.ifnonnull 5, 3) := by decide +kernel
theorem e_Qu_put_16 : decode b_Qu_put 16 = .ok (.iconst (-1), 1) := by decide +kernel
theorem e_Qu_put_17 : decode b_Qu_put 17 = .ok (.ireturn, 1) := by decide +kernel
theorem e_Qu_put_18 : decode b_Qu_put 18 = .ok (.aload_n 2, 1) := by decide +kernel
theorem e_Qu_put_19 : decode b_Qu_put 19 = .ok (.getfield 93, 3) := by decide +kernel
theorem e_Qu_put_22 : decode b_Qu_put 22 = .ok (.ifCond .eq 6, 3) := by decide +kernel
theorem e_Qu_put_25 : decode b_Qu_put 25 = .ok (.bipush (-3), 2) := by decide +kernel
theorem e_Qu_put_27 : decode b_Qu_put 27 = .ok (.ireturn, 1) := by decide +kernel
theorem e_Qu_put_28 : decode b_Qu_put 28 = .ok (.aload_n 2, 1) := by decide +kernel
theorem e_Qu_put_29 : decode b_Qu_put 29 = .ok (.invokevirtual 107, 3) := by decide +kernel
theorem e_Qu_put_32 : decode b_Qu_put 32 = .ok (.aload_n 0, 1) := by decide +kernel
theorem e_Qu_put_33 : decode b_Qu_put 33 = .ok (.getfield 17, 3) := by decide +kernel
theorem e_Qu_put_36 : decode b_Qu_put 36 = .ok (.getfield 64, 3) := by decide +kernel
theorem e_Qu_put_39 : decode b_Qu_put 39 = .ok (.iconst 1, 1) := by decide +kernel
theorem e_Qu_put_40 : decode b_Qu_put 40 = .ok (.invokevirtual 110, 3) := by decide +kernel
theorem e_Qu_put_43 : decode b_Qu_put 43 = .ok (.ireturn, 1) := by decide +kernel
theorem e_Qu_say_0 : decode b_Qu_say 0 = .ok (.aload_n 0, 1) := by decide +kernel
theorem e_Qu_say_1 : decode b_Qu_say 1 = .ok (.getfield 17, 3) := by decide +kernel
theorem e_Qu_say_4 : decode b_Qu_say 4 = .ok (.getfield 64, 3) := by decide +kernel
theorem e_Qu_say_7 : decode b_Qu_say 7 = .ok (.iload_n 1, 1) := by decide +kernel
theorem e_Qu_say_8 : decode b_Qu_say 8 = .ok (.invokevirtual 74, 3) := by decide +kernel
theorem e_Qu_say_11 : decode b_Qu_say 11 = .ok (.astore_n 2, 1) := by decide +kernel
theorem e_Qu_say_12 : decode b_Qu_say 12 = .ok (.aload_n 2, 1) := by decide +kernel
theorem e_Qu_say_13 : decode b_Qu_say 13 = .ok (.ifnonnull 5, 3) := by decide +kernel
theorem e_Qu_say_16 : decode b_Qu_say 16 = .ok (.iconst (-1), 1) := by decide +kernel
theorem e_Qu_say_17 : decode b_Qu_say 17 = .ok (.ireturn, 1) := by decide +kernel
theorem e_Qu_say_18 : decode b_Qu_say 18 = .ok (.aload_n 2, 1) := by decide +kernel
theorem e_Qu_say_19 : decode b_Qu_say 19 = .ok (.getfield 93, 3) := by decide +kernel
theorem e_Qu_say_22 : decode b_Qu_say 22 = .ok (.iconst 2, 1) := by decide +kernel
theorem e_Qu_say_23 : decode b_Qu_say 23 = .ok (.if_icmp .ne 6, 3) := by decide +kernel
theorem e_Qu_say_26 : decode b_Qu_say 26 = .ok (.bipush (-3), 2) := by decide +kernel
theorem e_Qu_say_28 : decode b_Qu_say 28 = .ok (.ireturn, 1) := by decide +kernel
theorem e_Qu_say_29 : decode b_Qu_say 29 = .ok (.aload_n 0, 1) := by decide +kernel
theorem e_Qu_say_30 : decode b_Qu_say 30 = .ok (.getfield 17, 3) := by decide +kernel
theorem e_Qu_say_33 : decode b_Qu_say 33 = .ok (.getfield 64, 3) := by decide +kernel
theorem e_Qu_say_36 : decode b_Qu_say 36 = .ok (.aload_n 2, 1) := by decide +kernel
theorem e_Qu_say_37 : decode b_Qu_say 37 = .ok (.invokevirtual 113, 3) := by decide +kernel
theorem e_Qu_say_40 : decode b_Qu_say 40 = .ok (.aload_n 0, 1) := by decide +kernel
theorem e_Qu_say_41 : decode b_Qu_say 41 = .ok (.getfield 17, 3) := by decide +kernel
theorem e_Qu_say_44 : decode b_Qu_say 44 = .ok (.getfield 64, 3) := by decide +kernel
theorem e_Qu_say_47 : decode b_Qu_say 47 = .ok (.getfield 117, 3) := by decide +kernel
theorem e_Qu_say_50 : decode b_Qu_say 50 = .ok (.ireturn, 1) := by decide +kernel
theorem e_Qu_weigh_0 : decode b_Qu_weigh 0 = .ok (.aload_n 0, 1) := by decide +kernel
theorem e_Qu_weigh_1 : decode b_Qu_weigh 1 = .ok (.getfield 17, 3) := by decide +kernel
theorem e_Qu_weigh_4 : decode b_Qu_weigh 4 = .ok (.getfield 64, 3) := by decide +kernel
theorem e_Qu_weigh_7 : decode b_Qu_weigh 7 = .ok (.iload_n 1, 1) := by decide +kernel
theorem e_Qu_weigh_8 : decode b_Qu_weigh 8 = .ok (.invokevirtual 74, 3) := by decide +kernel
theorem e_Qu_weigh_11 : decode b_Qu_weigh 11 = .ok (.astore_n 3, 1) := by decide +kernel
theorem e_Qu_weigh_12 : decode b_Qu_weigh 12 = .ok (.aload_n 3, 1) := by decide +kernel
theorem e_Qu_weigh_13 : decode b_Qu_weigh 13 = .ok (.ifnonnull 5, 3) := by decide +kernel
theorem e_Qu_weigh_16 : decode b_Qu_weigh 16 = .ok (.iconst (-1), 1) := by decide +kernel
theorem e_Qu_weigh_17 : decode b_Qu_weigh 17 = .ok (.ireturn, 1) := by decide +kernel
theorem e_Qu_weigh_18 : decode b_Qu_weigh 18 = .ok (.iload_n 2, 1) := by decide +kernel
theorem e_Qu_weigh_19 : decode b_Qu_weigh 19 = .ok (.iconst 0, 1) := by decide +kernel
theorem e_Qu_weigh_20 : decode b_Qu_weigh 20 = .ok (.bipush 20, 2) := by decide +kernel
theorem e_Qu_weigh_22 : decode b_Qu_weigh 22 = .ok (.invokestatic 60, 3) := by decide +kernel
theorem e_Qu_weigh_25 : decode b_Qu_weigh 25 = .ok (.ifCond .ne 6, 3) := by decide +kernel
theorem e_Qu_weigh_28 : decode b_Qu_weigh 28 = .ok (.bipush (-2), 2) := by decide +kernel
theorem e_Qu_weigh_30 : decode b_Qu_weigh 30 = .ok (.ireturn, 1) := by decide +kernel
theorem e_Qu_weigh_31 : decode b_Qu_weigh 31 = .ok (.aload_n 3, 1) := by decide +kernel
theorem e_Qu_weigh_32 : decode b_Qu_weigh 32 = .ok (.getfield 87, 3) := by decide +kernel
theorem e_Qu_weigh_35 : decode b_Qu_weigh 35 = .ok (.istore 4, 2) := by decide +kernel
theorem e_Qu_weigh_37 : decode b_Qu_weigh 37 = .ok (.aload_n 3, 1) := by decide +kernel
theorem e_Qu_weigh_38 : decode b_Qu_weigh 38 = .ok (.iload_n 2, 1) := by decide +kernel
theorem e_Qu_weigh_39 : decode b_Qu_weigh 39 = .ok (.putfield 87, 3) := by decide +kernel
theorem e_Qu_weigh_42 : decode b_Qu_weigh 42 = .ok (.iload 4, 2) := by decide +kernel
theorem e_Qu_weigh_44 : decode b_Qu_weigh 44 = .ok (.ireturn, 1) := by decide +kernel
theorem e_Qu_fire_0 : decode b_Qu_fire 0 = .ok (.iload_n 1, 1) := by decide +kernel
theorem e_Qu_fire_1 : decode b_Qu_fire 1 = .ok (.iconst 0, 1) := by decide +kernel
theorem e_Qu_fire_2 : decode b_Qu_fire 2 = .ok (.bipush 9, 2) := by decide +kernel
theorem e_Qu_fire_4 : decode b_Qu_fire 4 = .ok (.invokestatic 60, 3) := by decide +kernel
theorem e_Qu_fire_7 : decode b_Qu_fire 7 = .ok (.ifCond .ne 6, 3) := by decide +kernel
theorem e_Qu_fire_10 : decode b_Qu_fire 10 = .ok (.bipush (-2), 2) := by decide +kernel
theorem e_Qu_fire_12 : decode b_Qu_fire 12 = .ok (.ireturn, 1) := by decide +kernel
theorem e_Qu_fire_13 : decode b_Qu_fire 13 = .ok (.aload_n 0, 1) := by decide +kernel
theorem e_Qu_fire_14 : decode b_Qu_fire 14 = .ok (.getfield 17, 3) := by decide +kernel
theorem e_Qu_fire_17 : decode b_Qu_fire 17 = .ok (.getfield 64, 3) := by decide +kernel
theorem e_Qu_fire_20 : decode b_Qu_fire 20 = .ok (.getfield 120, 3) := by decide +kernel
theorem e_Qu_fire_23 : decode b_Qu_fire 23 = .ok (.istore_n 2, 1) := by decide +kernel
theorem e_Qu_fire_24 : decode b_Qu_fire 24 = .ok (.aload_n 0, 1) := by decide +kernel
theorem e_Qu_fire_25 : decode b_Qu_fire 25 = .ok (.getfield 17, 3) := by decide +kernel
theorem e_Qu_fire_28 : decode b_Qu_fire 28 = .ok (.getfield 64, 3) := by decide +kernel
theorem e_Qu_fire_31 : decode b_Qu_fire 31 = .ok (.iload_n 1, 1) := by decide +kernel
theorem e_Qu_fire_32 : decode b_Qu_fire 32 = .ok (.putfield 120, 3) := by decide +kernel
theorem e_Qu_fire_35 : decode b_Qu_fire 35 = .ok (.iload_n 2, 1) := by decide +kernel
theorem e_Qu_fire_36 : decode b_Qu_fire 36 = .ok (.ireturn, 1) := by decide +kernel
theorem e_Qu_tip_0 : decode b_Qu_tip 0 = .ok (.aload_n 0, 1) := by decide +kernel
theorem e_Qu_tip_1 : decode b_Qu_tip 1 = .ok (.getfield 17, 3) := by decide +kernel
theorem e_Qu_tip_4 : decode b_Qu_tip 4 = .ok (.getfield 64, 3) := by decide +kernel
theorem e_Qu_tip_7 : decode b_Qu_tip 7 = .ok (.iconst 1, 1) := by decide +kernel
theorem e_Qu_tip_8 : decode b_Qu_tip 8 = .ok (.invokevirtual 110, 3) := by decide +kernel
theorem e_Qu_tip_11 : decode b_Qu_tip 11 = .ok (.istore_n 1, 1) := by decide +kernel
theorem e_Qu_tip_12 : decode b_Qu_tip 12 = .ok (.aload_n 0, 1) := by decide +kernel
theorem e_Qu_tip_13 : decode b_Qu_tip 13 = .ok (.getfield 17, 3) := by decide +kernel
theorem e_Qu_tip_16 : decode b_Qu_tip 16 = .ok (.getfield 64, 3) := by decide +kernel
theorem e_Qu_tip_19 : decode b_Qu_tip 19 = .ok (.invokevirtual 123, 3) := by decide +kernel
theorem e_Qu_tip_22 : decode b_Qu_tip 22 = .ok (.iload_n 1, 1) := by decide +kernel
theorem e_Qu_tip_23 : decode b_Qu_tip 23 = .ok (.ireturn, 1) := by decide +kernel
theorem e_Qu_row_0 : decode b_Qu_row 0 = .ok (.aload_n 0, 1) := by decide +kernel
theorem e_Qu_row_1 : decode b_Qu_row 1 = .ok (.getfield 17, 3) := by decide +kernel
theorem e_Qu_row_4 : decode b_Qu_row 4 = .ok (.getfield 64, 3) := by decide +kernel
theorem e_Qu_row_7 : decode b_Qu_row 7 = .ok (.iload_n 1, 1) := by decide +kernel
theorem e_Qu_row_8 : decode b_Qu_row 8 = .ok (.invokevirtual 74, 3) := by decide +kernel
theorem e_Qu_row_11 : decode b_Qu_row 11 = .ok (.astore 4, 2) := by decide +kernel
theorem e_Qu_row_13 : decode b_Qu_row 13 = .ok (.aload 4, 2) := by decide +kernel
theorem e_Qu_row_15 : decode b_Qu_row 15 = .ok (.ifnull 12, 3) := by decide +kernel
theorem e_Qu_row_18 : decode b_Qu_row 18 = .ok (.iload_n 2, 1) := by decide +kernel
theorem e_Qu_row_19 : decode b_Qu_row 19 = .ok (.iconst 0, 1) := by decide +kernel
theorem e_Qu_row_20 : decode b_Qu_row 20 = .ok (.iconst 3, 1) := by decide +kernel
theorem e_Qu_row_21 : decode b_Qu_row 21 = .ok (.invokestatic 60, 3) := by decide +kernel
theorem e_Qu_row_24 : decode b_Qu_row 24 = .ok (.ifCond .ne 5, 3) := by decide +kernel
theorem e_Qu_row_27 : decode b_Qu_row 27 = .ok (.iconst (-1), 1) := by decide +kernel
theorem e_Qu_row_28 : decode b_Qu_row 28 = .ok (.ireturn, 1) := by decide +kernel
theorem e_Qu_row_29 : decode b_Qu_row 29 = .ok (.iload_n 3, 1) := by decide +kernel
theorem e_Qu_row_30 : decode b_Qu_row 30 = .ok (.iconst 0, 1) := by decide +kernel
theorem e_Qu_row_31 : decode b_Qu_row 31 = .ok (.bipush 9, 2) := by decide +kernel
theorem e_Qu_row_33 : decode b_Qu_row 33 = .ok (.invokestatic 60, 3) := by decide +kernel
theorem e_Qu_row_36 : decode b_Qu_row 36 = .ok (.ifCond .ne 6, 3) := by decide +kernel
theorem e_Qu_row_39 : decode b_Qu_row 39 = .ok (.bipush (-2), 2) := by decide +kernel
theorem e_Qu_row_41 : decode b_Qu_row 41 = .ok (.ireturn, 1) := by decide +kernel
theorem e_Qu_row_42 : decode b_Qu_row 42 = .ok (.aload 4, 2) := by decide +kernel
theorem e_Qu_row_44 : decode b_Qu_row 44 = .ok (.getfield 78, 3) := by decide +kernel
theorem e_Qu_row_47 : decode b_Qu_row 47 = .ok (.bipush 6, 2) := by decide +kernel
theorem e_Qu_row_49 : decode b_Qu_row 49 = .ok (.if_icmp .eq 6, 3) := by decide +kernel
theorem e_Qu_row_52 : decode b_Qu_row 52 = .ok (.bipush (-3), 2) := by decide +kernel
theorem e_Qu_row_54 : decode b_Qu_row 54 = .ok (.ireturn, 1) := by decide +kernel
theorem e_Qu_row_55 : decode b_Qu_row 55 = .ok (.aload 4, 2) := by decide +kernel
theorem e_Qu_row_57 : decode b_Qu_row 57 = .ok (.getfield 126, 3) := by decide +kernel
theorem e_Qu_row_60 : decode b_Qu_row 60 = .ok (.iload_n 2, 1) := by decide +kernel
theorem e_Qu_row_61 : decode b_Qu_row 61 = .ok (.iaload, 1) := by decide +kernel
theorem e_Qu_row_62 : decode b_Qu_row 62 = .ok (.istore 5, 2) := by decide +kernel
theorem e_Qu_row_64 : decode b_Qu_row 64 = .ok (.aload 4, 2) := by decide +kernel
theorem e_Qu_row_66 : decode b_Qu_row 66 = .ok (.getfield 126, 3) := by decide +kernel
theorem e_Qu_row_69 : decode b_Qu_row 69 = .ok (.iload_n 2, 1) := by decide +kernel
theorem e_Qu_row_70 : decode b_Qu_row 70 = .ok (.iload_n 3, 1) := by decide +kernel
theorem e_Qu_row_71 : decode b_Qu_row 71 = .ok (.iastore, 1) := by decide +kernel
theorem e_Qu_row_72 : decode b_Qu_row 72 = .ok (.iload 5, 2) := by decide +kernel
theorem e_Qu_row_74 : decode b_Qu_row 74 = .ok (.ireturn, 1) := by decide +kernel
theorem e_Qu_feed_0 : decode b_Qu_feed 0 = .ok (.iload_n 1, 1) := by decide +kernel
theorem e_Qu_feed_1 : decode b_Qu_feed 1 = .ok (.iconst 0, 1) := by decide +kernel
theorem e_Qu_feed_2 : decode b_Qu_feed 2 = .ok (.bipush 127, 2) := by decide +kernel
theorem e_Qu_feed_4 : decode b_Qu_feed 4 = .ok (.invokestatic 60, 3) := by decide +kernel
theorem e_Qu_feed_7 : decode b_Qu_feed 7 = .ok (.ifCond .ne 6, 3) := by decide +kernel
theorem e_Qu_feed_10 : decode b_Qu_feed 10 = .ok (.bipush (-2), 2) := by decide +kernel
theorem e_Qu_feed_12 : decode b_Qu_feed 12 = .ok (.ireturn, 1) := by decide +kernel
theorem e_Qu_feed_13 : decode b_Qu_feed 13 = .ok (.aload_n 0, 1) := by decide +kernel
theorem e_Qu_feed_14 : decode b_Qu_feed 14 = .ok (.getfield 38, 3) := by decide +kernel
theorem e_Qu_feed_17 : decode b_Qu_feed 17 = .ok (.iload_n 1, 1) := by decide +kernel
theorem e_Qu_feed_18 : decode b_Qu_feed 18 = .ok (.invokevirtual 130, 3) := by decide +kernel
theorem e_Qu_feed_21 : decode b_Qu_feed 21 = .ok (.ireturn, 1) := by decide +kernel
theorem e_Qu_kitchen_0 : decode b_Qu_kitchen 0 = .ok (.aload_n 0, 1) := by decide +kernel
theorem e_Qu_kitchen_1 : decode b_Qu_kitchen 1 = .ok (.getfield 133, 3) := by decide +kernel
theorem e_Qu_kitchen_4 : decode b_Qu_kitchen 4 = .ok (.ifCond .lt 12, 3) := by decide +kernel
theorem e_Qu_kitchen_7 : decode b_Qu_kitchen 7 = .ok (.aload_n 0, 1) := by decide +kernel
theorem e_Qu_kitchen_8 : decode b_Qu_kitchen 8 = .ok (.getfield 133, 3) := by decide +kernel
theorem e_Qu_kitchen_11 : decode b_Qu_kitchen 11 = .ok (.bipush 6, 2) := by decide +kernel
theorem e_Qu_kitchen_13 : decode b_Qu_kitchen 13 = .ok (.if_icmp .lt 6, 3) := by decide +kernel
theorem e_Qu_kitchen_16 : decode b_Qu_kitchen 16 = .ok (.bipush (-4), 2) := by decide +kernel
theorem e_Qu_kitchen_18 : decode b_Qu_kitchen 18 = .ok (.ireturn, 1) := by decide +kernel
theorem e_Qu_kitchen_19 : decode b_Qu_kitchen 19 = .ok (.aload_n 0, 1) := by decide +kernel
theorem e_Qu_kitchen_20 : decode b_Qu_kitchen 20 = .ok (.getfield 42, 3) := by decide +kernel
theorem e_Qu_kitchen_23 : decode b_Qu_kitchen 23 = .ok (.aload_n 0, 1) := by decide +kernel
theorem e_Qu_kitchen_24 : decode b_Qu_kitchen 24 = .ok (.getfield 133, 3) := by decide +kernel
theorem e_Qu_kitchen_27 : decode b_Qu_kitchen 27 = .ok (.aaload, 1) := by decide +kernel
theorem e_Qu_kitchen_28 : decode b_Qu_kitchen 28 = .ok (.astore_n 1, 1) := by decide +kernel
theorem e_Qu_kitchen_29 : decode b_Qu_kitchen 29 = .ok (.aload_n 0, 1) := by decide +kernel
theorem e_Qu_kitchen_30 : decode b_Qu_kitchen 30 = .ok (.getfield 38, 3) := by decide +kernel
theorem e_Qu_kitchen_33 : decode b_Qu_kitchen 33 = .ok (.aload_n 1, 1) := by decide +kernel
theorem e_Qu_kitchen_34 : decode b_Qu_kitchen 34 = .ok (.invokevirtual 136, 3) := by decide +kernel
theorem e_Qu_kitchen_37 : decode b_Qu_kitchen 37 = .ok (.istore_n 2, 1) := by decide +kernel
theorem e_Qu_kitchen_38 : decode b_Qu_kitchen 38 = .ok (.aload_n 0, 1) := by decide +kernel
theorem e_Qu_kitchen_39 : decode b_Qu_kitchen 39 = .ok (.getfield 38, 3) := by decide +kernel
theorem e_Qu_kitchen_42 : decode b_Qu_kitchen 42 = .ok (.invokevirtual 140, 3) := by decide +kernel
theorem e_Qu_kitchen_45 : decode b_Qu_kitchen 45 = .ok (.iload_n 2, 1) := by decide +kernel
theorem e_Qu_kitchen_46 : decode b_Qu_kitchen 46 = .ok (.ifCond .lt 8, 3) := by decide +kernel
theorem e_Qu_kitchen_49 : decode b_Qu_kitchen 49 = .ok (.bipush (-10), 2) := by decide +kernel
theorem e_Qu_kitchen_51 : decode b_Qu_kitchen 51 = .ok (.iload_n 2, 1) := by decide +kernel
theorem e_Qu_kitchen_52 : decode b_Qu_kitchen 52 = .ok (.isub, 1) := by decide +kernel
theorem e_Qu_kitchen_53 : decode b_Qu_kitchen 53 = .ok (.ireturn, 1) := by decide +kernel
theorem e_Qu_kitchen_54 : decode b_Qu_kitchen 54 = .ok (.aload_n 0, 1) := by decide +kernel
theorem e_Qu_kitchen_55 : decode b_Qu_kitchen 55 = .ok (.getfield 17, 3) := by decide +kernel
theorem e_Qu_kitchen_58 : decode b_Qu_kitchen 58 = .ok (.getfield 64, 3) := by decide +kernel
theorem e_Qu_kitchen_61 : decode b_Qu_kitchen 61 = .ok (.aload_n 1, 1) := by decide +kernel
theorem e_Qu_kitchen_62 : decode b_Qu_kitchen 62 = .ok (.putfield 143, 3) := by decide +kernel
theorem e_Qu_kitchen_65 : decode b_Qu_kitchen 65 = .ok (.aload_n 0, 1) := by decide +kernel
theorem e_Qu_kitchen_66 : decode b_Qu_kitchen 66 = .ok (.dup, 1) := by decide +kernel
theorem e_Qu_kitchen_67 : decode b_Qu_kitchen 67 = .ok (.getfield 133, 3) := by decide +kernel
theorem e_Qu_kitchen_70 : decode b_Qu_kitchen 70 = .ok (.iconst 1, 1) := by decide +kernel
theorem e_Qu_kitchen_71 : decode b_Qu_kitchen 71 = .ok (.iadd, 1) := by decide +kernel
theorem e_Qu_kitchen_72 : decode b_Qu_kitchen 72 = .ok (.putfield 133, 3) := by decide +kernel
theorem e_Qu_kitchen_75 : decode b_Qu_kitchen 75 = .ok (.aload_n 0, 1) := by decide +kernel
theorem e_Qu_kitchen_76 : decode b_Qu_kitchen 76 = .ok (.getfield 133, 3) := by decide +kernel
theorem e_Qu_kitchen_79 : decode b_Qu_kitchen 79 = .ok (.iconst 1, 1) := by decide +kernel
theorem e_Qu_kitchen_80 : decode b_Qu_kitchen 80 = .ok (.isub, 1) := by decide +kernel
theorem e_Qu_kitchen_81 : decode b_Qu_kitchen 81 = .ok (.ireturn, 1) := by decide +kernel
theorem e_Qu_told_0 : decode b_Qu_told 0 = .ok (.aload_n 0, 1) := by decide +kernel
theorem e_Qu_told_1 : decode b_Qu_told 1 = .ok (.getfield 17, 3) := by decide +kernel
theorem e_Qu_told_4 : decode b_Qu_told 4 = .ok (.getfield 64, 3) := by decide +kernel
theorem e_Qu_told_7 : decode b_Qu_told 7 = .ok (.astore_n 2, 1) := by decide +kernel
theorem e_Qu_told_8 : decode b_Qu_told 8 = .ok (.iload_n 1, 1) := by decide +kernel
theorem e_Qu_told_9 : decode b_Qu_told 9 = .ok (.tableswitch 124 0 9 #[55, 60, 68, 73, 78, 91, 97, 103, 111, 119], 55) := by decide +kernel
theorem e_Qu_told_64 : decode b_Qu_told 64 = .ok (.aload_n 2, 1) := by decide +kernel
theorem e_Qu_told_65 : decode b_Qu_told 65 = .ok (.getfield 147, 3) := by decide +kernel
theorem e_Qu_told_68 : decode b_Qu_told 68 = .ok (.ireturn, 1) := by decide +kernel
theorem e_Qu_told_69 : decode b_Qu_told 69 = .ok (.aload_n 2, 1) := by decide +kernel
theorem e_Qu_told_70 : decode b_Qu_told 70 = .ok (.getfield 143, 3) := by decide +kernel
theorem e_Qu_told_73 : decode b_Qu_told 73 = .ok (.getfield 150, 3) := by decide +kernel
theorem e_Qu_told_76 : decode b_Qu_told 76 = .ok (.ireturn, 1) := by decide +kernel
theorem e_Qu_told_77 : decode b_Qu_told 77 = .ok (.aload_n 2, 1) := by decide +kernel
theorem e_Qu_told_78 : decode b_Qu_told 78 = .ok (.getfield 120, 3) := by decide +kernel
theorem e_Qu_told_81 : decode b_Qu_told 81 = .ok (.ireturn, 1) := by decide +kernel
theorem e_Qu_told_82 : decode b_Qu_told 82 = .ok (.aload_n 2, 1) := by decide +kernel
theorem e_Qu_told_83 : decode b_Qu_told 83 = .ok (.getfield 117, 3) := by decide +kernel
theorem e_Qu_told_86 : decode b_Qu_told 86 = .ok (.ireturn, 1) := by decide +kernel
theorem e_Qu_told_87 : decode b_Qu_told 87 = .ok (.aload_n 2, 1) := by decide +kernel
theorem e_Qu_told_88 : decode b_Qu_told 88 = .ok (.getfield 153, 3) := by decide +kernel
theorem e_Qu_told_91 : decode b_Qu_told 91 = .ok (.ifCond .eq 7, 3) := by decide +kernel
theorem e_Qu_told_94 : decode b_Qu_told 94 = .ok (.iconst 1, 1) := by decide +kernel
theorem e_Qu_told_95 : decode b_Qu_told 95 = .ok (.goto 4, 3) := by decide +kernel
theorem e_Qu_told_98 : decode b_Qu_told 98 = .ok (.iconst 0, 1) := by decide +kernel
theorem e_Qu_told_99 : decode b_Qu_told 99 = .ok (.ireturn, 1) := by decide +kernel
theorem e_Qu_told_100 : decode b_Qu_told 100 = .ok (.aload_n 2, 1) := by decide +kernel
theorem e_Qu_told_101 : decode b_Qu_told 101 = .ok (.iconst 1, 1) := by decide +kernel
theorem e_Qu_told_102 : decode b_Qu_told 102 = .ok (.invokevirtual 157, 3) := by decide +kernel
theorem e_Qu_told_105 : decode b_Qu_told 105 = .ok (.ireturn, 1) := by decide +kernel
theorem e_Qu_told_106 : decode b_Qu_told 106 = .ok (.aload_n 2, 1) := by decide +kernel
theorem e_Qu_told_107 : decode b_Qu_told 107 = .ok (.iconst 2, 1) := by decide +kernel
theorem e_Qu_told_108 : decode b_Qu_told 108 = .ok (.invokevirtual 157, 3) := by decide +kernel
theorem e_Qu_told_111 : decode b_Qu_told 111 = .ok (.ireturn, 1) := by decide +kernel
theorem e_Qu_told_112 : decode b_Qu_told 112 = .ok (.aload_n 0, 1) := by decide +kernel
theorem e_Qu_told_113 : decode b_Qu_told 113 = .ok (.getfield 31, 3) := by decide +kernel
theorem e_Qu_told_116 : decode b_Qu_told 116 = .ok (.invokevirtual 160, 3) := by decide +kernel
theorem e_Qu_told_119 : decode b_Qu_told 119 = .ok (.ireturn, 1) := by decide +kernel
theorem e_Qu_told_120 : decode b_Qu_told 120 = .ok (.aload_n 0, 1) := by decide +kernel
theorem e_Qu_told_121 : decode b_Qu_told 121 = .ok (.getfield 31, 3) := by decide +kernel
theorem e_Qu_told_124 : decode b_Qu_told 124 = .ok (.invokevirtual 164, 3) := by decide +kernel
theorem e_Qu_told_127 : decode b_Qu_told 127 = .ok (.ireturn, 1) := by decide +kernel
theorem e_Qu_told_128 : decode b_Qu_told 128 = .ok (.aload_n 2, 1) := by decide +kernel
theorem e_Qu_told_129 : decode b_Qu_told 129 = .ok (.invokevirtual 167, 3) := by decide +kernel
theorem e_Qu_told_132 : decode b_Qu_told 132 = .ok (.ireturn, 1) := by decide +kernel
theorem e_Qu_told_133 : decode b_Qu_told 133 = .ok (.sipush (-10001), 3) := by decide +kernel
theorem e_Qu_told_136 : decode b_Qu_told 136 = .ok (.ireturn, 1) := by decide +kernel
theorem e_Qu_pass_0 : decode b_Qu_pass 0 = .ok (.iload_n 1, 1) := by decide +kernel
theorem e_Qu_pass_1 : decode b_Qu_pass 1 = .ok (.iconst 0, 1) := by decide +kernel
theorem e_Qu_pass_2 : decode b_Qu_pass 2 = .ok (.bipush 60, 2) := by decide +kernel
theorem e_Qu_pass_4 : decode b_Qu_pass 4 = .ok (.invokestatic 60, 3) := by decide +kernel
theorem e_Qu_pass_7 : decode b_Qu_pass 7 = .ok (.ifCond .ne 6, 3) := by decide +kernel
theorem e_Qu_pass_10 : decode b_Qu_pass 10 = .ok (.bipush (-2), 2) := by decide +kernel
theorem e_Qu_pass_12 : decode b_Qu_pass 12 = .ok (.ireturn, 1) := by decide +kernel
theorem e_Qu_pass_13 : decode b_Qu_pass 13 = .ok (.aload_n 0, 1) := by decide +kernel
theorem e_Qu_pass_14 : decode b_Qu_pass 14 = .ok (.getfield 17, 3) := by decide +kernel
theorem e_Qu_pass_17 : decode b_Qu_pass 17 = .ok (.getfield 64, 3) := by decide +kernel
theorem e_Qu_pass_20 : decode b_Qu_pass 20 = .ok (.getfield 147, 3) := by decide +kernel
theorem e_Qu_pass_23 : decode b_Qu_pass 23 = .ok (.iload_n 1, 1) := by decide +kernel
theorem e_Qu_pass_24 : decode b_Qu_pass 24 = .ok (.iadd, 1) := by decide +kernel
theorem e_Qu_pass_25 : decode b_Qu_pass 25 = .ok (.sipush 9999, 3) := by decide +kernel
theorem e_Qu_pass_28 : decode b_Qu_pass 28 = .ok (.if_icmp .le 6, 3) := by decide +kernel
theorem e_Qu_pass_31 : decode b_Qu_pass 31 = .ok (.bipush (-3), 2) := by decide +kernel
theorem e_Qu_pass_33 : decode b_Qu_pass 33 = .ok (.ireturn, 1) := by decide +kernel
theorem e_Qu_pass_34 : decode b_Qu_pass 34 = .ok (.aload_n 0, 1) := by decide +kernel
theorem e_Qu_pass_35 : decode b_Qu_pass 35 = .ok (.getfield 17, 3) := by decide +kernel
theorem e_Qu_pass_38 : decode b_Qu_pass 38 = .ok (.getfield 64, 3) := by decide +kernel
theorem e_Qu_pass_41 : decode b_Qu_pass 41 = .ok (.iload_n 1, 1) := by decide +kernel
theorem e_Qu_pass_42 : decode b_Qu_pass 42 = .ok (.invokevirtual 170, 3) := by decide +kernel
theorem e_Qu_pass_45 : decode b_Qu_pass 45 = .ok (.aload_n 0, 1) := by decide +kernel
theorem e_Qu_pass_46 : decode b_Qu_pass 46 = .ok (.getfield 17, 3) := by decide +kernel
theorem e_Qu_pass_49 : decode b_Qu_pass 49 = .ok (.getfield 64, 3) := by decide +kernel
theorem e_Qu_pass_52 : decode b_Qu_pass 52 = .ok (.getfield 147, 3) := by decide +kernel
theorem e_Qu_pass_55 : decode b_Qu_pass 55 = .ok (.ireturn, 1) := by decide +kernel
theorem e_Qu_on_0 : decode b_Qu_on 0 = .ok (.iload_n 2, 1) := by decide +kernel
theorem e_Qu_on_1 : decode b_Qu_on 1 = .ok (.iconst 0, 1) := by decide +kernel
theorem e_Qu_on_2 : decode b_Qu_on 2 = .ok (.iconst 1, 1) := by decide +kernel
theorem e_Qu_on_3 : decode b_Qu_on 3 = .ok (.invokestatic 60, 3) := by decide +kernel
theorem e_Qu_on_6 : decode b_Qu_on 6 = .ok (.ifCond .ne 5, 3) := by decide +kernel
theorem e_Qu_on_9 : decode b_Qu_on 9 = .ok (.iconst (-1), 1) := by decide +kernel
theorem e_Qu_on_10 : decode b_Qu_on 10 = .ok (.ireturn, 1) := by decide +kernel
theorem e_Qu_on_11 : decode b_Qu_on 11 = .ok (.iload_n 1, 1) := by decide +kernel
theorem e_Qu_on_12 : decode b_Qu_on 12 = .ok (.iconst 0, 1) := by decide +kernel
theorem e_Qu_on_13 : decode b_Qu_on 13 = .ok (.bipush 60, 2) := by decide +kernel
theorem e_Qu_on_15 : decode b_Qu_on 15 = .ok (.invokestatic 60, 3) := by decide +kernel
theorem e_Qu_on_18 : decode b_Qu_on 18 = .ok (.ifCond .ne 6, 3) := by decide +kernel
theorem e_Qu_on_21 : decode b_Qu_on 21 = .ok (.bipush (-2), 2) := by decide +kernel
theorem e_Qu_on_23 : decode b_Qu_on 23 = .ok (.ireturn, 1) := by decide +kernel
theorem e_Qu_on_24 : decode b_Qu_on 24 = .ok (.aload_n 0, 1) := by decide +kernel
theorem e_Qu_on_25 : decode b_Qu_on 25 = .ok (.getfield 31, 3) := by decide +kernel
theorem e_Qu_on_28 : decode b_Qu_on 28 = .ok (.iload_n 1, 1) := by decide +kernel
theorem e_Qu_on_29 : decode b_Qu_on 29 = .ok (.iload_n 2, 1) := by decide +kernel
theorem e_Qu_on_30 : decode b_Qu_on 30 = .ok (.ifCond .ne 7, 3) := by decide +kernel
theorem e_Qu_on_33 : decode b_Qu_on 33 = .ok (.iconst 1, 1) := by decide +kernel
theorem e_Qu_on_34 : decode b_Qu_on 34 = .ok (.goto 4, 3) := by decide +kernel
theorem e_Qu_on_37 : decode b_Qu_on 37 = .ok (.iconst 0, 1) := by decide +kernel
theorem e_Qu_on_38 : decode b_Qu_on 38 = .ok (.invokevirtual 174, 3) := by decide +kernel
theorem e_Qu_on_41 : decode b_Qu_on 41 = .ok (.ireturn, 1) := by decide +kernel
theorem e_Qu_best_0 : decode b_Qu_best 0 = .ok (.iload_n 2, 1) := by decide +kernel
theorem e_Qu_best_1 : decode b_Qu_best 1 = .ok (.iconst (-1), 1) := by decide +kernel
theorem e_Qu_best_2 : decode b_Qu_best 2 = .ok (.iconst 2, 1) := by decide +kernel
theorem e_Qu_best_3 : decode b_Qu_best 3 = .ok (.invokestatic 60, 3) := by decide +kernel
theorem e_Qu_best_6 : decode b_Qu_best 6 = .ok (.ifCond .ne 5, 3) := by decide +kernel
theorem e_Qu_best_9 : decode b_Qu_best 9 = .ok (.iconst (-1), 1) := by decide +kernel
theorem e_Qu_best_10 : decode b_Qu_best 10 = .ok (.ireturn, 1) := by decide +kernel
theorem e_Qu_best_11 : decode b_Qu_best 11 = .ok (.iload_n 1, 1) := by decide +kernel
theorem e_Qu_best_12 : decode b_Qu_best 12 = .ok (.iconst 1, 1) := by decide +kernel
theorem e_Qu_best_13 : decode b_Qu_best 13 = .ok (.iconst 3, 1) := by decide +kernel
theorem e_Qu_best_14 : decode b_Qu_best 14 = .ok (.invokestatic 60, 3) := by decide +kernel
theorem e_Qu_best_17 : decode b_Qu_best 17 = .ok (.ifCond .ne 6, 3) := by decide +kernel
theorem e_Qu_best_20 : decode b_Qu_best 20 = .ok (.bipush (-2), 2) := by decide +kernel
theorem e_Qu_best_22 : decode b_Qu_best 22 = .ok (.ireturn, 1) := by decide +kernel
theorem e_Qu_best_23 : decode b_Qu_best 23 = .ok (.aload_n 0, 1) := by decide +kernel
theorem e_Qu_best_24 : decode b_Qu_best 24 = .ok (.getfield 31, 3) := by decide +kernel
theorem e_Qu_best_27 : decode b_Qu_best 27 = .ok (.iload_n 1, 1) := by decide +kernel
theorem e_Qu_best_28 : decode b_Qu_best 28 = .ok (.iload_n 2, 1) := by decide +kernel
theorem e_Qu_best_29 : decode b_Qu_best 29 = .ok (.invokevirtual 178, 3) := by decide +kernel
theorem e_Qu_best_32 : decode b_Qu_best 32 = .ok (.ireturn, 1) := by decide +kernel
theorem e_Qu_enough_0 : decode b_Qu_enough 0 = .ok (.iload_n 1, 1) := by decide +kernel
theorem e_Qu_enough_1 : decode b_Qu_enough 1 = .ok (.iconst 1, 1) := by decide +kernel
theorem e_Qu_enough_2 : decode b_Qu_enough 2 = .ok (.bipush 12, 2) := by decide +kernel
theorem e_Qu_enough_4 : decode b_Qu_enough 4 = .ok (.invokestatic 60, 3) := by decide +kernel
theorem e_Qu_enough_7 : decode b_Qu_enough 7 = .ok (.ifCond .ne 6, 3) := by decide +kernel
theorem e_Qu_enough_10 : decode b_Qu_enough 10 = .ok (.bipush (-2), 2) := by decide +kernel
theorem e_Qu_enough_12 : decode b_Qu_enough 12 = .ok (.ireturn, 1) := by decide +kernel
theorem e_Qu_enough_13 : decode b_Qu_enough 13 = .ok (.aload_n 0, 1) := by decide +kernel
theorem e_Qu_enough_14 : decode b_Qu_enough 14 = .ok (.getfield 31, 3) := by decide +kernel
theorem e_Qu_enough_17 : decode b_Qu_enough 17 = .ok (.iload_n 1, 1) := by decide +kernel
theorem e_Qu_enough_18 : decode b_Qu_enough 18 = .ok (.invokevirtual 182, 3) := by decide +kernel
theorem e_Qu_enough_21 : decode b_Qu_enough 21 = .ok (.ireturn, 1) := by decide +kernel
theorem e_Qu_flame_0 : decode b_Qu_flame 0 = .ok (.iload_n 1, 1) := by decide +kernel
theorem e_Qu_flame_1 : decode b_Qu_flame 1 = .ok (.iconst 1, 1) := by decide +kernel
theorem e_Qu_flame_2 : decode b_Qu_flame 2 = .ok (.bipush 20, 2) := by decide +kernel
theorem e_Qu_flame_4 : decode b_Qu_flame 4 = .ok (.invokestatic 60, 3) := by decide +kernel
theorem e_Qu_flame_7 : decode b_Qu_flame 7 = .ok (.ifCond .eq 14, 3) := by decide +kernel
theorem e_Qu_flame_10 : decode b_Qu_flame 10 = .ok (.iload_n 2, 1) := by decide +kernel
theorem e_Qu_flame_11 : decode b_Qu_flame 11 = .ok (.iconst 0, 1) := by decide +kernel
theorem e_Qu_flame_12 : decode b_Qu_flame 12 = .ok (.sipush 9999, 3) := by decide +kernel
theorem e_Qu_flame_15 : decode b_Qu_flame 15 = .ok (.invokestatic 60, 3) := by decide +kernel
theorem e_Qu_flame_18 : decode b_Qu_flame 18 = .ok (.ifCond .ne 6, 3) := by decide +kernel
theorem e_Qu_flame_21 : decode b_Qu_flame 21 = .ok (.bipush (-2), 2) := by decide +kernel
theorem e_Qu_flame_23 : decode b_Qu_flame 23 = .ok (.ireturn, 1) := by decide +kernel
theorem e_Qu_flame_24 : decode b_Qu_flame 24 = .ok (.aload_n 0, 1) := by decide +kernel
theorem e_Qu_flame_25 : decode b_Qu_flame 25 = .ok (.getfield 31, 3) := by decide +kernel
theorem e_Qu_flame_28 : decode b_Qu_flame 28 = .ok (.iload_n 1, 1) := by decide +kernel
theorem e_Qu_flame_29 : decode b_Qu_flame 29 = .ok (.iload_n 2, 1) := by decide +kernel
theorem e_Qu_flame_30 : decode b_Qu_flame 30 = .ok (.invokevirtual 185, 3) := by decide +kernel
theorem e_Qu_flame_33 : decode b_Qu_flame 33 = .ok (.ireturn, 1) := by decide +kernel
theorem e_Qu_see_0 : decode b_Qu_see 0 = .ok (.iload_n 1, 1) := by decide +kernel
theorem e_Qu_see_1 : decode b_Qu_see 1 = .ok (.iconst (-1), 1) := by decide +kernel
theorem e_Qu_see_2 : decode b_Qu_see 2 = .ok (.if_icmp .ne 14, 3) := by decide +kernel
theorem e_Qu_see_5 : decode b_Qu_see 5 = .ok (.aload_n 0, 1) := by decide +kernel
theorem e_Qu_see_6 : decode b_Qu_see 6 = .ok (.getfield 17, 3) := by decide +kernel
theorem e_Qu_see_9 : decode b_Qu_see 9 = .ok (.getfield 188, 3) := by decide +kernel
theorem e_Qu_see_12 : decode b_Qu_see 12 = .ok (.invokevirtual 192, 3) := by decide +kernel
theorem e_Qu_see_15 : decode b_Qu_see 15 = .ok (.ireturn, 1) := by decide +kernel
theorem e_Qu_see_16 : decode b_Qu_see 16 = .ok (.iload_n 1, 1) := by decide +kernel
theorem e_Qu_see_17 : decode b_Qu_see 17 = .ok (.iconst 0, 1) := by decide +kernel
theorem e_Qu_see_18 : decode b_Qu_see 18 = .ok (.bipush 12, 2) := by decide +kernel
theorem e_Qu_see_20 : decode b_Qu_see 20 = .ok (.invokestatic 60, 3) := by decide +kernel
theorem e_Qu_see_23 : decode b_Qu_see 23 = .ok (.ifCond .eq 14, 3) := by decide +kernel
theorem e_Qu_see_26 : decode b_Qu_see 26 = .ok (.iload_n 2, 1) := by decide +kernel
theorem e_Qu_see_27 : decode b_Qu_see 27 = .ok (.iconst 0, 1) := by decide +kernel
theorem e_Qu_see_28 : decode b_Qu_see 28 = .ok (.sipush 9999, 3) := by decide +kernel
theorem e_Qu_see_31 : decode b_Qu_see 31 = .ok (.invokestatic 60, 3) := by decide +kernel
theorem e_Qu_see_34 : decode b_Qu_see 34 = .ok (.ifCond .ne 6, 3) := by decide +kernel
theorem e_Qu_see_37 : decode b_Qu_see 37 = .ok (.bipush (-2), 2) := by decide +kernel
theorem e_Qu_see_39 : decode b_Qu_see 39 = .ok (.ireturn, 1) := by decide +kernel
theorem e_Qu_see_40 : decode b_Qu_see 40 = .ok (.aload_n 0, 1) := by decide +kernel
theorem e_Qu_see_41 : decode b_Qu_see 41 = .ok (.getfield 17, 3) := by decide +kernel
theorem e_Qu_see_44 : decode b_Qu_see 44 = .ok (.getfield 188, 3) := by decide +kernel
theorem e_Qu_see_47 : decode b_Qu_see 47 = .ok (.iload_n 1, 1) := by decide +kernel
theorem e_Qu_see_48 : decode b_Qu_see 48 = .ok (.iload_n 2, 1) := by decide +kernel
theorem e_Qu_see_49 : decode b_Qu_see 49 = .ok (.invokevirtual 196, 3) := by decide +kernel
theorem e_Qu_see_52 : decode b_Qu_see 52 = .ok (.ireturn, 1) := by decide +kernel
theorem e_Qu_can_0 : decode b_Qu_can 0 = .ok (.aload_n 0, 1) := by decide +kernel
theorem e_Qu_can_1 : decode b_Qu_can 1 = .ok (.getfield 17, 3) := by decide +kernel
theorem e_Qu_can_4 : decode b_Qu_can 4 = .ok (.getfield 64, 3) := by decide +kernel
theorem e_Qu_can_7 : decode b_Qu_can 7 = .ok (.iload_n 1, 1) := by decide +kernel
theorem e_Qu_can_8 : decode b_Qu_can 8 = .ok (.invokevirtual 74, 3) := by decide +kernel
theorem e_Qu_can_11 : decode b_Qu_can 11 = .ok (.ifnull 12, 3) := by decide +kernel
theorem e_Qu_can_14 : decode b_Qu_can 14 = .ok (.iload_n 2, 1) := by decide +kernel
theorem e_Qu_can_15 : decode b_Qu_can 15 = .ok (.iconst 0, 1) := by decide +kernel
theorem e_Qu_can_16 : decode b_Qu_can 16 = .ok (.iconst 1, 1) := by decide +kernel
theorem e_Qu_can_17 : decode b_Qu_can 17 = .ok (.invokestatic 60, 3) := by decide +kernel
theorem e_Qu_can_20 : decode b_Qu_can 20 = .ok (.ifCond .ne 5, 3) := by decide +kernel
theorem e_Qu_can_23 : decode b_Qu_can 23 = .ok (.iconst (-1), 1) := by decide +kernel
theorem e_Qu_can_24 : decode b_Qu_can 24 = .ok (.ireturn, 1) := by decide +kernel
theorem e_Qu_can_25 : decode b_Qu_can 25 = .ok (.aload_n 0, 1) := by decide +kernel
theorem e_Qu_can_26 : decode b_Qu_can 26 = .ok (.getfield 31, 3) := by decide +kernel
theorem e_Qu_can_29 : decode b_Qu_can 29 = .ok (.iload_n 1, 1) := by decide +kernel
theorem e_Qu_can_30 : decode b_Qu_can 30 = .ok (.iload_n 2, 1) := by decide +kernel
theorem e_Qu_can_31 : decode b_Qu_can 31 = .ok (.ifCond .ne 7, 3) := by decide +kernel
theorem e_Qu_can_34 : decode b_Qu_can 34 = .ok (.iconst 1, 1) := by decide +kernel
theorem e_Qu_can_35 : decode b_Qu_can 35 = .ok (.goto 4, 3) := by decide +kernel
theorem e_Qu_can_38 : decode b_Qu_can 38 = .ok (.iconst 0, 1) := by decide +kernel
theorem e_Qu_can_39 : decode b_Qu_can 39 = .ok (.invokevirtual 199, 3) := by decide +kernel
theorem e_Qu_can_42 : decode b_Qu_can 42 = .ok (.ireturn, 1) := by decide +kernel
theorem e_Qu_odds_0 : decode b_Qu_odds 0 = .ok (.aload_n 0, 1) := by decide +kernel
theorem e_Qu_odds_1 : decode b_Qu_odds 1 = .ok (.getfield 17, 3) := by decide +kernel
theorem e_Qu_odds_4 : decode b_Qu_odds 4 = .ok (.getfield 64, 3) := by decide +kernel
theorem e_Qu_odds_7 : decode b_Qu_odds 7 = .ok (.iconst 0, 1) := by decide +kernel
theorem e_Qu_odds_8 : decode b_Qu_odds 8 = .ok (.invokevirtual 110, 3) := by decide +kernel
theorem e_Qu_odds_11 : decode b_Qu_odds 11 = .ok (.istore_n 3, 1) := by decide +kernel
theorem e_Qu_odds_12 : decode b_Qu_odds 12 = .ok (.iload_n 1, 1) := by decide +kernel
theorem e_Qu_odds_13 : decode b_Qu_odds 13 = .ok (.iconst 0, 1) := by decide +kernel
theorem e_Qu_odds_14 : decode b_Qu_odds 14 = .ok (.bipush 20, 2) := by decide +kernel
theorem e_Qu_odds_16 : decode b_Qu_odds 16 = .ok (.invokestatic 60, 3) := by decide +kernel
theorem e_Qu_odds_19 : decode b_Qu_odds 19 = .ok (.ifCond .eq 16, 3) := by decide +kernel
theorem e_Qu_odds_22 : decode b_Qu_odds 22 = .ok (.iload_n 2, 1) := by decide +kernel
theorem e_Qu_odds_23 : decode b_Qu_odds 23 = .ok (.iconst 0, 1) := by decide +kernel
theorem e_Qu_odds_24 : decode b_Qu_odds 24 = .ok (.iconst 1, 1) := by decide +kernel
theorem e_Qu_odds_25 : decode b_Qu_odds 25 = .ok (.invokestatic 60, 3) := by decide +kernel
theorem e_Qu_odds_28 : decode b_Qu_odds 28 = .ok (.ifCond .eq 7, 3) := by decide +kernel
theorem e_Qu_odds_31 : decode b_Qu_odds 31 = .ok (.iload_n 3, 1) := by decide +kernel
theorem e_Qu_odds_32 : decode b_Qu_odds 32 = .ok (.ifCond .ne 7, 3) := by decide +kernel
theorem e_Qu_odds_35 : decode b_Qu_odds 35 = .ok (.ldc2_w 202, 3) := by decide +kernel
theorem e_Qu_odds_38 : decode b_Qu_odds 38 = .ok (.lreturn, 1) := by decide +kernel
theorem e_Qu_odds_39 : decode b_Qu_odds 39 = .ok (.aload_n 0, 1) := by decide +kernel
theorem e_Qu_odds_40 : decode b_Qu_odds 40 = .ok (.getfield 31, 3) := by decide +kernel
theorem e_Qu_odds_43 : decode b_Qu_odds 43 = .ok (.iload_n 1, 1) := by decide +kernel
theorem e_Qu_odds_44 : decode b_Qu_odds 44 = .ok (.invokevirtual 204, 3) := by decide +kernel
theorem e_Qu_odds_47 : decode b_Qu_odds 47 = .ok (.iload_n 3, 1) := by decide +kernel
theorem e_Qu_odds_48 : decode b_Qu_odds 48 = .ok (.iload_n 2, 1) := by decide +kernel
theorem e_Qu_odds_49 : decode b_Qu_odds 49 = .ok (.invokestatic 207, 3) := by decide +kernel
theorem e_Qu_odds_52 : decode b_Qu_odds 52 = .ok (.lreturn, 1) := by decide +kernel
theorem e_Qu_mean_0 : decode b_Qu_mean 0 = .ok (.aload_n 0, 1) := by decide +kernel
theorem e_Qu_mean_1 : decode b_Qu_mean 1 = .ok (.getfield 17, 3) := by decide +kernel
theorem e_Qu_mean_4 : decode b_Qu_mean 4 = .ok (.getfield 64, 3) := by decide +kernel
theorem e_Qu_mean_7 : decode b_Qu_mean 7 = .ok (.iconst 1, 1) := by decide +kernel
theorem e_Qu_mean_8 : decode b_Qu_mean 8 = .ok (.invokevirtual 110, 3) := by decide +kernel
theorem e_Qu_mean_11 : decode b_Qu_mean 11 = .ok (.istore_n 2, 1) := by decide +kernel
theorem e_Qu_mean_12 : decode b_Qu_mean 12 = .ok (.iload_n 1, 1) := by decide +kernel
theorem e_Qu_mean_13 : decode b_Qu_mean 13 = .ok (.iconst 0, 1) := by decide +kernel
theorem e_Qu_mean_14 : decode b_Qu_mean 14 = .ok (.iconst 1, 1) := by decide +kernel
theorem e_Qu_mean_15 : decode b_Qu_mean 15 = .ok (.invokestatic 60, 3) := by decide +kernel
theorem e_Qu_mean_18 : decode b_Qu_mean 18 = .ok (.ifCond .eq 7, 3) := by decide +kernel
theorem e_Qu_mean_21 : decode b_Qu_mean 21 = .ok (.iload_n 2, 1) := by decide +kernel
theorem e_Qu_mean_22 : decode b_Qu_mean 22 = .ok (.ifCond .ne 7, 3) := by decide +kernel
theorem e_Qu_mean_25 : decode b_Qu_mean 25 = .ok (.ldc2_w 202, 3) := by decide +kernel
theorem e_Qu_mean_28 : decode b_Qu_mean 28 = .ok (.lreturn, 1) := by decide +kernel
theorem e_Qu_mean_29 : decode b_Qu_mean 29 = .ok (.aload_n 0, 1) := by decide +kernel
theorem e_Qu_mean_30 : decode b_Qu_mean 30 = .ok (.getfield 17, 3) := by decide +kernel
theorem e_Qu_mean_33 : decode b_Qu_mean 33 = .ok (.getfield 64, 3) := by decide +kernel
theorem e_Qu_mean_36 : decode b_Qu_mean 36 = .ok (.invokevirtual 167, 3) := by decide +kernel
theorem e_Qu_mean_39 : decode b_Qu_mean 39 = .ok (.iload_n 2, 1) := by decide +kernel
theorem e_Qu_mean_40 : decode b_Qu_mean 40 = .ok (.iload_n 1, 1) := by decide +kernel
theorem e_Qu_mean_41 : decode b_Qu_mean 41 = .ok (.invokestatic 207, 3) := by decide +kernel
theorem e_Qu_mean_44 : decode b_Qu_mean 44 = .ok (.lreturn, 1) := by decide +kernel
theorem e_Qu_plan_0 : decode b_Qu_plan 0 = .ok (.iload_n 1, 1) := by decide +kernel
theorem e_Qu_plan_1 : decode b_Qu_plan 1 = .ok (.iconst (-1), 1) := by decide +kernel
theorem e_Qu_plan_2 : decode b_Qu_plan 2 = .ok (.if_icmp .ne 14, 3) := by decide +kernel
theorem e_Qu_plan_5 : decode b_Qu_plan 5 = .ok (.aload_n 0, 1) := by decide +kernel
theorem e_Qu_plan_6 : decode b_Qu_plan 6 = .ok (.getfield 17, 3) := by decide +kernel
theorem e_Qu_plan_9 : decode b_Qu_plan 9 = .ok (.getfield 211, 3) := by decide +kernel
theorem e_Qu_plan_12 : decode b_Qu_plan 12 = .ok (.invokevirtual 192, 3) := by decide +kernel
theorem e_Qu_plan_15 : decode b_Qu_plan 15 = .ok (.ireturn, 1) := by decide +kernel
theorem e_Qu_plan_16 : decode b_Qu_plan 16 = .ok (.iload_n 1, 1) := by decide +kernel
theorem e_Qu_plan_17 : decode b_Qu_plan 17 = .ok (.iconst 0, 1) := by decide +kernel
theorem e_Qu_plan_18 : decode b_Qu_plan 18 = .ok (.iconst 3, 1) := by decide +kernel
theorem e_Qu_plan_19 : decode b_Qu_plan 19 = .ok (.invokestatic 60, 3) := by decide +kernel
theorem e_Qu_plan_22 : decode b_Qu_plan 22 = .ok (.ifCond .ne 5, 3) := by decide +kernel
theorem e_Qu_plan_25 : decode b_Qu_plan 25 = .ok (.iconst (-1), 1) := by decide +kernel
theorem e_Qu_plan_26 : decode b_Qu_plan 26 = .ok (.ireturn, 1) := by decide +kernel
theorem e_Qu_plan_27 : decode b_Qu_plan 27 = .ok (.iload_n 1, 1) := by decide +kernel
theorem e_Qu_plan_28 : decode b_Qu_plan 28 = .ok (.iconst 1, 1) := by decide +kernel
theorem e_Qu_plan_29 : decode b_Qu_plan 29 = .ok (.if_icmp .eq 8, 3) := by decide +kernel
theorem e_Qu_plan_32 : decode b_Qu_plan 32 = .ok (.iload_n 1, 1) := by decide +kernel
theorem e_Qu_plan_33 : decode b_Qu_plan 33 = .ok (.iconst 2, 1) := by decide +kernel
theorem e_Qu_plan_34 : decode b_Qu_plan 34 = .ok (.if_icmp .ne 19, 3) := by decide +kernel
theorem e_Qu_plan_37 : decode b_Qu_plan 37 = .ok (.aload_n 0, 1) := by decide +kernel
theorem e_Qu_plan_38 : decode b_Qu_plan 38 = .ok (.getfield 17, 3) := by decide +kernel
theorem e_Qu_plan_41 : decode b_Qu_plan 41 = .ok (.getfield 64, 3) := by decide +kernel
theorem e_Qu_plan_44 : decode b_Qu_plan 44 = .ok (.iload_n 2, 1) := by decide +kernel
theorem e_Qu_plan_45 : decode b_Qu_plan 45 = .ok (.invokevirtual 74, 3) := by decide +kernel
theorem e_Qu_plan_48 : decode b_Qu_plan 48 = .ok (.ifnonnull 5, 3) := by decide +kernel
theorem e_Qu_plan_51 : decode b_Qu_plan 51 = .ok (.iconst (-1), 1) := by decide +kernel
theorem e_Qu_plan_52 : decode b_Qu_plan 52 = .ok (.ireturn, 1) := by decide +kernel
theorem e_Qu_plan_53 : decode b_Qu_plan 53 = .ok (.iload_n 1, 1) := by decide +kernel
theorem e_Qu_plan_54 : decode b_Qu_plan 54 = .ok (.iconst 3, 1) := by decide +kernel
theorem e_Qu_plan_55 : decode b_Qu_plan 55 = .ok (.if_icmp .ne 16, 3) := by decide +kernel
theorem e_Qu_plan_58 : decode b_Qu_plan 58 = .ok (.iload_n 2, 1) := by decide +kernel
theorem e_Qu_plan_59 : decode b_Qu_plan 59 = .ok (.iconst 0, 1) := by decide +kernel
theorem e_Qu_plan_60 : decode b_Qu_plan 60 = .ok (.bipush 9, 2) := by decide +kernel
theorem e_Qu_plan_62 : decode b_Qu_plan 62 = .ok (.invokestatic 60, 3) := by decide +kernel
theorem e_Qu_plan_65 : decode b_Qu_plan 65 = .ok (.ifCond .ne 6, 3) := by decide +kernel
theorem e_Qu_plan_68 : decode b_Qu_plan 68 = .ok (.bipush (-2), 2) := by decide +kernel
theorem e_Qu_plan_70 : decode b_Qu_plan 70 = .ok (.ireturn, 1) := by decide +kernel
theorem e_Qu_plan_71 : decode b_Qu_plan 71 = .ok (.aload_n 0, 1) := by decide +kernel
theorem e_Qu_plan_72 : decode b_Qu_plan 72 = .ok (.getfield 17, 3) := by decide +kernel
theorem e_Qu_plan_75 : decode b_Qu_plan 75 = .ok (.getfield 211, 3) := by decide +kernel
theorem e_Qu_plan_78 : decode b_Qu_plan 78 = .ok (.iload_n 1, 1) := by decide +kernel
theorem e_Qu_plan_79 : decode b_Qu_plan 79 = .ok (.iload_n 2, 1) := by decide +kernel
theorem e_Qu_plan_80 : decode b_Qu_plan 80 = .ok (.invokevirtual 196, 3) := by decide +kernel
theorem e_Qu_plan_83 : decode b_Qu_plan 83 = .ok (.ireturn, 1) := by decide +kernel
theorem e_Qu_ends_0 : decode b_Qu_ends 0 = .ok (.iload_n 1, 1) := by decide +kernel
theorem e_Qu_ends_1 : decode b_Qu_ends 1 = .ok (.iconst 0, 1) := by decide +kernel
theorem e_Qu_ends_2 : decode b_Qu_ends 2 = .ok (.iconst 1, 1) := by decide +kernel
theorem e_Qu_ends_3 : decode b_Qu_ends 3 = .ok (.invokestatic 60, 3) := by decide +kernel
theorem e_Qu_ends_6 : decode b_Qu_ends 6 = .ok (.ifCond .ne 5, 3) := by decide +kernel
theorem e_Qu_ends_9 : decode b_Qu_ends 9 = .ok (.iconst (-1), 1) := by decide +kernel
theorem e_Qu_ends_10 : decode b_Qu_ends 10 = .ok (.ireturn, 1) := by decide +kernel
theorem e_Qu_ends_11 : decode b_Qu_ends 11 = .ok (.aload_n 0, 1) := by decide +kernel
theorem e_Qu_ends_12 : decode b_Qu_ends 12 = .ok (.getfield 31, 3) := by decide +kernel
theorem e_Qu_ends_15 : decode b_Qu_ends 15 = .ok (.iload_n 1, 1) := by decide +kernel
theorem e_Qu_ends_16 : decode b_Qu_ends 16 = .ok (.ifCond .ne 7, 3) := by decide +kernel
theorem e_Qu_ends_19 : decode b_Qu_ends 19 = .ok (.iconst 1, 1) := by decide +kernel
theorem e_Qu_ends_20 : decode b_Qu_ends 20 = .ok (.goto 4, 3) := by decide +kernel
theorem e_Qu_ends_23 : decode b_Qu_ends 23 = .ok (.iconst 0, 1) := by decide +kernel
theorem e_Qu_ends_24 : decode b_Qu_ends 24 = .ok (.invokevirtual 214, 3) := by decide +kernel
theorem e_Qu_ends_27 : decode b_Qu_ends 27 = .ok (.ireturn, 1) := by decide +kernel
theorem e_Qu_book_0 : decode b_Qu_book 0 = .ok (.iload_n 1, 1) := by decide +kernel
theorem e_Qu_book_1 : decode b_Qu_book 1 = .ok (.iconst (-1), 1) := by decide +kernel
theorem e_Qu_book_2 : decode b_Qu_book 2 = .ok (.if_icmp .ne 14, 3) := by decide +kernel
theorem e_Qu_book_5 : decode b_Qu_book 5 = .ok (.aload_n 0, 1) := by decide +kernel
theorem e_Qu_book_6 : decode b_Qu_book 6 = .ok (.getfield 17, 3) := by decide +kernel
theorem e_Qu_book_9 : decode b_Qu_book 9 = .ok (.getfield 218, 3) := by decide +kernel
theorem e_Qu_book_12 : decode b_Qu_book 12 = .ok (.invokevirtual 192, 3) := by decide +kernel
theorem e_Qu_book_15 : decode b_Qu_book 15 = .ok (.ireturn, 1) := by decide +kernel
theorem e_Qu_book_16 : decode b_Qu_book 16 = .ok (.aload_n 0, 1) := by decide +kernel
theorem e_Qu_book_17 : decode b_Qu_book 17 = .ok (.getfield 17, 3) := by decide +kernel
theorem e_Qu_book_20 : decode b_Qu_book 20 = .ok (.getfield 64, 3) := by decide +kernel
theorem e_Qu_book_23 : decode b_Qu_book 23 = .ok (.iload_n 1, 1) := by decide +kernel
theorem e_Qu_book_24 : decode b_Qu_book 24 = .ok (.invokevirtual 74, 3) := by decide +kernel
theorem e_Qu_book_27 : decode b_Qu_book 27 = .ok (.ifnonnull 5, 3) := by decide +kernel
theorem e_Qu_book_30 : decode b_Qu_book 30 = .ok (.iconst (-1), 1) := by decide +kernel
theorem e_Qu_book_31 : decode b_Qu_book 31 = .ok (.ireturn, 1) := by decide +kernel
theorem e_Qu_book_32 : decode b_Qu_book 32 = .ok (.iload_n 2, 1) := by decide +kernel
theorem e_Qu_book_33 : decode b_Qu_book 33 = .ok (.iconst 0, 1) := by decide +kernel
theorem e_Qu_book_34 : decode b_Qu_book 34 = .ok (.bipush 20, 2) := by decide +kernel
theorem e_Qu_book_36 : decode b_Qu_book 36 = .ok (.invokestatic 60, 3) := by decide +kernel
theorem e_Qu_book_39 : decode b_Qu_book 39 = .ok (.ifCond .ne 6, 3) := by decide +kernel
theorem e_Qu_book_42 : decode b_Qu_book 42 = .ok (.bipush (-2), 2) := by decide +kernel
theorem e_Qu_book_44 : decode b_Qu_book 44 = .ok (.ireturn, 1) := by decide +kernel
theorem e_Qu_book_45 : decode b_Qu_book 45 = .ok (.aload_n 0, 1) := by decide +kernel
theorem e_Qu_book_46 : decode b_Qu_book 46 = .ok (.getfield 17, 3) := by decide +kernel
theorem e_Qu_book_49 : decode b_Qu_book 49 = .ok (.getfield 218, 3) := by decide +kernel
theorem e_Qu_book_52 : decode b_Qu_book 52 = .ok (.iload_n 1, 1) := by decide +kernel
theorem e_Qu_book_53 : decode b_Qu_book 53 = .ok (.iload_n 2, 1) := by decide +kernel
theorem e_Qu_book_54 : decode b_Qu_book 54 = .ok (.invokevirtual 196, 3) := by decide +kernel
theorem e_Qu_book_57 : decode b_Qu_book 57 = .ok (.ireturn, 1) := by decide +kernel
theorem e_Qu_looked_0 : decode b_Qu_looked 0 = .ok (.iconst 0, 1) := by decide +kernel
theorem e_Qu_looked_1 : decode b_Qu_looked 1 = .ok (.istore_n 1, 1) := by decide +kernel
theorem e_Qu_looked_2 : decode b_Qu_looked 2 = .ok (.iload_n 1, 1) := by decide +kernel
theorem e_Qu_looked_3 : decode b_Qu_looked 3 = .ok (.aload_n 0, 1) := by decide +kernel
theorem e_Qu_looked_4 : decode b_Qu_looked 4 = .ok (.getfield 17, 3) := by decide +kernel
theorem e_Qu_looked_7 : decode b_Qu_looked 7 = .ok (.getfield 218, 3) := by decide +kernel
theorem e_Qu_looked_10 : decode b_Qu_looked 10 = .ok (.getfield 221, 3) := by decide +kernel
theorem e_Qu_looked_13 : decode b_Qu_looked 13 = .ok (.if_icmp .ge 55, 3) := by decide +kernel
theorem e_Qu_looked_16 : decode b_Qu_looked 16 = .ok (.aload_n 0, 1) := by decide +kernel
theorem e_Qu_looked_17 : decode b_Qu_looked 17 = .ok (.getfield 17, 3) := by decide +kernel
theorem e_Qu_looked_20 : decode b_Qu_looked 20 = .ok (.getfield 64, 3) := by decide +kernel
theorem e_Qu_looked_23 : decode b_Qu_looked 23 = .ok (.aload_n 0, 1) := by decide +kernel
theorem e_Qu_looked_24 : decode b_Qu_looked 24 = .ok (.getfield 17, 3) := by decide +kernel
theorem e_Qu_looked_27 : decode b_Qu_looked 27 = .ok (.getfield 218, 3) := by decide +kernel
theorem e_Qu_looked_30 : decode b_Qu_looked 30 = .ok (.iload_n 1, 1) := by decide +kernel
theorem e_Qu_looked_31 : decode b_Qu_looked 31 = .ok (.invokevirtual 224, 3) := by decide +kernel
theorem e_Qu_looked_34 : decode b_Qu_looked 34 = .ok (.invokevirtual 74, 3) := by decide +kernel
theorem e_Qu_looked_37 : decode b_Qu_looked 37 = .ok (.astore_n 2, 1) := by decide +kernel
theorem e_Qu_looked_38 : decode b_Qu_looked 38 = .ok (.aload_n 2, 1) := by decide +kernel
theorem e_Qu_looked_39 : decode b_Qu_looked 39 = .ok (.ifnull 21, 3) := by decide +kernel
theorem e_Qu_looked_42 : decode b_Qu_looked 42 = .ok (.aload_n 2, 1) := by decide +kernel
theorem e_Qu_looked_43 : decode b_Qu_looked 43 = .ok (.getfield 87, 3) := by decide +kernel
theorem e_Qu_looked_46 : decode b_Qu_looked 46 = .ok (.aload_n 0, 1) := by decide +kernel
theorem e_Qu_looked_47 : decode b_Qu_looked 47 = .ok (.getfield 17, 3) := by decide +kernel
theorem e_Qu_looked_50 : decode b_Qu_looked 50 = .ok (.getfield 218, 3) := by decide +kernel
theorem e_Qu_looked_53 : decode b_Qu_looked 53 = .ok (.iload_n 1, 1) := by decide +kernel
theorem e_Qu_looked_54 : decode b_Qu_looked 54 = .ok (.invokevirtual 227, 3) := by decide +kernel
theorem e_Qu_looked_57 : decode b_Qu_looked 57 = .ok (.if_icmp .eq 5, 3) := by decide +kernel
theorem e_Qu_looked_60 : decode b_Qu_looked 60 = .ok (.iload_n 1, 1) := by decide +kernel
theorem e_Qu_looked_61 : decode b_Qu_looked 61 = .ok (.ireturn, 1) := by decide +kernel
theorem e_Qu_looked_62 : decode b_Qu_looked 62 = .ok (.iinc 1 1, 3) := by decide +kernel
theorem e_Qu_looked_65 : decode b_Qu_looked 65 = .ok (.goto (-63), 3) := by decide +kernel
theorem e_Qu_looked_68 : decode b_Qu_looked 68 = .ok (.bipush (-5), 2) := by decide +kernel
theorem e_Qu_looked_70 : decode b_Qu_looked 70 = .ok (.ireturn, 1) := by decide +kernel
theorem e_Qu_judge_0 : decode b_Qu_judge 0 = .ok (.iload_n 1, 1) := by decide +kernel
theorem e_Qu_judge_1 : decode b_Qu_judge 1 = .ok (.iconst 0, 1) := by decide +kernel
theorem e_Qu_judge_2 : decode b_Qu_judge 2 = .ok (.iconst 5, 1) := by decide +kernel
theorem e_Qu_judge_3 : decode b_Qu_judge 3 = .ok (.invokestatic 60, 3) := by decide +kernel
theorem e_Qu_judge_6 : decode b_Qu_judge 6 = .ok (.ifCond .ne 5, 3) := by decide +kernel
theorem e_Qu_judge_9 : decode b_Qu_judge 9 = .ok (.iconst (-1), 1) := by decide +kernel
theorem e_Qu_judge_10 : decode b_Qu_judge 10 = .ok (.ireturn, 1) := by decide +kernel
theorem e_Qu_judge_11 : decode b_Qu_judge 11 = .ok (.aload_n 0, 1) := by decide +kernel
theorem e_Qu_judge_12 : decode b_Qu_judge 12 = .ok (.getfield 55, 3) := by decide +kernel
theorem e_Qu_judge_15 : decode b_Qu_judge 15 = .ok (.iload_n 1, 1) := by decide +kernel
theorem e_Qu_judge_16 : decode b_Qu_judge 16 = .ok (.aaload, 1) := by decide +kernel
theorem e_Qu_judge_17 : decode b_Qu_judge 17 = .ok (.astore_n 3, 1) := by decide +kernel
theorem e_Qu_judge_18 : decode b_Qu_judge 18 = .ok (.aload_n 3, 1) := by decide +kernel
theorem e_Qu_judge_19 : decode b_Qu_judge 19 = .ok (.getfield 230, 3) := by decide +kernel
theorem e_Qu_judge_22 : decode b_Qu_judge 22 = .ok (.iconst 3, 1) := by decide +kernel
theorem e_Qu_judge_23 : decode b_Qu_judge 23 = .ok (.if_icmp .eq 14, 3) := by decide +kernel
theorem e_Qu_judge_26 : decode b_Qu_judge 26 = .ok (.aload_n 3, 1) := by decide +kernel
theorem e_Qu_judge_27 : decode b_Qu_judge 27 = .ok (.getfield 230, 3) := by decide +kernel
theorem e_Qu_judge_30 : decode b_Qu_judge 30 = .ok (.iconst (-1), 1) := by decide +kernel
theorem e_Qu_judge_31 : decode b_Qu_judge 31 = .ok (.if_icmp .eq 6, 3) := by decide +kernel
theorem e_Qu_judge_34 : decode b_Qu_judge 34 = .ok (.bipush (-12), 2) := by decide +kernel
theorem e_Qu_judge_36 : decode b_Qu_judge 36 = .ok (.ireturn, 1) := by decide +kernel
theorem e_Qu_judge_37 : decode b_Qu_judge 37 = .ok (.aload_n 0, 1) := by decide +kernel
theorem e_Qu_judge_38 : decode b_Qu_judge 38 = .ok (.getfield 17, 3) := by decide +kernel
theorem e_Qu_judge_41 : decode b_Qu_judge 41 = .ok (.getfield 64, 3) := by decide +kernel
theorem e_Qu_judge_44 : decode b_Qu_judge 44 = .ok (.aload_n 3, 1) := by decide +kernel
theorem e_Qu_judge_45 : decode b_Qu_judge 45 = .ok (.iload_n 2, 1) := by decide +kernel
theorem e_Qu_judge_46 : decode b_Qu_judge 46 = .ok (.invokevirtual 233, 3) := by decide +kernel
theorem e_Qu_judge_49 : decode b_Qu_judge 49 = .ok (.ireturn, 1) := by decide +kernel
theorem e_Qu_image_0 : decode b_Qu_image 0 = .ok (.aload_n 0, 1) := by decide +kernel
theorem e_Qu_image_1 : decode b_Qu_image 1 = .ok (.getfield 23, 3) := by decide +kernel
theorem e_Qu_image_4 : decode b_Qu_image 4 = .ok (.aload_n 0, 1) := by decide +kernel
theorem e_Qu_image_5 : decode b_Qu_image 5 = .ok (.getfield 17, 3) := by decide +kernel
theorem e_Qu_image_8 : decode b_Qu_image 8 = .ok (.invokevirtual 237, 3) := by decide +kernel
theorem e_Qu_image_11 : decode b_Qu_image 11 = .ok (.aload_n 0, 1) := by decide +kernel
theorem e_Qu_image_12 : decode b_Qu_image 12 = .ok (.iconst 1, 1) := by decide +kernel
theorem e_Qu_image_13 : decode b_Qu_image 13 = .ok (.putfield 241, 3) := by decide +kernel
theorem e_Qu_image_16 : decode b_Qu_image 16 = .ok (.aload_n 0, 1) := by decide +kernel
theorem e_Qu_image_17 : decode b_Qu_image 17 = .ok (.getfield 17, 3) := by decide +kernel
theorem e_Qu_image_20 : decode b_Qu_image 20 = .ok (.getfield 64, 3) := by decide +kernel
theorem e_Qu_image_23 : decode b_Qu_image 23 = .ok (.getfield 244, 3) := by decide +kernel
theorem e_Qu_image_26 : decode b_Qu_image 26 = .ok (.ireturn, 1) := by decide +kernel
theorem e_Qu_undo_0 : decode b_Qu_undo 0 = .ok (.aload_n 0, 1) := by decide +kernel
theorem e_Qu_undo_1 : decode b_Qu_undo 1 = .ok (.getfield 241, 3) := by decide +kernel
theorem e_Qu_undo_4 : decode b_Qu_undo 4 = .ok (.ifCond .ne 6, 3) := by decide +kernel
theorem e_Qu_undo_7 : decode b_Qu_undo 7 = .ok (.bipush (-3), 2) := by decide +kernel
theorem e_Qu_undo_9 : decode b_Qu_undo 9 = .ok (.ireturn, 1) := by decide +kernel
theorem e_Qu_undo_10 : decode b_Qu_undo 10 = .ok (.aload_n 0, 1) := by decide +kernel
theorem e_Qu_undo_11 : decode b_Qu_undo 11 = .ok (.getfield 17, 3) := by decide +kernel
theorem e_Qu_undo_14 : decode b_Qu_undo 14 = .ok (.aload_n 0, 1) := by decide +kernel
theorem e_Qu_undo_15 : decode b_Qu_undo 15 = .ok (.getfield 23, 3) := by decide +kernel
theorem e_Qu_undo_18 : decode b_Qu_undo 18 = .ok (.invokevirtual 237, 3) := by decide +kernel
theorem e_Qu_undo_21 : decode b_Qu_undo 21 = .ok (.aload_n 0, 1) := by decide +kernel
theorem e_Qu_undo_22 : decode b_Qu_undo 22 = .ok (.getfield 17, 3) := by decide +kernel
theorem e_Qu_undo_25 : decode b_Qu_undo 25 = .ok (.getfield 64, 3) := by decide +kernel
theorem e_Qu_undo_28 : decode b_Qu_undo 28 = .ok (.getfield 244, 3) := by decide +kernel
theorem e_Qu_undo_31 : decode b_Qu_undo 31 = .ok (.ireturn, 1) := by decide +kernel
theorem e_Qu_act_0 : decode b_Qu_act 0 = .ok (.aload_n 0, 1) := by decide +kernel
theorem e_Qu_act_1 : decode b_Qu_act 1 = .ok (.getfield 49, 3) := by decide +kernel
theorem e_Qu_act_4 : decode b_Qu_act 4 = .ok (.invokevirtual 245, 3) := by decide +kernel
theorem e_Qu_act_7 : decode b_Qu_act 7 = .ok (.aload_n 0, 1) := by decide +kernel
theorem e_Qu_act_8 : decode b_Qu_act 8 = .ok (.getfield 17, 3) := by decide +kernel
theorem e_Qu_act_11 : decode b_Qu_act 11 = .ok (.getfield 64, 3) := by decide +kernel
theorem e_Qu_act_14 : decode b_Qu_act 14 = .ok (.iload_n 1, 1) := by decide +kernel
theorem e_Qu_act_15 : decode b_Qu_act 15 = .ok (.invokevirtual 74, 3) := by decide +kernel
theorem e_Qu_act_18 : decode b_Qu_act 18 = .ok (.astore 4, 2) := by decide +kernel
theorem e_Qu_act_20 : decode b_Qu_act 20 = .ok (.aload 4, 2) := by decide +kernel
theorem e_Qu_act_22 : decode b_Qu_act 22 = .ok (.ifnull 12, 3) := by decide +kernel
theorem e_Qu_act_25 : decode b_Qu_act 25 = .ok (.iload_n 2, 1) := by decide +kernel
theorem e_Qu_act_26 : decode b_Qu_act 26 = .ok (.iconst 0, 1) := by decide +kernel
theorem e_Qu_act_27 : decode b_Qu_act 27 = .ok (.iconst 2, 1) := by decide +kernel
theorem e_Qu_act_28 : decode b_Qu_act 28 = .ok (.invokestatic 60, 3) := by decide +kernel
theorem e_Qu_act_31 : decode b_Qu_act 31 = .ok (.ifCond .ne 5, 3) := by decide +kernel
theorem e_Qu_act_34 : decode b_Qu_act 34 = .ok (.iconst 0, 1) := by decide +kernel
theorem e_Qu_act_35 : decode b_Qu_act 35 = .ok (.ireturn, 1) := by decide +kernel
theorem e_Qu_act_36 : decode b_Qu_act 36 = .ok (.aload_n 0, 1) := by decide +kernel
theorem e_Qu_act_37 : decode b_Qu_act 37 = .ok (.getfield 49, 3) := by decide +kernel
theorem e_Qu_act_40 : decode b_Qu_act 40 = .ok (.aload 4, 2) := by decide +kernel
theorem e_Qu_act_42 : decode b_Qu_act 42 = .ok (.iload_n 2, 1) := by decide +kernel
theorem e_Qu_act_43 : decode b_Qu_act 43 = .ok (.iload_n 3, 1) := by decide +kernel
theorem e_Qu_act_44 : decode b_Qu_act 44 = .ok (.invokevirtual 248, 3) := by decide +kernel
theorem e_Qu_act_47 : decode b_Qu_act 47 = .ok (.ireturn, 1) := by decide +kernel
theorem e_Qu_trace_0 : decode b_Qu_trace 0 = .ok (.aload_n 0, 1) := by decide +kernel
theorem e_Qu_trace_1 : decode b_Qu_trace 1 = .ok (.getfield 49, 3) := by decide +kernel
theorem e_Qu_trace_4 : decode b_Qu_trace 4 = .ok (.iload_n 1, 1) := by decide +kernel
theorem e_Qu_trace_5 : decode b_Qu_trace 5 = .ok (.invokevirtual 252, 3) := by decide +kernel
theorem e_Qu_trace_8 : decode b_Qu_trace 8 = .ok (.ireturn, 1) := by decide +kernel
theorem e_Qu_taken_0 : decode b_Qu_taken 0 = .ok (.iload_n 2, 1) := by decide +kernel
theorem e_Qu_taken_1 : decode b_Qu_taken 1 = .ok (.iconst 0, 1) := by decide +kernel
theorem e_Qu_taken_2 : decode b_Qu_taken 2 = .ok (.bipush 6, 2) := by decide +kernel
theorem e_Qu_taken_4 : decode b_Qu_taken 4 = .ok (.invokestatic 60, 3) := by decide +kernel
theorem e_Qu_taken_7 : decode b_Qu_taken 7 = .ok (.ifCond .ne 6, 3) := by decide +kernel
theorem e_Qu_taken_10 : decode b_Qu_taken 10 = .ok (.bipush (-2), 2) := by decide +kernel
theorem e_Qu_taken_12 : decode b_Qu_taken 12 = .ok (.ireturn, 1) := by decide +kernel
theorem e_Qu_taken_13 : decode b_Qu_taken 13 = .ok (.aload_n 0, 1) := by decide +kernel
theorem e_Qu_taken_14 : decode b_Qu_taken 14 = .ok (.getfield 17, 3) := by decide +kernel
theorem e_Qu_taken_17 : decode b_Qu_taken 17 = .ok (.getfield 64, 3) := by decide +kernel
theorem e_Qu_taken_20 : decode b_Qu_taken 20 = .ok (.iload_n 1, 1) := by decide +kernel
theorem e_Qu_taken_21 : decode b_Qu_taken 21 = .ok (.invokevirtual 74, 3) := by decide +kernel
theorem e_Qu_taken_24 : decode b_Qu_taken 24 = .ok (.astore_n 3, 1) := by decide +kernel
theorem e_Qu_taken_25 : decode b_Qu_taken 25 = .ok (.aload_n 3, 1) := by decide +kernel
theorem e_Qu_taken_26 : decode b_Qu_taken 26 = .ok (.ifnonnull 6, 3) := by decide +kernel
theorem e_Qu_taken_29 : decode b_Qu_taken 29 = .ok (.bipush (-11), 2) := by decide +kernel
theorem e_Qu_taken_31 : decode b_Qu_taken 31 = .ok (.ireturn, 1) := by decide +kernel
theorem e_Qu_taken_32 : decode b_Qu_taken 32 = .ok (.aload_n 3, 1) := by decide +kernel
theorem e_Qu_taken_33 : decode b_Qu_taken 33 = .ok (.iload_n 2, 1) := by decide +kernel
theorem e_Qu_taken_34 : decode b_Qu_taken 34 = .ok (.invokevirtual 255, 3) := by decide +kernel
theorem e_Qu_taken_37 : decode b_Qu_taken 37 = .ok (.ifCond .eq 10, 3) := by decide +kernel
theorem e_Qu_taken_40 : decode b_Qu_taken 40 = .ok (.aload_n 3, 1) := by decide +kernel
theorem e_Qu_taken_41 : decode b_Qu_taken 41 = .ok (.getfield 78, 3) := by decide +kernel
theorem e_Qu_taken_44 : decode b_Qu_taken 44 = .ok (.goto 5, 3) := by decide +kernel
theorem e_Qu_taken_47 : decode b_Qu_taken 47 = .ok (.bipush (-12), 2) := by decide +kernel
theorem e_Qu_taken_49 : decode b_Qu_taken 49 = .ok (.ireturn, 1) := by decide +kernel
theorem e_Qu_count_0 : decode b_Qu_count 0 = .ok (.iload_n 1, 1) := by decide +kernel
theorem e_Qu_count_1 : decode b_Qu_count 1 = .ok (.tableswitch 108 0 6 #[43, 54, 59, 70, 81, 92, 100], 43) := by decide +kernel
theorem e_Qu_count_44 : decode b_Qu_count 44 = .ok (.aload_n 0, 1) := by decide +kernel
theorem e_Qu_count_45 : decode b_Qu_count 45 = .ok (.getfield 17, 3) := by decide +kernel
theorem e_Qu_count_48 : decode b_Qu_count 48 = .ok (.getfield 64, 3) := by decide +kernel
theorem e_Qu_count_51 : decode b_Qu_count 51 = .ok (.getfield 244, 3) := by decide +kernel
theorem e_Qu_count_54 : decode b_Qu_count 54 = .ok (.ireturn, 1) := by decide +kernel
theorem e_Qu_count_55 : decode b_Qu_count 55 = .ok (.aload_n 0, 1) := by decide +kernel
theorem e_Qu_count_56 : decode b_Qu_count 56 = .ok (.getfield 133, 3) := by decide +kernel
theorem e_Qu_count_59 : decode b_Qu_count 59 = .ok (.ireturn, 1) := by decide +kernel
theorem e_Qu_count_60 : decode b_Qu_count 60 = .ok (.aload_n 0, 1) := by decide +kernel
theorem e_Qu_count_61 : decode b_Qu_count 61 = .ok (.getfield 17, 3) := by decide +kernel
theorem e_Qu_count_64 : decode b_Qu_count 64 = .ok (.getfield 188, 3) := by decide +kernel
theorem e_Qu_count_67 : decode b_Qu_count 67 = .ok (.getfield 221, 3) := by decide +kernel
theorem e_Qu_count_70 : decode b_Qu_count 70 = .ok (.ireturn, 1) := by decide +kernel
theorem e_Qu_count_71 : decode b_Qu_count 71 = .ok (.aload_n 0, 1) := by decide +kernel
theorem e_Qu_count_72 : decode b_Qu_count 72 = .ok (.getfield 17, 3) := by decide +kernel
theorem e_Qu_count_75 : decode b_Qu_count 75 = .ok (.getfield 211, 3) := by decide +kernel
theorem e_Qu_count_78 : decode b_Qu_count 78 = .ok (.getfield 221, 3) := by decide +kernel
theorem e_Qu_count_81 : decode b_Qu_count 81 = .ok (.ireturn, 1) := by decide +kernel
theorem e_Qu_count_82 : decode b_Qu_count 82 = .ok (.aload_n 0, 1) := by decide +kernel
theorem e_Qu_count_83 : decode b_Qu_count 83 = .ok (.getfield 17, 3) := by decide +kernel
theorem e_Qu_count_86 : decode b_Qu_count 86 = .ok (.getfield 218, 3) := by decide +kernel
theorem e_Qu_count_89 : decode b_Qu_count 89 = .ok (.getfield 221, 3) := by decide +kernel
theorem e_Qu_count_92 : decode b_Qu_count 92 = .ok (.ireturn, 1) := by decide +kernel
theorem e_Qu_count_93 : decode b_Qu_count 93 = .ok (.aload_n 0, 1) := by decide +kernel
theorem e_Qu_count_94 : decode b_Qu_count 94 = .ok (.getfield 38, 3) := by decide +kernel
theorem e_Qu_count_97 : decode b_Qu_count 97 = .ok (.getfield 259, 3) := by decide +kernel
theorem e_Qu_count_100 : decode b_Qu_count 100 = .ok (.ireturn, 1) := by decide +kernel
theorem e_Qu_count_101 : decode b_Qu_count 101 = .ok (.aload_n 0, 1) := by decide +kernel
theorem e_Qu_count_102 : decode b_Qu_count 102 = .ok (.getfield 49, 3) := by decide +kernel
theorem e_Qu_count_105 : decode b_Qu_count 105 = .ok (.getfield 262, 3) := by decide +kernel
theorem e_Qu_count_108 : decode b_Qu_count 108 = .ok (.ireturn, 1) := by decide +kernel
theorem e_Qu_count_109 : decode b_Qu_count 109 = .ok (.bipush (-2), 2) := by decide +kernel
theorem e_Qu_count_111 : decode b_Qu_count 111 = .ok (.ireturn, 1) := by decide +kernel
theorem e_Qu_tape_0 : decode b_Qu_tape 0 = .ok (.iload_n 1, 1) := by decide +kernel
theorem e_Qu_tape_1 : decode b_Qu_tape 1 = .ok (.iconst 0, 1) := by decide +kernel
theorem e_Qu_tape_2 : decode b_Qu_tape 2 = .ok (.iconst 5, 1) := by decide +kernel
theorem e_Qu_tape_3 : decode b_Qu_tape 3 = .ok (.invokestatic 60, 3) := by decide +kernel
theorem e_Qu_tape_6 : decode b_Qu_tape 6 = .ok (.ifCond .ne 5, 3) := by decide +kernel
theorem e_Qu_tape_9 : decode b_Qu_tape 9 = .ok (.iconst (-1), 1) := by decide +kernel
theorem e_Qu_tape_10 : decode b_Qu_tape 10 = .ok (.ireturn, 1) := by decide +kernel
theorem e_Qu_tape_11 : decode b_Qu_tape 11 = .ok (.iload_n 2, 1) := by decide +kernel
theorem e_Qu_tape_12 : decode b_Qu_tape 12 = .ok (.iconst (-1), 1) := by decide +kernel
theorem e_Qu_tape_13 : decode b_Qu_tape 13 = .ok (.if_icmp .ne 16, 3) := by decide +kernel
theorem e_Qu_tape_16 : decode b_Qu_tape 16 = .ok (.aload_n 0, 1) := by decide +kernel
theorem e_Qu_tape_17 : decode b_Qu_tape 17 = .ok (.getfield 55, 3) := by decide +kernel
theorem e_Qu_tape_20 : decode b_Qu_tape 20 = .ok (.iload_n 1, 1) := by decide +kernel
theorem e_Qu_tape_21 : decode b_Qu_tape 21 = .ok (.aaload, 1) := by decide +kernel
theorem e_Qu_tape_22 : decode b_Qu_tape 22 = .ok (.iconst (-1), 1) := by decide +kernel
theorem e_Qu_tape_23 : decode b_Qu_tape 23 = .ok (.iconst 0, 1) := by decide +kernel
theorem e_Qu_tape_24 : decode b_Qu_tape 24 = .ok (.invokevirtual 265, 3) := by decide +kernel
theorem e_Qu_tape_27 : decode b_Qu_tape 27 = .ok (.iconst 1, 1) := by decide +kernel
theorem e_Qu_tape_28 : decode b_Qu_tape 28 = .ok (.ireturn, 1) := by decide +kernel
theorem e_Qu_tape_29 : decode b_Qu_tape 29 = .ok (.iload_n 2, 1) := by decide +kernel
theorem e_Qu_tape_30 : decode b_Qu_tape 30 = .ok (.iconst 0, 1) := by decide +kernel
theorem e_Qu_tape_31 : decode b_Qu_tape 31 = .ok (.iconst 4, 1) := by decide +kernel
theorem e_Qu_tape_32 : decode b_Qu_tape 32 = .ok (.invokestatic 60, 3) := by decide +kernel
theorem e_Qu_tape_35 : decode b_Qu_tape 35 = .ok (.ifCond .eq 9, 3) := by decide +kernel
theorem e_Qu_tape_38 : decode b_Qu_tape 38 = .ok (.iload_n 3, 1) := by decide +kernel
theorem e_Qu_tape_39 : decode b_Qu_tape 39 = .ok (.bipush 60, 2) := by decide +kernel
theorem e_Qu_tape_41 : decode b_Qu_tape 41 = .ok (.if_icmp .le 6, 3) := by decide +kernel
theorem e_Qu_tape_44 : decode b_Qu_tape 44 = .ok (.bipush (-2), 2) := by decide +kernel
theorem e_Qu_tape_46 : decode b_Qu_tape 46 = .ok (.ireturn, 1) := by decide +kernel
theorem e_Qu_tape_47 : decode b_Qu_tape 47 = .ok (.iload_n 3, 1) := by decide +kernel
theorem e_Qu_tape_48 : decode b_Qu_tape 48 = .ok (.ifCond .ge 6, 3) := by decide +kernel
theorem e_Qu_tape_51 : decode b_Qu_tape 51 = .ok (.bipush (-14), 2) := by decide +kernel
theorem e_Qu_tape_53 : decode b_Qu_tape 53 = .ok (.ireturn, 1) := by decide +kernel
theorem e_Qu_tape_54 : decode b_Qu_tape 54 = .ok (.aload_n 0, 1) := by decide +kernel
theorem e_Qu_tape_55 : decode b_Qu_tape 55 = .ok (.getfield 55, 3) := by decide +kernel
theorem e_Qu_tape_58 : decode b_Qu_tape 58 = .ok (.iload_n 1, 1) := by decide +kernel
theorem e_Qu_tape_59 : decode b_Qu_tape 59 = .ok (.aaload, 1) := by decide +kernel
theorem e_Qu_tape_60 : decode b_Qu_tape 60 = .ok (.iload_n 2, 1) := by decide +kernel
theorem e_Qu_tape_61 : decode b_Qu_tape 61 = .ok (.iload_n 3, 1) := by decide +kernel
theorem e_Qu_tape_62 : decode b_Qu_tape 62 = .ok (.invokevirtual 265, 3) := by decide +kernel
theorem e_Qu_tape_65 : decode b_Qu_tape 65 = .ok (.iconst 1, 1) := by decide +kernel
theorem e_Qu_tape_66 : decode b_Qu_tape 66 = .ok (.ireturn, 1) := by decide +kernel
theorem e_Qu_item_0 : decode b_Qu_item 0 = .ok (.iload_n 1, 1) := by decide +kernel
theorem e_Qu_item_1 : decode b_Qu_item 1 = .ok (.iconst 0, 1) := by decide +kernel
theorem e_Qu_item_2 : decode b_Qu_item 2 = .ok (.iconst 5, 1) := by decide +kernel
theorem e_Qu_item_3 : decode b_Qu_item 3 = .ok (.invokestatic 60, 3) := by decide +kernel
theorem e_Qu_item_6 : decode b_Qu_item 6 = .ok (.ifCond .ne 5, 3) := by decide +kernel
theorem e_Qu_item_9 : decode b_Qu_item 9 = .ok (.iconst (-1), 1) := by decide +kernel
theorem e_Qu_item_10 : decode b_Qu_item 10 = .ok (.ireturn, 1) := by decide +kernel
theorem e_Qu_item_11 : decode b_Qu_item 11 = .ok (.aload_n 0, 1) := by decide +kernel
theorem e_Qu_item_12 : decode b_Qu_item 12 = .ok (.getfield 55, 3) := by decide +kernel
theorem e_Qu_item_15 : decode b_Qu_item 15 = .ok (.iload_n 1, 1) := by decide +kernel
theorem e_Qu_item_16 : decode b_Qu_item 16 = .ok (.aaload, 1) := by decide +kernel
theorem e_Qu_item_17 : decode b_Qu_item 17 = .ok (.astore 5, 2) := by decide +kernel
theorem e_Qu_item_19 : decode b_Qu_item 19 = .ok (.aload 5, 2) := by decide +kernel
theorem e_Qu_item_21 : decode b_Qu_item 21 = .ok (.getfield 230, 3) := by decide +kernel
theorem e_Qu_item_24 : decode b_Qu_item 24 = .ok (.iconst (-1), 1) := by decide +kernel
theorem e_Qu_item_25 : decode b_Qu_item 25 = .ok (.if_icmp .ne 6, 3) := by decide +kernel
theorem e_Qu_item_28 : decode b_Qu_item 28 = .ok (.bipush (-11), 2) := by decide +kernel
theorem e_Qu_item_30 : decode b_Qu_item 30 = .ok (.ireturn, 1) := by decide +kernel
theorem e_Qu_item_31 : decode b_Qu_item 31 = .ok (.aload 5, 2) := by decide +kernel
theorem e_Qu_item_33 : decode b_Qu_item 33 = .ok (.iload_n 2, 1) := by decide +kernel
theorem e_Qu_item_34 : decode b_Qu_item 34 = .ok (.invokevirtual 269, 3) := by decide +kernel
theorem e_Qu_item_37 : decode b_Qu_item 37 = .ok (.ifCond .ne 6, 3) := by decide +kernel
theorem e_Qu_item_40 : decode b_Qu_item 40 = .ok (.bipush (-13), 2) := by decide +kernel
theorem e_Qu_item_42 : decode b_Qu_item 42 = .ok (.ireturn, 1) := by decide +kernel
theorem e_Qu_item_43 : decode b_Qu_item 43 = .ok (.aload 5, 2) := by decide +kernel
theorem e_Qu_item_45 : decode b_Qu_item 45 = .ok (.getfield 272, 3) := by decide +kernel
theorem e_Qu_item_48 : decode b_Qu_item 48 = .ok (.iload_n 2, 1) := by decide +kernel
theorem e_Qu_item_49 : decode b_Qu_item 49 = .ok (.aload 5, 2) := by decide +kernel
theorem e_Qu_item_51 : decode b_Qu_item 51 = .ok (.lload_n 3, 1) := by decide +kernel
theorem e_Qu_item_52 : decode b_Qu_item 52 = .ok (.invokevirtual 276, 3) := by decide +kernel
theorem e_Qu_item_55 : decode b_Qu_item 55 = .ok (.lastore, 1) := by decide +kernel
theorem e_Qu_item_56 : decode b_Qu_item 56 = .ok (.iconst 1, 1) := by decide +kernel
theorem e_Qu_item_57 : decode b_Qu_item 57 = .ok (.ireturn, 1) := by decide +kernel
theorem e_Qu_read_0 : decode b_Qu_read 0 = .ok (.iload_n 1, 1) := by decide +kernel
theorem e_Qu_read_1 : decode b_Qu_read 1 = .ok (.iconst 0, 1) := by decide +kernel
theorem e_Qu_read_2 : decode b_Qu_read 2 = .ok (.iconst 5, 1) := by decide +kernel
theorem e_Qu_read_3 : decode b_Qu_read 3 = .ok (.invokestatic 60, 3) := by decide +kernel
theorem e_Qu_read_6 : decode b_Qu_read 6 = .ok (.ifCond .eq 16, 3) := by decide +kernel
theorem e_Qu_read_9 : decode b_Qu_read 9 = .ok (.aload_n 0, 1) := by decide +kernel
theorem e_Qu_read_10 : decode b_Qu_read 10 = .ok (.getfield 55, 3) := by decide +kernel
theorem e_Qu_read_13 : decode b_Qu_read 13 = .ok (.iload_n 1, 1) := by decide +kernel
theorem e_Qu_read_14 : decode b_Qu_read 14 = .ok (.aaload, 1) := by decide +kernel
theorem e_Qu_read_15 : decode b_Qu_read 15 = .ok (.iload_n 2, 1) := by decide +kernel
theorem e_Qu_read_16 : decode b_Qu_read 16 = .ok (.invokevirtual 269, 3) := by decide +kernel
theorem e_Qu_read_19 : decode b_Qu_read 19 = .ok (.ifCond .ne 7, 3) := by decide +kernel
theorem e_Qu_read_22 : decode b_Qu_read 22 = .ok (.ldc2_w 202, 3) := by decide +kernel
theorem e_Qu_read_25 : decode b_Qu_read 25 = .ok (.lreturn, 1) := by decide +kernel
theorem e_Qu_read_26 : decode b_Qu_read 26 = .ok (.aload_n 0, 1) := by decide +kernel
theorem e_Qu_read_27 : decode b_Qu_read 27 = .ok (.getfield 55, 3) := by decide +kernel
theorem e_Qu_read_30 : decode b_Qu_read 30 = .ok (.iload_n 1, 1) := by decide +kernel
theorem e_Qu_read_31 : decode b_Qu_read 31 = .ok (.aaload, 1) := by decide +kernel
theorem e_Qu_read_32 : decode b_Qu_read 32 = .ok (.getfield 272, 3) := by decide +kernel
theorem e_Qu_read_35 : decode b_Qu_read 35 = .ok (.iload_n 2, 1) := by decide +kernel
theorem e_Qu_read_36 : decode b_Qu_read 36 = .ok (.laload, 1) := by decide +kernel
theorem e_Qu_read_37 : decode b_Qu_read 37 = .ok (.lreturn, 1) := by decide +kernel
theorem e_Qu_shift_0 : decode b_Qu_shift 0 = .ok (.iload_n 1, 1) := by decide +kernel
theorem e_Qu_shift_1 : decode b_Qu_shift 1 = .ok (.iconst 0, 1) := by decide +kernel
theorem e_Qu_shift_2 : decode b_Qu_shift 2 = .ok (.iconst 5, 1) := by decide +kernel
theorem e_Qu_shift_3 : decode b_Qu_shift 3 = .ok (.invokestatic 60, 3) := by decide +kernel
theorem e_Qu_shift_6 : decode b_Qu_shift 6 = .ok (.ifCond .eq 12, 3) := by decide +kernel
theorem e_Qu_shift_9 : decode b_Qu_shift 9 = .ok (.iload_n 3, 1) := by decide +kernel
theorem e_Qu_shift_10 : decode b_Qu_shift 10 = .ok (.iconst 0, 1) := by decide +kernel
theorem e_Qu_shift_11 : decode b_Qu_shift 11 = .ok (.iconst 5, 1) := by decide +kernel
theorem e_Qu_shift_12 : decode b_Qu_shift 12 = .ok (.invokestatic 60, 3) := by decide +kernel
theorem e_Qu_shift_15 : decode b_Qu_shift 15 = .ok (.ifCond .ne 5, 3) := by decide +kernel
theorem e_Qu_shift_18 : decode b_Qu_shift 18 = .ok (.iconst (-1), 1) := by decide +kernel
theorem e_Qu_shift_19 : decode b_Qu_shift 19 = .ok (.ireturn, 1) := by decide +kernel
theorem e_Qu_shift_20 : decode b_Qu_shift 20 = .ok (.aload_n 0, 1) := by decide +kernel
theorem e_Qu_shift_21 : decode b_Qu_shift 21 = .ok (.getfield 55, 3) := by decide +kernel
theorem e_Qu_shift_24 : decode b_Qu_shift 24 = .ok (.iload_n 1, 1) := by decide +kernel
theorem e_Qu_shift_25 : decode b_Qu_shift 25 = .ok (.aaload, 1) := by decide +kernel
theorem e_Qu_shift_26 : decode b_Qu_shift 26 = .ok (.astore 6, 2) := by decide +kernel
theorem e_Qu_shift_28 : decode b_Qu_shift 28 = .ok (.aload_n 0, 1) := by decide +kernel
theorem e_Qu_shift_29 : decode b_Qu_shift 29 = .ok (.getfield 55, 3) := by decide +kernel
theorem e_Qu_shift_32 : decode b_Qu_shift 32 = .ok (.iload_n 3, 1) := by decide +kernel
theorem e_Qu_shift_33 : decode b_Qu_shift 33 = .ok (.aaload, 1) := by decide +kernel
theorem e_Qu_shift_34 : decode b_Qu_shift 34 = .ok (.astore 7, 2) := by decide +kernel
theorem e_Qu_shift_36 : decode b_Qu_shift 36 = .ok (.aload 6, 2) := by decide +kernel
theorem e_Qu_shift_38 : decode b_Qu_shift 38 = .ok (.getfield 230, 3) := by decide +kernel
theorem e_Qu_shift_41 : decode b_Qu_shift 41 = .ok (.iconst (-1), 1) := by decide +kernel
theorem e_Qu_shift_42 : decode b_Qu_shift 42 = .ok (.if_icmp .eq 12, 3) := by decide +kernel
theorem e_Qu_shift_45 : decode b_Qu_shift 45 = .ok (.aload 7, 2) := by decide +kernel
theorem e_Qu_shift_47 : decode b_Qu_shift 47 = .ok (.getfield 230, 3) := by decide +kernel
theorem e_Qu_shift_50 : decode b_Qu_shift 50 = .ok (.iconst (-1), 1) := by decide +kernel
theorem e_Qu_shift_51 : decode b_Qu_shift 51 = .ok (.if_icmp .ne 6, 3) := by decide +kernel
theorem e_Qu_shift_54 : decode b_Qu_shift 54 = .ok (.bipush (-11), 2) := by decide +kernel
theorem e_Qu_shift_56 : decode b_Qu_shift 56 = .ok (.ireturn, 1) := by decide +kernel
theorem e_Qu_shift_57 : decode b_Qu_shift 57 = .ok (.aload 6, 2) := by decide +kernel
theorem e_Qu_shift_59 : decode b_Qu_shift 59 = .ok (.getfield 230, 3) := by decide +kernel
theorem e_Qu_shift_62 : decode b_Qu_shift 62 = .ok (.aload 7, 2) := by decide +kernel
theorem e_Qu_shift_64 : decode b_Qu_shift 64 = .ok (.getfield 230, 3) := by decide +kernel
theorem e_Qu_shift_67 : decode b_Qu_shift 67 = .ok (.if_icmp .eq 6, 3) := by decide +kernel
theorem e_Qu_shift_70 : decode b_Qu_shift 70 = .ok (.bipush (-12), 2) := by decide +kernel
theorem e_Qu_shift_72 : decode b_Qu_shift 72 = .ok (.ireturn, 1) := by decide +kernel
theorem e_Qu_shift_73 : decode b_Qu_shift 73 = .ok (.aload 6, 2) := by decide +kernel
theorem e_Qu_shift_75 : decode b_Qu_shift 75 = .ok (.iload_n 2, 1) := by decide +kernel
theorem e_Qu_shift_76 : decode b_Qu_shift 76 = .ok (.iload 5, 2) := by decide +kernel
theorem e_Qu_shift_78 : decode b_Qu_shift 78 = .ok (.invokevirtual 280, 3) := by decide +kernel
theorem e_Qu_shift_81 : decode b_Qu_shift 81 = .ok (.ifCond .eq 15, 3) := by decide +kernel
theorem e_Qu_shift_84 : decode b_Qu_shift 84 = .ok (.aload 7, 2) := by decide +kernel
theorem e_Qu_shift_86 : decode b_Qu_shift 86 = .ok (.iload 4, 2) := by decide +kernel
theorem e_Qu_shift_88 : decode b_Qu_shift 88 = .ok (.iload 5, 2) := by decide +kernel
theorem e_Qu_shift_90 : decode b_Qu_shift 90 = .ok (.invokevirtual 280, 3) := by decide +kernel
theorem e_Qu_shift_93 : decode b_Qu_shift 93 = .ok (.ifCond .ne 6, 3) := by decide +kernel
theorem e_Qu_shift_96 : decode b_Qu_shift 96 = .ok (.bipush (-13), 2) := by decide +kernel
theorem e_Qu_shift_98 : decode b_Qu_shift 98 = .ok (.ireturn, 1) := by decide +kernel
theorem e_Qu_shift_99 : decode b_Qu_shift 99 = .ok (.aload 6, 2) := by decide +kernel
theorem e_Qu_shift_101 : decode b_Qu_shift 101 = .ok (.getfield 272, 3) := by decide +kernel
theorem e_Qu_shift_104 : decode b_Qu_shift 104 = .ok (.iload_n 2, 1) := by decide +kernel
theorem e_Qu_shift_105 : decode b_Qu_shift 105 = .ok (.aload 7, 2) := by decide +kernel
theorem e_Qu_shift_107 : decode b_Qu_shift 107 = .ok (.getfield 272, 3) := by decide +kernel
theorem e_Qu_shift_110 : decode b_Qu_shift 110 = .ok (.iload 4, 2) := by decide +kernel
theorem e_Qu_shift_112 : decode b_Qu_shift 112 = .ok (.iload 5, 2) := by decide +kernel
theorem e_Qu_shift_114 : decode b_Qu_shift 114 = .ok (.invokestatic 284, 3) := by decide +kernel
theorem e_Qu_shift_117 : decode b_Qu_shift 117 = .ok (.iload 5, 2) := by decide +kernel
theorem e_Qu_shift_119 : decode b_Qu_shift 119 = .ok (.ireturn, 1) := by decide +kernel
theorem e_Qu_within_0 : decode b_Qu_within 0 = .ok (.iload_n 0, 1) := by decide +kernel
theorem e_Qu_within_1 : decode b_Qu_within 1 = .ok (.iload_n 1, 1) := by decide +kernel
theorem e_Qu_within_2 : decode b_Qu_within 2 = .ok (.if_icmp .lt 12, 3) := by decide +kernel
theorem e_Qu_within_5 : decode b_Qu_within 5 = .ok (.iload_n 0, 1) := by decide +kernel
theorem e_Qu_within_6 : decode b_Qu_within 6 = .ok (.iload_n 2, 1) := by decide +kernel
theorem e_Qu_within_7 : decode b_Qu_within 7 = .ok (.if_icmp .gt 7, 3) := by decide +kernel
theorem e_Qu_within_10 : decode b_Qu_within 10 = .ok (.iconst 1, 1) := by decide +kernel
theorem e_Qu_within_11 : decode b_Qu_within 11 = .ok (.goto 4, 3) := by decide +kernel
theorem e_Qu_within_14 : decode b_Qu_within 14 = .ok (.iconst 0, 1) := by decide +kernel
theorem e_Qu_within_15 : decode b_Qu_within 15 = .ok (.ireturn, 1) := by decide +kernel
theorem e_Qu_fraction_0 : decode b_Qu_fraction 0 = .ok (.iload_n 0, 1) := by decide +kernel
theorem e_Qu_fraction_1 : decode b_Qu_fraction 1 = .ok (.invokestatic 290, 3) := by decide +kernel
theorem e_Qu_fraction_4 : decode b_Qu_fraction 4 = .ok (.iload_n 1, 1) := by decide +kernel
theorem e_Qu_fraction_5 : decode b_Qu_fraction 5 = .ok (.invokestatic 295, 3) := by decide +kernel
theorem e_Qu_fraction_8 : decode b_Qu_fraction 8 = .ok (.istore_n 3, 1) := by decide +kernel
theorem e_Qu_fraction_9 : decode b_Qu_fraction 9 = .ok (.iload_n 3, 1) := by decide +kernel
theorem e_Qu_fraction_10 : decode b_Qu_fraction 10 = .ok (.ifCond .ne 7, 3) := by decide +kernel
theorem e_Qu_fraction_13 : decode b_Qu_fraction 13 = .ok (.ldc2_w 202, 3) := by decide +kernel
theorem e_Qu_fraction_16 : decode b_Qu_fraction 16 = .ok (.lreturn, 1) := by decide +kernel
theorem e_Qu_fraction_17 : decode b_Qu_fraction 17 = .ok (.iload_n 2, 1) := by decide +kernel
theorem e_Qu_fraction_18 : decode b_Qu_fraction 18 = .ok (.ifCond .ne 10, 3) := by decide +kernel
theorem e_Qu_fraction_21 : decode b_Qu_fraction 21 = .ok (.iload_n 0, 1) := by decide +kernel
theorem e_Qu_fraction_22 : decode b_Qu_fraction 22 = .ok (.iload_n 3, 1) := by decide +kernel
theorem e_Qu_fraction_23 : decode b_Qu_fraction 23 = .ok (.idiv, 1) := by decide +kernel
theorem e_Qu_fraction_24 : decode b_Qu_fraction 24 = .ok (.i2l, 1) := by decide +kernel
theorem e_Qu_fraction_25 : decode b_Qu_fraction 25 = .ok (.goto 7, 3) := by decide +kernel
theorem e_Qu_fraction_28 : decode b_Qu_fraction 28 = .ok (.iload_n 1, 1) := by decide +kernel
theorem e_Qu_fraction_29 : decode b_Qu_fraction 29 = .ok (.iload_n 3, 1) := by decide +kernel
theorem e_Qu_fraction_30 : decode b_Qu_fraction 30 = .ok (.idiv, 1) := by decide +kernel
theorem e_Qu_fraction_31 : decode b_Qu_fraction 31 = .ok (.i2l, 1) := by decide +kernel
theorem e_Qu_fraction_32 : decode b_Qu_fraction 32 = .ok (.lreturn, 1) := by decide +kernel
theorem e_Qu_commonDivisor_0 : decode b_Qu_commonDivisor 0 = .ok (.iload_n 0, 1) := by decide +kernel
theorem e_Qu_commonDivisor_1 : decode b_Qu_commonDivisor 1 = .ok (.istore_n 2, 1) := by decide +kernel
theorem e_Qu_commonDivisor_2 : decode b_Qu_commonDivisor 2 = .ok (.iload_n 1, 1) := by decide +kernel
theorem e_Qu_commonDivisor_3 : decode b_Qu_commonDivisor 3 = .ok (.istore_n 3, 1) := by decide +kernel
theorem e_Qu_commonDivisor_4 : decode b_Qu_commonDivisor 4 = .ok (.iconst 0, 1) := by decide +kernel
theorem e_Qu_commonDivisor_5 : decode b_Qu_commonDivisor 5 = .ok (.istore 4, 2) := by decide +kernel
theorem e_Qu_commonDivisor_7 : decode b_Qu_commonDivisor 7 = .ok (.iload 4, 2) := by decide +kernel
theorem e_Qu_commonDivisor_9 : decode b_Qu_commonDivisor 9 = .ok (.bipush 100, 2) := by decide +kernel
theorem e_Qu_commonDivisor_11 : decode b_Qu_commonDivisor 11 = .ok (.if_icmp .ge 23, 3) := by decide +kernel
theorem e_Qu_commonDivisor_14 : decode b_Qu_commonDivisor 14 = .ok (.iload_n 3, 1) := by decide +kernel
theorem e_Qu_commonDivisor_15 : decode b_Qu_commonDivisor 15 = .ok (.ifCond .le 19, 3) := by decide +kernel
theorem e_Qu_commonDivisor_18 : decode b_Qu_commonDivisor 18 = .ok (.iload_n 2, 1) := by decide +kernel
theorem e_Qu_commonDivisor_19 : decode b_Qu_commonDivisor 19 = .ok (.iload_n 3, 1) := by decide +kernel
theorem e_Qu_commonDivisor_20 : decode b_Qu_commonDivisor 20 = .ok (.irem, 1) := by decide +kernel
theorem e_Qu_commonDivisor_21 : decode b_Qu_commonDivisor 21 = .ok (.istore 5, 2) := by decide +kernel
theorem e_Qu_commonDivisor_23 : decode b_Qu_commonDivisor 23 = .ok (.iload_n 3, 1) := by decide +kernel
theorem e_Qu_commonDivisor_24 : decode b_Qu_commonDivisor 24 = .ok (.istore_n 2, 1) := by decide +kernel
theorem e_Qu_commonDivisor_25 : decode b_Qu_commonDivisor 25 = .ok (.iload 5, 2) := by decide +kernel
theorem e_Qu_commonDivisor_27 : decode b_Qu_commonDivisor 27 = .ok (.istore_n 3, 1) := by decide +kernel
theorem e_Qu_commonDivisor_28 : decode b_Qu_commonDivisor 28 = .ok (.iinc 4 1, 3) := by decide +kernel
theorem e_Qu_commonDivisor_31 : decode b_Qu_commonDivisor 31 = .ok (.goto (-24), 3) := by decide +kernel
theorem e_Qu_commonDivisor_34 : decode b_Qu_commonDivisor 34 = .ok (.iload_n 2, 1) := by decide +kernel
theorem e_Qu_commonDivisor_35 : decode b_Qu_commonDivisor 35 = .ok (.ireturn, 1) := by decide +kernel
theorem e_Mo_init_0 : decode b_Mo_init 0 = .ok (.aload_n 0, 1) := by decide +kernel
theorem e_Mo_init_1 : decode b_Mo_init 1 = .ok (.invokespecial 1, 3) := by decide +kernel
theorem e_Mo_init_4 : decode b_Mo_init 4 = .ok (.aload_n 0, 1) := by decide +kernel
theorem e_Mo_init_5 : decode b_Mo_init 5 = .ok (.iconst 0, 1) := by decide +kernel
theorem e_Mo_init_6 : decode b_Mo_init 6 = .ok (.putfield 7, 3) := by decide +kernel
theorem e_Mo_init_9 : decode b_Mo_init 9 = .ok (.aload_n 0, 1) := by decide +kernel
theorem e_Mo_init_10 : decode b_Mo_init 10 = .ok (.iconst 1, 1) := by decide +kernel
theorem e_Mo_init_11 : decode b_Mo_init 11 = .ok (.putfield 13, 3) := by decide +kernel
theorem e_Mo_init_14 : decode b_Mo_init 14 = .ok (.aload_n 0, 1) := by decide +kernel
theorem e_Mo_init_15 : decode b_Mo_init 15 = .ok (.iconst 0, 1) := by decide +kernel
theorem e_Mo_init_16 : decode b_Mo_init 16 = .ok (.putfield 16, 3) := by decide +kernel
theorem e_Mo_init_19 : decode b_Mo_init 19 = .ok (.aload_n 0, 1) := by decide +kernel
theorem e_Mo_init_20 : decode b_Mo_init 20 = .ok (.iconst 0, 1) := by decide +kernel
theorem e_Mo_init_21 : decode b_Mo_init 21 = .ok (.putfield 19, 3) := by decide +kernel
theorem e_Mo_init_24 : decode b_Mo_init 24 = .ok (.aload_n 0, 1) := by decide +kernel
theorem e_Mo_init_25 : decode b_Mo_init 25 = .ok (.iconst 0, 1) := by decide +kernel
theorem e_Mo_init_26 : decode b_Mo_init 26 = .ok (.putfield 22, 3) := by decide +kernel
theorem e_Mo_init_29 : decode b_Mo_init 29 = .ok (.aload_n 0, 1) := by decide +kernel
theorem e_Mo_init_30 : decode b_Mo_init 30 = .ok (.bipush 6, 2) := by decide +kernel
theorem e_Mo_init_32 : decode b_Mo_init 32 = .ok (.newarray .int, 2) := by decide +kernel
theorem e_Mo_init_34 : decode b_Mo_init 34 = .ok (.putfield 26, 3) := by decide +kernel
theorem e_Mo_init_37 : decode b_Mo_init 37 = .ok (.aload_n 0, 1) := by decide +kernel
theorem e_Mo_init_38 : decode b_Mo_init 38 = .ok (.bipush 6, 2) := by decide +kernel
theorem e_Mo_init_40 : decode b_Mo_init 40 = .ok (.newarray .int, 2) := by decide +kernel
theorem e_Mo_init_42 : decode b_Mo_init 42 = .ok (.putfield 30, 3) := by decide +kernel
theorem e_Mo_init_45 : decode b_Mo_init 45 = .ok (.aload_n 0, 1) := by decide +kernel
theorem e_Mo_init_46 : decode b_Mo_init 46 = .ok (.bipush 6, 2) := by decide +kernel
theorem e_Mo_init_48 : decode b_Mo_init 48 = .ok (.newarray .int, 2) := by decide +kernel
theorem e_Mo_init_50 : decode b_Mo_init 50 = .ok (.putfield 33, 3) := by decide +kernel
theorem e_Mo_init_53 : decode b_Mo_init 53 = .ok (.aload_n 0, 1) := by decide +kernel
theorem e_Mo_init_54 : decode b_Mo_init 54 = .ok (.bipush 6, 2) := by decide +kernel
theorem e_Mo_init_56 : decode b_Mo_init 56 = .ok (.newarray .int, 2) := by decide +kernel
theorem e_Mo_init_58 : decode b_Mo_init 58 = .ok (.putfield 36, 3) := by decide +kernel
theorem e_Mo_init_61 : decode b_Mo_init 61 = .ok (.aload_n 0, 1) := by decide +kernel
theorem e_Mo_init_62 : decode b_Mo_init 62 = .ok (.bipush 6, 2) := by decide +kernel
theorem e_Mo_init_64 : decode b_Mo_init 64 = .ok (.newarray .int, 2) := by decide +kernel
theorem e_Mo_init_66 : decode b_Mo_init 66 = .ok (.putfield 39, 3) := by decide +kernel
theorem e_Mo_init_69 : decode b_Mo_init 69 = .ok (.aload_n 0, 1) := by decide +kernel
theorem e_Mo_init_70 : decode b_Mo_init 70 = .ok (.bipush 6, 2) := by decide +kernel
theorem e_Mo_init_72 : decode b_Mo_init 72 = .ok (.newarray .int, 2) := by decide +kernel
theorem e_Mo_init_74 : decode b_Mo_init 74 = .ok (.putfield 42, 3) := by decide +kernel
theorem e_Mo_init_77 : decode b_Mo_init 77 = .ok (.aload_n 0, 1) := by decide +kernel
theorem e_Mo_init_78 : decode b_Mo_init 78 = .ok (.bipush 24, 2) := by decide +kernel
theorem e_Mo_init_80 : decode b_Mo_init 80 = .ok (.newarray .int, 2) := by decide +kernel
theorem e_Mo_init_82 : decode b_Mo_init 82 = .ok (.putfield 45, 3) := by decide +kernel
theorem e_Mo_init_85 : decode b_Mo_init 85 = .ok (.aload_n 0, 1) := by decide +kernel
theorem e_Mo_init_86 : decode b_Mo_init 86 = .ok (.iconst 0, 1) := by decide +kernel
theorem e_Mo_init_87 : decode b_Mo_init 87 = .ok (.putfield 48, 3) := by decide +kernel
theorem e_Mo_init_90 : decode b_Mo_init 90 = .ok (.aload_n 0, 1) := by decide +kernel
theorem e_Mo_init_91 : decode b_Mo_init 91 = .ok (.iconst (-1), 1) := by decide +kernel
theorem e_Mo_init_92 : decode b_Mo_init 92 = .ok (.putfield 51, 3) := by decide +kernel
theorem e_Mo_init_95 : decode b_Mo_init 95 = .ok (.aload_n 0, 1) := by decide +kernel
theorem e_Mo_init_96 : decode b_Mo_init 96 = .ok (.iconst 0, 1) := by decide +kernel
theorem e_Mo_init_97 : decode b_Mo_init 97 = .ok (.putfield 54, 3) := by decide +kernel
theorem e_Mo_init_100 : decode b_Mo_init 100 = .ok (.aload_n 0, 1) := by decide +kernel
theorem e_Mo_init_101 : decode b_Mo_init 101 = .ok (.iconst 0, 1) := by decide +kernel
theorem e_Mo_init_102 : decode b_Mo_init 102 = .ok (.putfield 57, 3) := by decide +kernel
theorem e_Mo_init_105 : decode b_Mo_init 105 = .ok (.aload_n 0, 1) := by decide +kernel
theorem e_Mo_init_106 : decode b_Mo_init 106 = .ok (.iconst 0, 1) := by decide +kernel
theorem e_Mo_init_107 : decode b_Mo_init 107 = .ok (.putfield 60, 3) := by decide +kernel
theorem e_Mo_init_110 : decode b_Mo_init 110 = .ok (.aload_n 0, 1) := by decide +kernel
theorem e_Mo_init_111 : decode b_Mo_init 111 = .ok (.bipush 100, 2) := by decide +kernel
theorem e_Mo_init_113 : decode b_Mo_init 113 = .ok (.newarray .int, 2) := by decide +kernel
theorem e_Mo_init_115 : decode b_Mo_init 115 = .ok (.putfield 63, 3) := by decide +kernel
theorem e_Mo_init_118 : decode b_Mo_init 118 = .ok (.aload_n 0, 1) := by decide +kernel
theorem e_Mo_init_119 : decode b_Mo_init 119 = .ok (.bipush 6, 2) := by decide +kernel
theorem e_Mo_init_121 : decode b_Mo_init 121 = .ok (.newarray .int, 2) := by decide +kernel
theorem e_Mo_init_123 : decode b_Mo_init 123 = .ok (.putfield 66, 3) := by decide +kernel
theorem e_Mo_init_126 : decode b_Mo_init 126 = .ok (.aload_n 0, 1) := by decide +kernel
theorem e_Mo_init_127 : decode b_Mo_init 127 = .ok (.bipush 60, 2) := by decide +kernel
theorem e_Mo_init_129 : decode b_Mo_init 129 = .ok (.newarray .int, 2) := by decide +kernel
theorem e_Mo_init_131 : decode b_Mo_init 131 = .ok (.putfield 69, 3) := by decide +kernel
theorem e_Mo_init_134 : decode b_Mo_init 134 = .ok (.aload_n 0, 1) := by decide +kernel
theorem e_Mo_init_135 : decode b_Mo_init 135 = .ok (.bipush 60, 2) := by decide +kernel
theorem e_Mo_init_137 : decode b_Mo_init 137 = .ok (.newarray .int, 2) := by decide +kernel
theorem e_Mo_init_139 : decode b_Mo_init 139 = .ok (.putfield 72, 3) := by decide +kernel
theorem e_Mo_init_142 : decode b_Mo_init 142 = .ok (.aload_n 0, 1) := by decide +kernel
theorem e_Mo_init_143 : decode b_Mo_init 143 = .ok (.bipush 60, 2) := by decide +kernel
theorem e_Mo_init_145 : decode b_Mo_init 145 = .ok (.newarray .int, 2) := by decide +kernel
theorem e_Mo_init_147 : decode b_Mo_init 147 = .ok (.putfield 75, 3) := by decide +kernel
theorem e_Mo_init_150 : decode b_Mo_init 150 = .ok (.aload_n 0, 1) := by decide +kernel
theorem e_Mo_init_151 : decode b_Mo_init 151 = .ok (.bipush 60, 2) := by decide +kernel
theorem e_Mo_init_153 : decode b_Mo_init 153 = .ok (.newarray .int, 2) := by decide +kernel
theorem e_Mo_init_155 : decode b_Mo_init 155 = .ok (.putfield 78, 3) := by decide +kernel
theorem e_Mo_init_158 : decode b_Mo_init 158 = .ok (.aload_n 0, 1) := by decide +kernel
theorem e_Mo_init_159 : decode b_Mo_init 159 = .ok (.sipush 600, 3) := by decide +kernel
theorem e_Mo_init_162 : decode b_Mo_init 162 = .ok (.newarray .int, 2) := by decide +kernel
theorem e_Mo_init_164 : decode b_Mo_init 164 = .ok (.putfield 81, 3) := by decide +kernel
theorem e_Mo_init_167 : decode b_Mo_init 167 = .ok (.aload_n 0, 1) := by decide +kernel
theorem e_Mo_init_168 : decode b_Mo_init 168 = .ok (.bipush 101, 2) := by decide +kernel
theorem e_Mo_init_170 : decode b_Mo_init 170 = .ok (.newarray .int, 2) := by decide +kernel
theorem e_Mo_init_172 : decode b_Mo_init 172 = .ok (.putfield 84, 3) := by decide +kernel
theorem e_Mo_init_175 : decode b_Mo_init 175 = .ok (.aload_n 0, 1) := by decide +kernel
theorem e_Mo_init_176 : decode b_Mo_init 176 = .ok (.iconst 0, 1) := by decide +kernel
theorem e_Mo_init_177 : decode b_Mo_init 177 = .ok (.putfield 87, 3) := by decide +kernel
theorem e_Mo_init_180 : decode b_Mo_init 180 = .ok (.aload_n 0, 1) := by decide +kernel
theorem e_Mo_init_181 : decode b_Mo_init 181 = .ok (.iconst 0, 1) := by decide +kernel
theorem e_Mo_init_182 : decode b_Mo_init 182 = .ok (.putfield 90, 3) := by decide +kernel
theorem e_Mo_init_185 : decode b_Mo_init 185 = .ok (.aload_n 0, 1) := by decide +kernel
theorem e_Mo_init_186 : decode b_Mo_init 186 = .ok (.iconst 0, 1) := by decide +kernel
theorem e_Mo_init_187 : decode b_Mo_init 187 = .ok (.putfield 93, 3) := by decide +kernel
theorem e_Mo_init_190 : decode b_Mo_init 190 = .ok (.aload_n 0, 1) := by decide +kernel
theorem e_Mo_init_191 : decode b_Mo_init 191 = .ok (.bipush 13, 2) := by decide +kernel
theorem e_Mo_init_193 : decode b_Mo_init 193 = .ok (.newarray .int, 2) := by decide +kernel
theorem e_Mo_init_195 : decode b_Mo_init 195 = .ok (.dup, 1) := by decide +kernel
theorem e_Mo_init_196 : decode b_Mo_init 196 = .ok (.iconst 0, 1) := by decide +kernel
theorem e_Mo_init_197 : decode b_Mo_init 197 = .ok (.bipush 100, 2) := by decide +kernel
theorem e_Mo_init_199 : decode b_Mo_init 199 = .ok (.iastore, 1) := by decide +kernel
theorem e_Mo_init_200 : decode b_Mo_init 200 = .ok (.dup, 1) := by decide +kernel
theorem e_Mo_init_201 : decode b_Mo_init 201 = .ok (.iconst 1, 1) := by decide +kernel
theorem e_Mo_init_202 : decode b_Mo_init 202 = .ok (.bipush 97, 2) := by decide +kernel
theorem e_Mo_init_204 : decode b_Mo_init 204 = .ok (.iastore, 1) := by decide +kernel
theorem e_Mo_init_205 : decode b_Mo_init 205 = .ok (.dup, 1) := by decide +kernel
theorem e_Mo_init_206 : decode b_Mo_init 206 = .ok (.iconst 2, 1) := by decide +kernel
theorem e_Mo_init_207 : decode b_Mo_init 207 = .ok (.bipush 114, 2) := by decide +kernel
theorem e_Mo_init_209 : decode b_Mo_init 209 = .ok (.iastore, 1) := by decide +kernel
theorem e_Mo_init_210 : decode b_Mo_init 210 = .ok (.dup, 1) := by decide +kernel
theorem e_Mo_init_211 : decode b_Mo_init 211 = .ok (.iconst 3, 1) := by decide +kernel
theorem e_Mo_init_212 : decode b_Mo_init 212 = .ok (.bipush 107, 2) := by decide +kernel
theorem e_Mo_init_214 : decode b_Mo_init 214 = .ok (.iastore, 1) := by decide +kernel
theorem e_Mo_init_215 : decode b_Mo_init 215 = .ok (.dup, 1) := by decide +kernel
theorem e_Mo_init_216 : decode b_Mo_init 216 = .ok (.iconst 4, 1) := by decide +kernel
theorem e_Mo_init_217 : decode b_Mo_init 217 = .ok (.bipush 99, 2) := by decide +kernel
theorem e_Mo_init_219 : decode b_Mo_init 219 = .ok (.iastore, 1) := by decide +kernel
theorem e_Mo_init_220 : decode b_Mo_init 220 = .ok (.dup, 1) := by decide +kernel
theorem e_Mo_init_221 : decode b_Mo_init 221 = .ok (.iconst 5, 1) := by decide +kernel
theorem e_Mo_init_222 : decode b_Mo_init 222 = .ok (.bipush 108, 2) := by decide +kernel
theorem e_Mo_init_224 : decode b_Mo_init 224 = .ok (.iastore, 1) := by decide +kernel
theorem e_Mo_init_225 : decode b_Mo_init 225 = .ok (.dup, 1) := by decide +kernel
theorem e_Mo_init_226 : decode b_Mo_init 226 = .ok (.bipush 6, 2) := by decide +kernel
theorem e_Mo_init_228 : decode b_Mo_init 228 = .ok (.bipush 101, 2) := by decide +kernel
theorem e_Mo_init_230 : decode b_Mo_init 230 = .ok (.iastore, 1) := by decide +kernel
theorem e_Mo_init_231 : decode b_Mo_init 231 = .ok (.dup, 1) := by decide +kernel
theorem e_Mo_init_232 : decode b_Mo_init 232 = .ok (.bipush 7, 2) := by decide +kernel
theorem e_Mo_init_234 : decode b_Mo_init 234 = .ok (.bipush 97, 2) := by decide +kernel
theorem e_Mo_init_236 : decode b_Mo_init 236 = .ok (.iastore, 1) := by decide +kernel
theorem e_Mo_init_237 : decode b_Mo_init 237 = .ok (.dup, 1) := by decide +kernel
theorem e_Mo_init_238 : decode b_Mo_init 238 = .ok (.bipush 8, 2) := by decide +kernel
theorem e_Mo_init_240 : decode b_Mo_init 240 = .ok (.bipush 114, 2) := by decide +kernel
theorem e_Mo_init_242 : decode b_Mo_init 242 = .ok (.iastore, 1) := by decide +kernel
theorem e_Mo_init_243 : decode b_Mo_init 243 = .ok (.dup, 1) := by decide +kernel
theorem e_Mo_init_244 : decode b_Mo_init 244 = .ok (.bipush 9, 2) := by decide +kernel
theorem e_Mo_init_246 : decode b_Mo_init 246 = .ok (.bipush 110, 2) := by decide +kernel
theorem e_Mo_init_248 : decode b_Mo_init 248 = .ok (.iastore, 1) := by decide +kernel
theorem e_Mo_init_249 : decode b_Mo_init 249 = .ok (.dup, 1) := by decide +kernel
theorem e_Mo_init_250 : decode b_Mo_init 250 = .ok (.bipush 10, 2) := by decide +kernel
theorem e_Mo_init_252 : decode b_Mo_init 252 = .ok (.bipush 101, 2) := by decide +kernel
theorem e_Mo_init_254 : decode b_Mo_init 254 = .ok (.iastore, 1) := by decide +kernel
theorem e_Mo_init_255 : decode b_Mo_init 255 = .ok (.dup, 1) := by decide +kernel
theorem e_Mo_init_256 : decode b_Mo_init 256 = .ok (.bipush 11, 2) := by decide +kernel
theorem e_Mo_init_258 : decode b_Mo_init 258 = .ok (.bipush 101, 2) := by decide +kernel
theorem e_Mo_init_260 : decode b_Mo_init 260 = .ok (.iastore, 1) := by decide +kernel
theorem e_Mo_init_261 : decode b_Mo_init 261 = .ok (.dup, 1) := by decide +kernel
theorem e_Mo_init_262 : decode b_Mo_init 262 = .ok (.bipush 12, 2) := by decide +kernel
theorem e_Mo_init_264 : decode b_Mo_init 264 = .ok (.bipush 100, 2) := by decide +kernel
theorem e_Mo_init_266 : decode b_Mo_init 266 = .ok (.iastore, 1) := by decide +kernel
theorem e_Mo_init_267 : decode b_Mo_init 267 = .ok (.putfield 96, 3) := by decide +kernel
theorem e_Mo_init_270 : decode b_Mo_init 270 = .ok (.aload_n 0, 1) := by decide +kernel
theorem e_Mo_init_271 : decode b_Mo_init 271 = .ok (.bipush 100, 2) := by decide +kernel
theorem e_Mo_init_273 : decode b_Mo_init 273 = .ok (.newarray .boolean, 2) := by decide +kernel
theorem e_Mo_init_275 : decode b_Mo_init 275 = .ok (.putfield 99, 3) := by decide +kernel
theorem e_Mo_init_278 : decode b_Mo_init 278 = .ok (.aload_n 0, 1) := by decide +kernel
theorem e_Mo_init_279 : decode b_Mo_init 279 = .ok (.sipush 9999, 3) := by decide +kernel
theorem e_Mo_init_282 : decode b_Mo_init 282 = .ok (.putfield 103, 3) := by decide +kernel
theorem e_Mo_init_285 : decode b_Mo_init 285 = .ok (.aload_n 0, 1) := by decide +kernel
theorem e_Mo_init_286 : decode b_Mo_init 286 = .ok (.iconst 0, 1) := by decide +kernel
theorem e_Mo_init_287 : decode b_Mo_init 287 = .ok (.putfield 106, 3) := by decide +kernel
theorem e_Mo_init_290 : decode b_Mo_init 290 = .ok (.aload_n 0, 1) := by decide +kernel
theorem e_Mo_init_291 : decode b_Mo_init 291 = .ok (.iconst 0, 1) := by decide +kernel
theorem e_Mo_init_292 : decode b_Mo_init 292 = .ok (.putfield 109, 3) := by decide +kernel
theorem e_Mo_init_295 : decode b_Mo_init 295 = .ok (.aload_n 0, 1) := by decide +kernel
theorem e_Mo_init_296 : decode b_Mo_init 296 = .ok (.iconst 0, 1) := by decide +kernel
theorem e_Mo_init_297 : decode b_Mo_init 297 = .ok (.putfield 112, 3) := by decide +kernel
theorem e_Mo_init_300 : decode b_Mo_init 300 = .ok (.aload_n 0, 1) := by decide +kernel
theorem e_Mo_init_301 : decode b_Mo_init 301 = .ok (.iconst 0, 1) := by decide +kernel
theorem e_Mo_init_302 : decode b_Mo_init 302 = .ok (.putfield 115, 3) := by decide +kernel
theorem e_Mo_init_305 : decode b_Mo_init 305 = .ok (.aload_n 0, 1) := by decide +kernel
theorem e_Mo_init_306 : decode b_Mo_init 306 = .ok (.bipush 6, 2) := by decide +kernel
theorem e_Mo_init_308 : decode b_Mo_init 308 = .ok (.newarray .int, 2) := by decide +kernel
theorem e_Mo_init_310 : decode b_Mo_init 310 = .ok (.putfield 118, 3) := by decide +kernel
theorem e_Mo_init_313 : decode b_Mo_init 313 = .ok (.aload_n 0, 1) := by decide +kernel
theorem e_Mo_init_314 : decode b_Mo_init 314 = .ok (.bipush 6, 2) := by decide +kernel
theorem e_Mo_init_316 : decode b_Mo_init 316 = .ok (.newarray .int, 2) := by decide +kernel
theorem e_Mo_init_318 : decode b_Mo_init 318 = .ok (.putfield 121, 3) := by decide +kernel
theorem e_Mo_init_321 : decode b_Mo_init 321 = .ok (.aload_n 0, 1) := by decide +kernel
theorem e_Mo_init_322 : decode b_Mo_init 322 = .ok (.iconst 3, 1) := by decide +kernel
theorem e_Mo_init_323 : decode b_Mo_init 323 = .ok (.newarray .int, 2) := by decide +kernel
theorem e_Mo_init_325 : decode b_Mo_init 325 = .ok (.putfield 124, 3) := by decide +kernel
theorem e_Mo_init_328 : decode b_Mo_init 328 = .ok (.aload_n 0, 1) := by decide +kernel
theorem e_Mo_init_329 : decode b_Mo_init 329 = .ok (.iconst 3, 1) := by decide +kernel
theorem e_Mo_init_330 : decode b_Mo_init 330 = .ok (.newarray .int, 2) := by decide +kernel
theorem e_Mo_init_332 : decode b_Mo_init 332 = .ok (.putfield 127, 3) := by decide +kernel
theorem e_Mo_init_335 : decode b_Mo_init 335 = .ok (.aload_n 0, 1) := by decide +kernel
theorem e_Mo_init_336 : decode b_Mo_init 336 = .ok (.iconst 0, 1) := by decide +kernel
theorem e_Mo_init_337 : decode b_Mo_init 337 = .ok (.putfield 130, 3) := by decide +kernel
theorem e_Mo_init_340 : decode b_Mo_init 340 = .ok (.aload_n 0, 1) := by decide +kernel
theorem e_Mo_init_341 : decode b_Mo_init 341 = .ok (.iconst 5, 1) := by decide +kernel
theorem e_Mo_init_342 : decode b_Mo_init 342 = .ok (.newarray .int, 2) := by decide +kernel
theorem e_Mo_init_344 : decode b_Mo_init 344 = .ok (.putfield 133, 3) := by decide +kernel
theorem e_Mo_init_347 : decode b_Mo_init 347 = .ok (.aload_n 0, 1) := by decide +kernel
theorem e_Mo_init_348 : decode b_Mo_init 348 = .ok (.iconst 5, 1) := by decide +kernel
theorem e_Mo_init_349 : decode b_Mo_init 349 = .ok (.newarray .int, 2) := by decide +kernel
theorem e_Mo_init_351 : decode b_Mo_init 351 = .ok (.putfield 136, 3) := by decide +kernel
theorem e_Mo_init_354 : decode b_Mo_init 354 = .ok (.aload_n 0, 1) := by decide +kernel
theorem e_Mo_init_355 : decode b_Mo_init 355 = .ok (.iconst 0, 1) := by decide +kernel
theorem e_Mo_init_356 : decode b_Mo_init 356 = .ok (.putfield 139, 3) := by decide +kernel
theorem e_Mo_init_359 : decode b_Mo_init 359 = .ok (.aload_n 0, 1) := by decide +kernel
theorem e_Mo_init_360 : decode b_Mo_init 360 = .ok (.iconst 0, 1) := by decide +kernel
theorem e_Mo_init_361 : decode b_Mo_init 361 = .ok (.putfield 142, 3) := by decide +kernel
theorem e_Mo_init_364 : decode b_Mo_init 364 = .ok (.aload_n 0, 1) := by decide +kernel
theorem e_Mo_init_365 : decode b_Mo_init 365 = .ok (.bipush 10, 2) := by decide +kernel
theorem e_Mo_init_367 : decode b_Mo_init 367 = .ok (.newarray .int, 2) := by decide +kernel
theorem e_Mo_init_369 : decode b_Mo_init 369 = .ok (.putfield 145, 3) := by decide +kernel
theorem e_Mo_init_372 : decode b_Mo_init 372 = .ok (.aload_n 0, 1) := by decide +kernel
theorem e_Mo_init_373 : decode b_Mo_init 373 = .ok (.bipush 10, 2) := by decide +kernel
theorem e_Mo_init_375 : decode b_Mo_init 375 = .ok (.newarray .int, 2) := by decide +kernel
theorem e_Mo_init_377 : decode b_Mo_init 377 = .ok (.putfield 148, 3) := by decide +kernel
theorem e_Mo_init_380 : decode b_Mo_init 380 = .ok (.aload_n 0, 1) := by decide +kernel
theorem e_Mo_init_381 : decode b_Mo_init 381 = .ok (.bipush 8, 2) := by decide +kernel
theorem e_Mo_init_383 : decode b_Mo_init 383 = .ok (.newarray .int, 2) := by decide +kernel
theorem e_Mo_init_385 : decode b_Mo_init 385 = .ok (.putfield 151, 3) := by decide +kernel
theorem e_Mo_init_388 : decode b_Mo_init 388 = .ok (.aload_n 0, 1) := by decide +kernel
theorem e_Mo_init_389 : decode b_Mo_init 389 = .ok (.bipush 8, 2) := by decide +kernel
theorem e_Mo_init_391 : decode b_Mo_init 391 = .ok (.newarray .int, 2) := by decide +kernel
theorem e_Mo_init_393 : decode b_Mo_init 393 = .ok (.putfield 154, 3) := by decide +kernel
theorem e_Mo_init_396 : decode b_Mo_init 396 = .ok (.aload_n 0, 1) := by decide +kernel
theorem e_Mo_init_397 : decode b_Mo_init 397 = .ok (.iconst 0, 1) := by decide +kernel
theorem e_Mo_init_398 : decode b_Mo_init 398 = .ok (.putfield 157, 3) := by decide +kernel
theorem e_Mo_init_401 : decode b_Mo_init 401 = .ok (.aload_n 0, 1) := by decide +kernel
theorem e_Mo_init_402 : decode b_Mo_init 402 = .ok (.iconst 0, 1) := by decide +kernel
theorem e_Mo_init_403 : decode b_Mo_init 403 = .ok (.putfield 160, 3) := by decide +kernel
theorem e_Mo_init_406 : decode b_Mo_init 406 = .ok (.aload_n 0, 1) := by decide +kernel
theorem e_Mo_init_407 : decode b_Mo_init 407 = .ok (.iconst (-1), 1) := by decide +kernel
theorem e_Mo_init_408 : decode b_Mo_init 408 = .ok (.putfield 163, 3) := by decide +kernel
theorem e_Mo_init_411 : decode b_Mo_init 411 = .ok (.aload_n 0, 1) := by decide +kernel
theorem e_Mo_init_412 : decode b_Mo_init 412 = .ok (.iconst 0, 1) := by decide +kernel
theorem e_Mo_init_413 : decode b_Mo_init 413 = .ok (.putfield 166, 3) := by decide +kernel
theorem e_Mo_init_416 : decode b_Mo_init 416 = .ok (.aload_n 0, 1) := by decide +kernel
theorem e_Mo_init_417 : decode b_Mo_init 417 = .ok (.iconst 0, 1) := by decide +kernel
theorem e_Mo_init_418 : decode b_Mo_init 418 = .ok (.putfield 169, 3) := by decide +kernel
theorem e_Mo_init_421 : decode b_Mo_init 421 = .ok (.aload_n 0, 1) := by decide +kernel
theorem e_Mo_init_422 : decode b_Mo_init 422 = .ok (.iconst 0, 1) := by decide +kernel
theorem e_Mo_init_423 : decode b_Mo_init 423 = .ok (.putfield 172, 3) := by decide +kernel
theorem e_Mo_init_426 : decode b_Mo_init 426 = .ok (.aload_n 0, 1) := by decide +kernel
theorem e_Mo_init_427 : decode b_Mo_init 427 = .ok (.iconst 0, 1) := by decide +kernel
theorem e_Mo_init_428 : decode b_Mo_init 428 = .ok (.putfield 175, 3) := by decide +kernel
theorem e_Mo_init_431 : decode b_Mo_init 431 = .ok (.aload_n 0, 1) := by decide +kernel
theorem e_Mo_init_432 : decode b_Mo_init 432 = .ok (.iconst 0, 1) := by decide +kernel
theorem e_Mo_init_433 : decode b_Mo_init 433 = .ok (.putfield 178, 3) := by decide +kernel
theorem e_Mo_init_436 : decode b_Mo_init 436 = .ok (.aload_n 0, 1) := by decide +kernel
theorem e_Mo_init_437 : decode b_Mo_init 437 = .ok (.iconst 0, 1) := by decide +kernel
theorem e_Mo_init_438 : decode b_Mo_init 438 = .ok (.putfield 181, 3) := by decide +kernel
theorem e_Mo_init_441 : decode b_Mo_init 441 = .ok (.aload_n 0, 1) := by decide +kernel
theorem e_Mo_init_442 : decode b_Mo_init 442 = .ok (.iconst 0, 1) := by decide +kernel
theorem e_Mo_init_443 : decode b_Mo_init 443 = .ok (.putfield 184, 3) := by decide +kernel
theorem e_Mo_init_446 : decode b_Mo_init 446 = .ok (.aload_n 0, 1) := by decide +kernel
theorem e_Mo_init_447 : decode b_Mo_init 447 = .ok (.bipush 6, 2) := by decide +kernel
theorem e_Mo_init_449 : decode b_Mo_init 449 = .ok (.newarray .int, 2) := by decide +kernel
theorem e_Mo_init_451 : decode b_Mo_init 451 = .ok (.putfield 187, 3) := by decide +kernel
theorem e_Mo_init_454 : decode b_Mo_init 454 = .ok (.aload_n 0, 1) := by decide +kernel
theorem e_Mo_init_455 : decode b_Mo_init 455 = .ok (.bipush 6, 2) := by decide +kernel
theorem e_Mo_init_457 : decode b_Mo_init 457 = .ok (.newarray .int, 2) := by decide +kernel
theorem e_Mo_init_459 : decode b_Mo_init 459 = .ok (.putfield 190, 3) := by decide +kernel
theorem e_Mo_init_462 : decode b_Mo_init 462 = .ok (.aload_n 0, 1) := by decide +kernel
theorem e_Mo_init_463 : decode b_Mo_init 463 = .ok (.bipush 6, 2) := by decide +kernel
theorem e_Mo_init_465 : decode b_Mo_init 465 = .ok (.newarray .int, 2) := by decide +kernel
theorem e_Mo_init_467 : decode b_Mo_init 467 = .ok (.putfield 193, 3) := by decide +kernel
theorem e_Mo_init_470 : decode b_Mo_init 470 = .ok (.aload_n 0, 1) := by decide +kernel
theorem e_Mo_init_471 : decode b_Mo_init 471 = .ok (.bipush 6, 2) := by decide +kernel
theorem e_Mo_init_473 : decode b_Mo_init 473 = .ok (.newarray .int, 2) := by decide +kernel
theorem e_Mo_init_475 : decode b_Mo_init 475 = .ok (.putfield 196, 3) := by decide +kernel
theorem e_Mo_init_478 : decode b_Mo_init 478 = .ok (.aload_n 0, 1) := by decide +kernel
theorem e_Mo_init_479 : decode b_Mo_init 479 = .ok (.bipush 6, 2) := by decide +kernel
theorem e_Mo_init_481 : decode b_Mo_init 481 = .ok (.newarray .int, 2) := by decide +kernel
theorem e_Mo_init_483 : decode b_Mo_init 483 = .ok (.putfield 199, 3) := by decide +kernel
theorem e_Mo_init_486 : decode b_Mo_init 486 = .ok (.aload_n 0, 1) := by decide +kernel
theorem e_Mo_init_487 : decode b_Mo_init 487 = .ok (.bipush 6, 2) := by decide +kernel
theorem e_Mo_init_489 : decode b_Mo_init 489 = .ok (.newarray .int, 2) := by decide +kernel
theorem e_Mo_init_491 : decode b_Mo_init 491 = .ok (.putfield 202, 3) := by decide +kernel
theorem e_Mo_init_494 : decode b_Mo_init 494 = .ok (.aload_n 0, 1) := by decide +kernel
theorem e_Mo_init_495 : decode b_Mo_init 495 = .ok (.bipush 24, 2) := by decide +kernel
theorem e_Mo_init_497 : decode b_Mo_init 497 = .ok (.newarray .int, 2) := by decide +kernel
theorem e_Mo_init_499 : decode b_Mo_init 499 = .ok (.putfield 205, 3) := by decide +kernel
theorem e_Mo_init_502 : decode b_Mo_init 502 = .ok (.aload_n 0, 1) := by decide +kernel
theorem e_Mo_init_503 : decode b_Mo_init 503 = .ok (.iconst 5, 1) := by decide +kernel
theorem e_Mo_init_504 : decode b_Mo_init 504 = .ok (.newarray .int, 2) := by decide +kernel
theorem e_Mo_init_506 : decode b_Mo_init 506 = .ok (.putfield 208, 3) := by decide +kernel
theorem e_Mo_init_509 : decode b_Mo_init 509 = .ok (.aload_n 0, 1) := by decide +kernel
theorem e_Mo_init_510 : decode b_Mo_init 510 = .ok (.iconst 5, 1) := by decide +kernel
theorem e_Mo_init_511 : decode b_Mo_init 511 = .ok (.newarray .int, 2) := by decide +kernel
theorem e_Mo_init_513 : decode b_Mo_init 513 = .ok (.putfield 211, 3) := by decide +kernel
theorem e_Mo_init_516 : decode b_Mo_init 516 = .ok (.aload_n 0, 1) := by decide +kernel
theorem e_Mo_init_517 : decode b_Mo_init 517 = .ok (.bipush 10, 2) := by decide +kernel
theorem e_Mo_init_519 : decode b_Mo_init 519 = .ok (.newarray .int, 2) := by decide +kernel
theorem e_Mo_init_521 : decode b_Mo_init 521 = .ok (.putfield 214, 3) := by decide +kernel
theorem e_Mo_init_524 : decode b_Mo_init 524 = .ok (.aload_n 0, 1) := by decide +kernel
theorem e_Mo_init_525 : decode b_Mo_init 525 = .ok (.bipush 10, 2) := by decide +kernel
theorem e_Mo_init_527 : decode b_Mo_init 527 = .ok (.newarray .int, 2) := by decide +kernel
theorem e_Mo_init_529 : decode b_Mo_init 529 = .ok (.putfield 217, 3) := by decide +kernel
theorem e_Mo_init_532 : decode b_Mo_init 532 = .ok (.aload_n 0, 1) := by decide +kernel
theorem e_Mo_init_533 : decode b_Mo_init 533 = .ok (.bipush 8, 2) := by decide +kernel
theorem e_Mo_init_535 : decode b_Mo_init 535 = .ok (.newarray .int, 2) := by decide +kernel
theorem e_Mo_init_537 : decode b_Mo_init 537 = .ok (.putfield 220, 3) := by decide +kernel
theorem e_Mo_init_540 : decode b_Mo_init 540 = .ok (.aload_n 0, 1) := by decide +kernel
theorem e_Mo_init_541 : decode b_Mo_init 541 = .ok (.bipush 8, 2) := by decide +kernel
theorem e_Mo_init_543 : decode b_Mo_init 543 = .ok (.newarray .int, 2) := by decide +kernel
theorem e_Mo_init_545 : decode b_Mo_init 545 = .ok (.putfield 223, 3) := by decide +kernel
theorem e_Mo_init_548 : decode b_Mo_init 548 = .ok (.aload_n 0, 1) := by decide +kernel
theorem e_Mo_init_549 : decode b_Mo_init 549 = .ok (.iconst 0, 1) := by decide +kernel
theorem e_Mo_init_550 : decode b_Mo_init 550 = .ok (.putfield 226, 3) := by decide +kernel
theorem e_Mo_init_553 : decode b_Mo_init 553 = .ok (.aload_n 0, 1) := by decide +kernel
theorem e_Mo_init_554 : decode b_Mo_init 554 = .ok (.bipush 20, 2) := by decide +kernel
theorem e_Mo_init_556 : decode b_Mo_init 556 = .ok (.newarray .int, 2) := by decide +kernel
theorem e_Mo_init_558 : decode b_Mo_init 558 = .ok (.putfield 229, 3) := by decide +kernel
theorem e_Mo_init_561 : decode b_Mo_init 561 = .ok (.aload_n 0, 1) := by decide +kernel
theorem e_Mo_init_562 : decode b_Mo_init 562 = .ok (.bipush 6, 2) := by decide +kernel
theorem e_Mo_init_564 : decode b_Mo_init 564 = .ok (.newarray .int, 2) := by decide +kernel
theorem e_Mo_init_566 : decode b_Mo_init 566 = .ok (.dup, 1) := by decide +kernel
theorem e_Mo_init_567 : decode b_Mo_init 567 = .ok (.iconst 0, 1) := by decide +kernel
theorem e_Mo_init_568 : decode b_Mo_init 568 = .ok (.iconst (-1), 1) := by decide +kernel
theorem e_Mo_init_569 : decode b_Mo_init 569 = .ok (.iastore, 1) := by decide +kernel
theorem e_Mo_init_570 : decode b_Mo_init 570 = .ok (.dup, 1) := by decide +kernel
theorem e_Mo_init_571 : decode b_Mo_init 571 = .ok (.iconst 1, 1) := by decide +kernel
theorem e_Mo_init_572 : decode b_Mo_init 572 = .ok (.iconst (-1), 1) := by decide +kernel
theorem e_Mo_init_573 : decode b_Mo_init 573 = .ok (.iastore, 1) := by decide +kernel
theorem e_Mo_init_574 : decode b_Mo_init 574 = .ok (.dup, 1) := by decide +kernel
theorem e_Mo_init_575 : decode b_Mo_init 575 = .ok (.iconst 2, 1) := by decide +kernel
theorem e_Mo_init_576 : decode b_Mo_init 576 = .ok (.iconst (-1), 1) := by decide +kernel
theorem e_Mo_init_577 : decode b_Mo_init 577 = .ok (.iastore, 1) := by decide +kernel
theorem e_Mo_init_578 : decode b_Mo_init 578 = .ok (.dup, 1) := by decide +kernel
theorem e_Mo_init_579 : decode b_Mo_init 579 = .ok (.iconst 3, 1) := by decide +kernel
theorem e_Mo_init_580 : decode b_Mo_init 580 = .ok (.iconst (-1), 1) := by decide +kernel
theorem e_Mo_init_581 : decode b_Mo_init 581 = .ok (.iastore, 1) := by decide +kernel
theorem e_Mo_init_582 : decode b_Mo_init 582 = .ok (.dup, 1) := by decide +kernel
theorem e_Mo_init_583 : decode b_Mo_init 583 = .ok (.iconst 4, 1) := by decide +kernel
theorem e_Mo_init_584 : decode b_Mo_init 584 = .ok (.iconst (-1), 1) := by decide +kernel
theorem e_Mo_init_585 : decode b_Mo_init 585 = .ok (.iastore, 1) := by decide +kernel
theorem e_Mo_init_586 : decode b_Mo_init 586 = .ok (.dup, 1) := by decide +kernel
theorem e_Mo_init_587 : decode b_Mo_init 587 = .ok (.iconst 5, 1) := by decide +kernel
theorem e_Mo_init_588 : decode b_Mo_init 588 = .ok (.iconst (-1), 1) := by decide +kernel
theorem e_Mo_init_589 : decode b_Mo_init 589 = .ok (.iastore, 1) := by decide +kernel
theorem e_Mo_init_590 : decode b_Mo_init 590 = .ok (.putfield 232, 3) := by decide +kernel
theorem e_Mo_init_593 : decode b_Mo_init 593 = .ok (.aload_n 0, 1) := by decide +kernel
theorem e_Mo_init_594 : decode b_Mo_init 594 = .ok (.bipush 6, 2) := by decide +kernel
theorem e_Mo_init_596 : decode b_Mo_init 596 = .ok (.newarray .int, 2) := by decide +kernel
theorem e_Mo_init_598 : decode b_Mo_init 598 = .ok (.putfield 235, 3) := by decide +kernel
theorem e_Mo_init_601 : decode b_Mo_init 601 = .ok (.aload_n 0, 1) := by decide +kernel
theorem e_Mo_init_602 : decode b_Mo_init 602 = .ok (.sipush 360, 3) := by decide +kernel
theorem e_Mo_init_605 : decode b_Mo_init 605 = .ok (.newarray .long, 2) := by decide +kernel
theorem e_Mo_init_607 : decode b_Mo_init 607 = .ok (.putfield 238, 3) := by decide +kernel
theorem e_Mo_init_610 : decode b_Mo_init 610 = .ok (.aload_n 0, 1) := by decide +kernel
theorem e_Mo_init_611 : decode b_Mo_init 611 = .ok (.bipush 60, 2) := by decide +kernel
theorem e_Mo_init_613 : decode b_Mo_init 613 = .ok (.newarray .long, 2) := by decide +kernel
theorem e_Mo_init_615 : decode b_Mo_init 615 = .ok (.putfield 242, 3) := by decide +kernel
theorem e_Mo_init_618 : decode b_Mo_init 618 = .ok (.return_, 1) := by decide +kernel
theorem e_Mo_in_0 : decode b_Mo_in 0 = .ok (.iload_n 1, 1) := by decide +kernel
theorem e_Mo_in_1 : decode b_Mo_in 1 = .ok (.iload_n 2, 1) := by decide +kernel
theorem e_Mo_in_2 : decode b_Mo_in 2 = .ok (.if_icmp .lt 12, 3) := by decide +kernel
theorem e_Mo_in_5 : decode b_Mo_in 5 = .ok (.iload_n 1, 1) := by decide +kernel
theorem e_Mo_in_6 : decode b_Mo_in 6 = .ok (.iload_n 3, 1) := by decide +kernel
theorem e_Mo_in_7 : decode b_Mo_in 7 = .ok (.if_icmp .gt 7, 3) := by decide +kernel
theorem e_Mo_in_10 : decode b_Mo_in 10 = .ok (.iconst 1, 1) := by decide +kernel
theorem e_Mo_in_11 : decode b_Mo_in 11 = .ok (.goto 4, 3) := by decide +kernel
theorem e_Mo_in_14 : decode b_Mo_in 14 = .ok (.iconst 0, 1) := by decide +kernel
theorem e_Mo_in_15 : decode b_Mo_in 15 = .ok (.ireturn, 1) := by decide +kernel
theorem e_Mo_has_0 : decode b_Mo_has 0 = .ok (.iload_n 1, 1) := by decide +kernel
theorem e_Mo_has_1 : decode b_Mo_has 1 = .ok (.iload_n 2, 1) := by decide +kernel
theorem e_Mo_has_2 : decode b_Mo_has 2 = .ok (.ishr, 1) := by decide +kernel
theorem e_Mo_has_3 : decode b_Mo_has 3 = .ok (.iconst 1, 1) := by decide +kernel
theorem e_Mo_has_4 : decode b_Mo_has 4 = .ok (.iand, 1) := by decide +kernel
theorem e_Mo_has_5 : decode b_Mo_has 5 = .ok (.iconst 1, 1) := by decide +kernel
theorem e_Mo_has_6 : decode b_Mo_has 6 = .ok (.if_icmp .ne 7, 3) := by decide +kernel
theorem e_Mo_has_9 : decode b_Mo_has 9 = .ok (.iconst 1, 1) := by decide +kernel
theorem e_Mo_has_10 : decode b_Mo_has 10 = .ok (.goto 4, 3) := by decide +kernel
theorem e_Mo_has_13 : decode b_Mo_has 13 = .ok (.iconst 0, 1) := by decide +kernel
theorem e_Mo_has_14 : decode b_Mo_has 14 = .ok (.ireturn, 1) := by decide +kernel
theorem e_Mo_least_0 : decode b_Mo_least 0 = .ok (.iload_n 1, 1) := by decide +kernel
theorem e_Mo_least_1 : decode b_Mo_least 1 = .ok (.iload_n 2, 1) := by decide +kernel
theorem e_Mo_least_2 : decode b_Mo_least 2 = .ok (.if_icmp .ge 7, 3) := by decide +kernel
theorem e_Mo_least_5 : decode b_Mo_least 5 = .ok (.iload_n 1, 1) := by decide +kernel
theorem e_Mo_least_6 : decode b_Mo_least 6 = .ok (.goto 4, 3) := by decide +kernel
theorem e_Mo_least_9 : decode b_Mo_least 9 = .ok (.iload_n 2, 1) := by decide +kernel
theorem e_Mo_least_10 : decode b_Mo_least 10 = .ok (.ireturn, 1) := by decide +kernel
theorem e_Mo_apart_0 : decode b_Mo_apart 0 = .ok (.iload_n 1, 1) := by decide +kernel
theorem e_Mo_apart_1 : decode b_Mo_apart 1 = .ok (.iload_n 2, 1) := by decide +kernel
theorem e_Mo_apart_2 : decode b_Mo_apart 2 = .ok (.if_icmp .ge 9, 3) := by decide +kernel
theorem e_Mo_apart_5 : decode b_Mo_apart 5 = .ok (.iload_n 2, 1) := by decide +kernel
theorem e_Mo_apart_6 : decode b_Mo_apart 6 = .ok (.iload_n 1, 1) := by decide +kernel
theorem e_Mo_apart_7 : decode b_Mo_apart 7 = .ok (.isub, 1) := by decide +kernel
theorem e_Mo_apart_8 : decode b_Mo_apart 8 = .ok (.goto 6, 3) := by decide +kernel
theorem e_Mo_apart_11 : decode b_Mo_apart 11 = .ok (.iload_n 1, 1) := by decide +kernel
theorem e_Mo_apart_12 : decode b_Mo_apart 12 = .ok (.iload_n 2, 1) := by decide +kernel
theorem e_Mo_apart_13 : decode b_Mo_apart 13 = .ok (.isub, 1) := by decide +kernel
theorem e_Mo_apart_14 : decode b_Mo_apart 14 = .ok (.ireturn, 1) := by decide +kernel
theorem e_Mo_bits_0 : decode b_Mo_bits 0 = .ok (.iconst 0, 1) := by decide +kernel
theorem e_Mo_bits_1 : decode b_Mo_bits 1 = .ok (.istore_n 2, 1) := by decide +kernel
theorem e_Mo_bits_2 : decode b_Mo_bits 2 = .ok (.iconst 0, 1) := by decide +kernel
theorem e_Mo_bits_3 : decode b_Mo_bits 3 = .ok (.istore_n 3, 1) := by decide +kernel
theorem e_Mo_bits_4 : decode b_Mo_bits 4 = .ok (.iload_n 3, 1) := by decide +kernel
theorem e_Mo_bits_5 : decode b_Mo_bits 5 = .ok (.bipush 6, 2) := by decide +kernel
theorem e_Mo_bits_7 : decode b_Mo_bits 7 = .ok (.if_icmp .ge 26, 3) := by decide +kernel
theorem e_Mo_bits_10 : decode b_Mo_bits 10 = .ok (.iload_n 2, 1) := by decide +kernel
theorem e_Mo_bits_11 : decode b_Mo_bits 11 = .ok (.aload_n 0, 1) := by decide +kernel
theorem e_Mo_bits_12 : decode b_Mo_bits 12 = .ok (.iload_n 1, 1) := by decide +kernel
theorem e_Mo_bits_13 : decode b_Mo_bits 13 = .ok (.iload_n 3, 1) := by decide +kernel
theorem e_Mo_bits_14 : decode b_Mo_bits 14 = .ok (.invokevirtual 245, 3) := by decide +kernel
theorem e_Mo_bits_17 : decode b_Mo_bits 17 = .ok (.ifCond .eq 7, 3) := by decide +kernel
theorem e_Mo_bits_20 : decode b_Mo_bits 20 = .ok (.iconst 1, 1) := by decide +kernel
theorem e_Mo_bits_21 : decode b_Mo_bits 21 = .ok (.goto 4, 3) := by decide +kernel
theorem e_Mo_bits_24 : decode b_Mo_bits 24 = .ok (.iconst 0, 1) := by decide +kernel
theorem e_Mo_bits_25 : decode b_Mo_bits 25 = .ok (.iadd, 1) := by decide +kernel
theorem e_Mo_bits_26 : decode b_Mo_bits 26 = .ok (.istore_n 2, 1) := by decide +kernel
theorem e_Mo_bits_27 : decode b_Mo_bits 27 = .ok (.iinc 3 1, 3) := by decide +kernel
theorem e_Mo_bits_30 : decode b_Mo_bits 30 = .ok (.goto (-26), 3) := by decide +kernel
theorem e_Mo_bits_33 : decode b_Mo_bits 33 = .ok (.iload_n 2, 1) := by decide +kernel
theorem e_Mo_bits_34 : decode b_Mo_bits 34 = .ok (.ireturn, 1) := by decide +kernel
theorem e_Mo_isThing_0 : decode b_Mo_isThing 0 = .ok (.aload_n 0, 1) := by decide +kernel
theorem e_Mo_isThing_1 : decode b_Mo_isThing 1 = .ok (.iload_n 1, 1) := by decide +kernel
theorem e_Mo_isThing_2 : decode b_Mo_isThing 2 = .ok (.iconst 0, 1) := by decide +kernel
theorem e_Mo_isThing_3 : decode b_Mo_isThing 3 = .ok (.aload_n 0, 1) := by decide +kernel
theorem e_Mo_isThing_4 : decode b_Mo_isThing 4 = .ok (.getfield 7, 3) := by decide +kernel
theorem e_Mo_isThing_7 : decode b_Mo_isThing 7 = .ok (.iconst 1, 1) := by decide +kernel
theorem e_Mo_isThing_8 : decode b_Mo_isThing 8 = .ok (.isub, 1) := by decide +kernel
theorem e_Mo_isThing_9 : decode b_Mo_isThing 9 = .ok (.invokevirtual 249, 3) := by decide +kernel
theorem e_Mo_isThing_12 : decode b_Mo_isThing 12 = .ok (.ireturn, 1) := by decide +kernel
theorem e_Mo_isWeight_0 : decode b_Mo_isWeight 0 = .ok (.aload_n 0, 1) := by decide +kernel
theorem e_Mo_isWeight_1 : decode b_Mo_isWeight 1 = .ok (.iload_n 1, 1) := by decide +kernel
theorem e_Mo_isWeight_2 : decode b_Mo_isWeight 2 = .ok (.iconst 0, 1) := by decide +kernel
theorem e_Mo_isWeight_3 : decode b_Mo_isWeight 3 = .ok (.bipush 20, 2) := by decide +kernel
theorem e_Mo_isWeight_5 : decode b_Mo_isWeight 5 = .ok (.invokevirtual 249, 3) := by decide +kernel
theorem e_Mo_isWeight_8 : decode b_Mo_isWeight 8 = .ok (.ireturn, 1) := by decide +kernel
theorem e_Mo_isMinutes_0 : decode b_Mo_isMinutes 0 = .ok (.aload_n 0, 1) := by decide +kernel
theorem e_Mo_isMinutes_1 : decode b_Mo_isMinutes 1 = .ok (.iload_n 1, 1) := by decide +kernel
theorem e_Mo_isMinutes_2 : decode b_Mo_isMinutes 2 = .ok (.iconst 0, 1) := by decide +kernel
theorem e_Mo_isMinutes_3 : decode b_Mo_isMinutes 3 = .ok (.bipush 60, 2) := by decide +kernel
theorem e_Mo_isMinutes_5 : decode b_Mo_isMinutes 5 = .ok (.invokevirtual 249, 3) := by decide +kernel
theorem e_Mo_isMinutes_8 : decode b_Mo_isMinutes 8 = .ok (.ireturn, 1) := by decide +kernel
theorem e_Mo_thing_0 : decode b_Mo_thing 0 = .ok (.aload_n 0, 1) := by decide +kernel
theorem e_Mo_thing_1 : decode b_Mo_thing 1 = .ok (.iload_n 1, 1) := by decide +kernel
theorem e_Mo_thing_2 : decode b_Mo_thing 2 = .ok (.iconst 0, 1) := by decide +kernel
theorem e_Mo_thing_3 : decode b_Mo_thing 3 = .ok (.bipush 6, 2) := by decide +kernel
theorem e_Mo_thing_5 : decode b_Mo_thing 5 = .ok (.invokevirtual 249, 3) := by decide +kernel
theorem e_Mo_thing_8 : decode b_Mo_thing 8 = .ok (.ifCond .ne 5, 3) := by decide +kernel
theorem e_Mo_thing_11 : decode b_Mo_thing 11 = .ok (.iconst (-1), 1) := by decide +kernel
theorem e_Mo_thing_12 : decode b_Mo_thing 12 = .ok (.ireturn, 1) := by decide +kernel
theorem e_Mo_thing_13 : decode b_Mo_thing 13 = .ok (.aload_n 0, 1) := by decide +kernel
theorem e_Mo_thing_14 : decode b_Mo_thing 14 = .ok (.iload_n 2, 1) := by decide +kernel
theorem e_Mo_thing_15 : decode b_Mo_thing 15 = .ok (.iconst 0, 1) := by decide +kernel
theorem e_Mo_thing_16 : decode b_Mo_thing 16 = .ok (.bipush 9, 2) := by decide +kernel
theorem e_Mo_thing_18 : decode b_Mo_thing 18 = .ok (.invokevirtual 249, 3) := by decide +kernel
theorem e_Mo_thing_21 : decode b_Mo_thing 21 = .ok (.ifCond .eq 22, 3) := by decide +kernel
theorem e_Mo_thing_24 : decode b_Mo_thing 24 = .ok (.aload_n 0, 1) := by decide +kernel
theorem e_Mo_thing_25 : decode b_Mo_thing 25 = .ok (.iload_n 3, 1) := by decide +kernel
theorem e_Mo_thing_26 : decode b_Mo_thing 26 = .ok (.invokevirtual 253, 3) := by decide +kernel
theorem e_Mo_thing_29 : decode b_Mo_thing 29 = .ok (.ifCond .eq 14, 3) := by decide +kernel
theorem e_Mo_thing_32 : decode b_Mo_thing 32 = .ok (.aload_n 0, 1) := by decide +kernel
theorem e_Mo_thing_33 : decode b_Mo_thing 33 = .ok (.iload 4, 2) := by decide +kernel
theorem e_Mo_thing_35 : decode b_Mo_thing 35 = .ok (.iconst 0, 1) := by decide +kernel
theorem e_Mo_thing_36 : decode b_Mo_thing 36 = .ok (.iconst 1, 1) := by decide +kernel
theorem e_Mo_thing_37 : decode b_Mo_thing 37 = .ok (.invokevirtual 249, 3) := by decide +kernel
theorem e_Mo_thing_40 : decode b_Mo_thing 40 = .ok (.ifCond .ne 6, 3) := by decide +kernel
theorem e_Mo_thing_43 : decode b_Mo_thing 43 = .ok (.bipush (-2), 2) := by decide +kernel
theorem e_Mo_thing_45 : decode b_Mo_thing 45 = .ok (.ireturn, 1) := by decide +kernel
theorem e_Mo_thing_46 : decode b_Mo_thing 46 = .ok (.aload_n 0, 1) := by decide +kernel
theorem e_Mo_thing_47 : decode b_Mo_thing 47 = .ok (.getfield 7, 3) := by decide +kernel
theorem e_Mo_thing_50 : decode b_Mo_thing 50 = .ok (.bipush 6, 2) := by decide +kernel
theorem e_Mo_thing_52 : decode b_Mo_thing 52 = .ok (.if_icmp .ne 6, 3) := by decide +kernel
theorem e_Mo_thing_55 : decode b_Mo_thing 55 = .ok (.bipush (-4), 2) := by decide +kernel
theorem e_Mo_thing_57 : decode b_Mo_thing 57 = .ok (.ireturn, 1) := by decide +kernel
theorem e_Mo_thing_58 : decode b_Mo_thing 58 = .ok (.aload_n 0, 1) := by decide +kernel
theorem e_Mo_thing_59 : decode b_Mo_thing 59 = .ok (.getfield 26, 3) := by decide +kernel
theorem e_Mo_thing_62 : decode b_Mo_thing 62 = .ok (.aload_n 0, 1) := by decide +kernel
theorem e_Mo_thing_63 : decode b_Mo_thing 63 = .ok (.getfield 7, 3) := by decide +kernel
theorem e_Mo_thing_66 : decode b_Mo_thing 66 = .ok (.iload_n 1, 1) := by decide +kernel
theorem e_Mo_thing_67 : decode b_Mo_thing 67 = .ok (.iastore, 1) := by decide +kernel
theorem e_Mo_thing_68 : decode b_Mo_thing 68 = .ok (.aload_n 0, 1) := by decide +kernel
theorem e_Mo_thing_69 : decode b_Mo_thing 69 = .ok (.getfield 30, 3) := by decide +kernel
theorem e_Mo_thing_72 : decode b_Mo_thing 72 = .ok (.aload_n 0, 1) := by decide +kernel
theorem e_Mo_thing_73 : decode b_Mo_thing 73 = .ok (.getfield 7, 3) := by decide +kernel
theorem e_Mo_thing_76 : decode b_Mo_thing 76 = .ok (.iload_n 2, 1) := by decide +kernel
theorem e_Mo_thing_77 : decode b_Mo_thing 77 = .ok (.iastore, 1) := by decide +kernel
theorem e_Mo_thing_78 : decode b_Mo_thing 78 = .ok (.aload_n 0, 1) := by decide +kernel
theorem e_Mo_thing_79 : decode b_Mo_thing 79 = .ok (.getfield 33, 3) := by decide +kernel
theorem e_Mo_thing_82 : decode b_Mo_thing 82 = .ok (.aload_n 0, 1) := by decide +kernel
theorem e_Mo_thing_83 : decode b_Mo_thing 83 = .ok (.getfield 7, 3) := by decide +kernel
theorem e_Mo_thing_86 : decode b_Mo_thing 86 = .ok (.iload_n 3, 1) := by decide +kernel
theorem e_Mo_thing_87 : decode b_Mo_thing 87 = .ok (.iastore, 1) := by decide +kernel
theorem e_Mo_thing_88 : decode b_Mo_thing 88 = .ok (.aload_n 0, 1) := by decide +kernel
theorem e_Mo_thing_89 : decode b_Mo_thing 89 = .ok (.getfield 36, 3) := by decide +kernel
theorem e_Mo_thing_92 : decode b_Mo_thing 92 = .ok (.aload_n 0, 1) := by decide +kernel
theorem e_Mo_thing_93 : decode b_Mo_thing 93 = .ok (.getfield 7, 3) := by decide +kernel
theorem e_Mo_thing_96 : decode b_Mo_thing 96 = .ok (.iload 4, 2) := by decide +kernel
theorem e_Mo_thing_98 : decode b_Mo_thing 98 = .ok (.iastore, 1) := by decide +kernel
theorem e_Mo_thing_99 : decode b_Mo_thing 99 = .ok (.aload_n 0, 1) := by decide +kernel
theorem e_Mo_thing_100 : decode b_Mo_thing 100 = .ok (.getfield 39, 3) := by decide +kernel
theorem e_Mo_thing_103 : decode b_Mo_thing 103 = .ok (.aload_n 0, 1) := by decide +kernel
theorem e_Mo_thing_104 : decode b_Mo_thing 104 = .ok (.getfield 7, 3) := by decide +kernel
theorem e_Mo_thing_107 : decode b_Mo_thing 107 = .ok (.iconst 0, 1) := by decide +kernel
theorem e_Mo_thing_108 : decode b_Mo_thing 108 = .ok (.iastore, 1) := by decide +kernel
theorem e_Mo_thing_109 : decode b_Mo_thing 109 = .ok (.aload_n 0, 1) := by decide +kernel
theorem e_Mo_thing_110 : decode b_Mo_thing 110 = .ok (.getfield 42, 3) := by decide +kernel
theorem e_Mo_thing_113 : decode b_Mo_thing 113 = .ok (.aload_n 0, 1) := by decide +kernel
theorem e_Mo_thing_114 : decode b_Mo_thing 114 = .ok (.getfield 7, 3) := by decide +kernel
theorem e_Mo_thing_117 : decode b_Mo_thing 117 = .ok (.iconst 0, 1) := by decide +kernel
theorem e_Mo_thing_118 : decode b_Mo_thing 118 = .ok (.iastore, 1) := by decide +kernel
theorem e_Mo_thing_119 : decode b_Mo_thing 119 = .ok (.iconst 0, 1) := by decide +kernel
theorem e_Mo_thing_120 : decode b_Mo_thing 120 = .ok (.istore 5, 2) := by decide +kernel
theorem e_Mo_thing_122 : decode b_Mo_thing 122 = .ok (.iload 5, 2) := by decide +kernel
theorem e_Mo_thing_124 : decode b_Mo_thing 124 = .ok (.iconst 4, 1) := by decide +kernel
theorem e_Mo_thing_125 : decode b_Mo_thing 125 = .ok (.if_icmp .ge 24, 3) := by decide +kernel
theorem e_Mo_thing_128 : decode b_Mo_thing 128 = .ok (.aload_n 0, 1) := by decide +kernel
theorem e_Mo_thing_129 : decode b_Mo_thing 129 = .ok (.getfield 45, 3) := by decide +kernel
theorem e_Mo_thing_132 : decode b_Mo_thing 132 = .ok (.iconst 4, 1) := by decide +kernel
theorem e_Mo_thing_133 : decode b_Mo_thing 133 = .ok (.aload_n 0, 1) := by decide +kernel
theorem e_Mo_thing_134 : decode b_Mo_thing 134 = .ok (.getfield 7, 3) := by decide +kernel
theorem e_Mo_thing_137 : decode b_Mo_thing 137 = .ok (.imul, 1) := by decide +kernel
theorem e_Mo_thing_138 : decode b_Mo_thing 138 = .ok (.iload 5, 2) := by decide +kernel
theorem e_Mo_thing_140 : decode b_Mo_thing 140 = .ok (.iadd, 1) := by decide +kernel
theorem e_Mo_thing_141 : decode b_Mo_thing 141 = .ok (.iconst 0, 1) := by decide +kernel
theorem e_Mo_thing_142 : decode b_Mo_thing 142 = .ok (.iastore, 1) := by decide +kernel
theorem e_Mo_thing_143 : decode b_Mo_thing 143 = .ok (.iinc 5 1, 3) := by decide +kernel
theorem e_Mo_thing_146 : decode b_Mo_thing 146 = .ok (.goto (-24), 3) := by decide +kernel
theorem e_Mo_thing_149 : decode b_Mo_thing 149 = .ok (.aload_n 0, 1) := by decide +kernel
theorem e_Mo_thing_150 : decode b_Mo_thing 150 = .ok (.dup, 1) := by decide +kernel
theorem e_Mo_thing_151 : decode b_Mo_thing 151 = .ok (.getfield 7, 3) := by decide +kernel
theorem e_Mo_thing_154 : decode b_Mo_thing 154 = .ok (.iconst 1, 1) := by decide +kernel
theorem e_Mo_thing_155 : decode b_Mo_thing 155 = .ok (.iadd, 1) := by decide +kernel
theorem e_Mo_thing_156 : decode b_Mo_thing 156 = .ok (.putfield 7, 3) := by decide +kernel
theorem e_Mo_thing_159 : decode b_Mo_thing 159 = .ok (.aload_n 0, 1) := by decide +kernel
theorem e_Mo_thing_160 : decode b_Mo_thing 160 = .ok (.getfield 7, 3) := by decide +kernel
theorem e_Mo_thing_163 : decode b_Mo_thing 163 = .ok (.iconst 1, 1) := by decide +kernel
theorem e_Mo_thing_164 : decode b_Mo_thing 164 = .ok (.isub, 1) := by decide +kernel
theorem e_Mo_thing_165 : decode b_Mo_thing 165 = .ok (.ireturn, 1) := by decide +kernel
theorem e_Mo_setOf_0 : decode b_Mo_setOf 0 = .ok (.iconst 0, 1) := by decide +kernel
theorem e_Mo_setOf_1 : decode b_Mo_setOf 1 = .ok (.istore_n 2, 1) := by decide +kernel
theorem e_Mo_setOf_2 : decode b_Mo_setOf 2 = .ok (.iconst 0, 1) := by decide +kernel
theorem e_Mo_setOf_3 : decode b_Mo_setOf 3 = .ok (.istore_n 3, 1) := by decide +kernel
theorem e_Mo_setOf_4 : decode b_Mo_setOf 4 = .ok (.iload_n 3, 1) := by decide +kernel
theorem e_Mo_setOf_5 : decode b_Mo_setOf 5 = .ok (.aload_n 0, 1) := by decide +kernel
theorem e_Mo_setOf_6 : decode b_Mo_setOf 6 = .ok (.getfield 7, 3) := by decide +kernel
theorem e_Mo_setOf_9 : decode b_Mo_setOf 9 = .ok (.if_icmp .ge 29, 3) := by decide +kernel
theorem e_Mo_setOf_12 : decode b_Mo_setOf 12 = .ok (.iload_n 2, 1) := by decide +kernel
theorem e_Mo_setOf_13 : decode b_Mo_setOf 13 = .ok (.aload_n 0, 1) := by decide +kernel
theorem e_Mo_setOf_14 : decode b_Mo_setOf 14 = .ok (.getfield 39, 3) := by decide +kernel
theorem e_Mo_setOf_17 : decode b_Mo_setOf 17 = .ok (.iload_n 3, 1) := by decide +kernel
theorem e_Mo_setOf_18 : decode b_Mo_setOf 18 = .ok (.iaload, 1) := by decide +kernel
theorem e_Mo_setOf_19 : decode b_Mo_setOf 19 = .ok (.iload_n 1, 1) := by decide +kernel
theorem e_Mo_setOf_20 : decode b_Mo_setOf 20 = .ok (.if_icmp .ne 9, 3) := by decide +kernel
theorem e_Mo_setOf_23 : decode b_Mo_setOf 23 = .ok (.iconst 1, 1) := by decide +kernel
theorem e_Mo_setOf_24 : decode b_Mo_setOf 24 = .ok (.iload_n 3, 1) := by decide +kernel
theorem e_Mo_setOf_25 : decode b_Mo_setOf 25 = .ok (.ishl, 1) := by decide +kernel
theorem e_Mo_setOf_26 : decode b_Mo_setOf 26 = .ok (.goto 4, 3) := by decide +kernel
theorem e_Mo_setOf_29 : decode b_Mo_setOf 29 = .ok (.iconst 0, 1) := by decide +kernel
theorem e_Mo_setOf_30 : decode b_Mo_setOf 30 = .ok (.ior, 1) := by decide +kernel
theorem e_Mo_setOf_31 : decode b_Mo_setOf 31 = .ok (.istore_n 2, 1) := by decide +kernel
theorem e_Mo_setOf_32 : decode b_Mo_setOf 32 = .ok (.iinc 3 1, 3) := by decide +kernel
theorem e_Mo_setOf_35 : decode b_Mo_setOf 35 = .ok (.goto (-31), 3) := by decide +kernel
theorem e_Mo_setOf_38 : decode b_Mo_setOf 38 = .ok (.iload_n 2, 1) := by decide +kernel
theorem e_Mo_setOf_39 : decode b_Mo_setOf 39 = .ok (.ireturn, 1) := by decide +kernel
theorem e_Mo_puts_0 : decode b_Mo_puts 0 = .ok (.aload_n 0, 1) := by decide +kernel
theorem e_Mo_puts_1 : decode b_Mo_puts 1 = .ok (.getfield 39, 3) := by decide +kernel
theorem e_Mo_puts_4 : decode b_Mo_puts 4 = .ok (.iload_n 1, 1) := by decide +kernel
theorem e_Mo_puts_5 : decode b_Mo_puts 5 = .ok (.iconst 1, 1) := by decide +kernel
theorem e_Mo_puts_6 : decode b_Mo_puts 6 = .ok (.iastore, 1) := by decide +kernel
theorem e_Mo_puts_7 : decode b_Mo_puts 7 = .ok (.aload_n 0, 1) := by decide +kernel
theorem e_Mo_puts_8 : decode b_Mo_puts 8 = .ok (.getfield 42, 3) := by decide +kernel
theorem e_Mo_puts_11 : decode b_Mo_puts 11 = .ok (.iload_n 1, 1) := by decide +kernel
theorem e_Mo_puts_12 : decode b_Mo_puts 12 = .ok (.iconst 0, 1) := by decide +kernel
theorem e_Mo_puts_13 : decode b_Mo_puts 13 = .ok (.iastore, 1) := by decide +kernel
theorem e_Mo_puts_14 : decode b_Mo_puts 14 = .ok (.return_, 1) := by decide +kernel
theorem e_Mo_put_0 : decode b_Mo_put 0 = .ok (.aload_n 0, 1) := by decide +kernel
theorem e_Mo_put_1 : decode b_Mo_put 1 = .ok (.iload_n 1, 1) := by decide +kernel
theorem e_Mo_put_2 : decode b_Mo_put 2 = .ok (.invokevirtual 257, 3) := by decide +kernel
theorem e_Mo_put_5 : decode b_Mo_put 5 = .ok (.ifCond .ne 5, 3) := by decide +kernel
theorem e_Mo_put_8 : decode b_Mo_put 8 = .ok (.iconst (-1), 1) := by decide +kernel
theorem e_Mo_put_9 : decode b_Mo_put 9 = .ok (.ireturn, 1) := by decide +kernel
theorem e_Mo_put_10 : decode b_Mo_put 10 = .ok (.aload_n 0, 1) := by decide +kernel
theorem e_Mo_put_11 : decode b_Mo_put 11 = .ok (.getfield 39, 3) := by decide +kernel
theorem e_Mo_put_14 : decode b_Mo_put 14 = .ok (.iload_n 1, 1) := by decide +kernel
theorem e_Mo_put_15 : decode b_Mo_put 15 = .ok (.iaload, 1) := by decide +kernel
theorem e_Mo_put_16 : decode b_Mo_put 16 = .ok (.ifCond .eq 6, 3) := by decide +kernel
theorem e_Mo_put_19 : decode b_Mo_put 19 = .ok (.bipush (-3), 2) := by decide +kernel
theorem e_Mo_put_21 : decode b_Mo_put 21 = .ok (.ireturn, 1) := by decide +kernel
theorem e_Mo_put_22 : decode b_Mo_put 22 = .ok (.aload_n 0, 1) := by decide +kernel
theorem e_Mo_put_23 : decode b_Mo_put 23 = .ok (.iload_n 1, 1) := by decide +kernel
theorem e_Mo_put_24 : decode b_Mo_put 24 = .ok (.invokevirtual 260, 3) := by decide +kernel
theorem e_Mo_put_27 : decode b_Mo_put 27 = .ok (.aload_n 0, 1) := by decide +kernel
theorem e_Mo_put_28 : decode b_Mo_put 28 = .ok (.aload_n 0, 1) := by decide +kernel
theorem e_Mo_put_29 : decode b_Mo_put 29 = .ok (.iconst 1, 1) := by decide +kernel
theorem e_Mo_put_30 : decode b_Mo_put 30 = .ok (.invokevirtual 264, 3) := by decide +kernel
theorem e_Mo_put_33 : decode b_Mo_put 33 = .ok (.invokevirtual 268, 3) := by decide +kernel
theorem e_Mo_put_36 : decode b_Mo_put 36 = .ok (.ireturn, 1) := by decide +kernel
theorem e_Mo_says_0 : decode b_Mo_says 0 = .ok (.aload_n 0, 1) := by decide +kernel
theorem e_Mo_says_1 : decode b_Mo_says 1 = .ok (.getfield 39, 3) := by decide +kernel
theorem e_Mo_says_4 : decode b_Mo_says 4 = .ok (.iload_n 1, 1) := by decide +kernel
theorem e_Mo_says_5 : decode b_Mo_says 5 = .ok (.iconst 2, 1) := by decide +kernel
theorem e_Mo_says_6 : decode b_Mo_says 6 = .ok (.iastore, 1) := by decide +kernel
theorem e_Mo_says_7 : decode b_Mo_says 7 = .ok (.aload_n 0, 1) := by decide +kernel
theorem e_Mo_says_8 : decode b_Mo_says 8 = .ok (.getfield 22, 3) := by decide +kernel
theorem e_Mo_says_11 : decode b_Mo_says 11 = .ok (.ifCond .ne 41, 3) := by decide +kernel
theorem e_Mo_says_14 : decode b_Mo_says 14 = .ok (.aload_n 0, 1) := by decide +kernel
theorem e_Mo_says_15 : decode b_Mo_says 15 = .ok (.aload_n 0, 1) := by decide +kernel
theorem e_Mo_says_16 : decode b_Mo_says 16 = .ok (.getfield 16, 3) := by decide +kernel
theorem e_Mo_says_19 : decode b_Mo_says 19 = .ok (.bipush 10, 2) := by decide +kernel
theorem e_Mo_says_21 : decode b_Mo_says 21 = .ok (.aload_n 0, 1) := by decide +kernel
theorem e_Mo_says_22 : decode b_Mo_says 22 = .ok (.getfield 33, 3) := by decide +kernel
theorem e_Mo_says_25 : decode b_Mo_says 25 = .ok (.iload_n 1, 1) := by decide +kernel
theorem e_Mo_says_26 : decode b_Mo_says 26 = .ok (.iaload, 1) := by decide +kernel
theorem e_Mo_says_27 : decode b_Mo_says 27 = .ok (.imul, 1) := by decide +kernel
theorem e_Mo_says_28 : decode b_Mo_says 28 = .ok (.if_icmp .ge 7, 3) := by decide +kernel
theorem e_Mo_says_31 : decode b_Mo_says 31 = .ok (.iconst 0, 1) := by decide +kernel
theorem e_Mo_says_32 : decode b_Mo_says 32 = .ok (.goto 17, 3) := by decide +kernel
theorem e_Mo_says_35 : decode b_Mo_says 35 = .ok (.aload_n 0, 1) := by decide +kernel
theorem e_Mo_says_36 : decode b_Mo_says 36 = .ok (.getfield 16, 3) := by decide +kernel
theorem e_Mo_says_39 : decode b_Mo_says 39 = .ok (.bipush 10, 2) := by decide +kernel
theorem e_Mo_says_41 : decode b_Mo_says 41 = .ok (.aload_n 0, 1) := by decide +kernel
theorem e_Mo_says_42 : decode b_Mo_says 42 = .ok (.getfield 33, 3) := by decide +kernel
theorem e_Mo_says_45 : decode b_Mo_says 45 = .ok (.iload_n 1, 1) := by decide +kernel
theorem e_Mo_says_46 : decode b_Mo_says 46 = .ok (.iaload, 1) := by decide +kernel
theorem e_Mo_says_47 : decode b_Mo_says 47 = .ok (.imul, 1) := by decide +kernel
theorem e_Mo_says_48 : decode b_Mo_says 48 = .ok (.isub, 1) := by decide +kernel
theorem e_Mo_says_49 : decode b_Mo_says 49 = .ok (.putfield 16, 3) := by decide +kernel
theorem e_Mo_says_52 : decode b_Mo_says 52 = .ok (.return_, 1) := by decide +kernel
theorem e_Mo_say_0 : decode b_Mo_say 0 = .ok (.aload_n 0, 1) := by decide +kernel
theorem e_Mo_say_1 : decode b_Mo_say 1 = .ok (.iload_n 1, 1) := by decide +kernel
theorem e_Mo_say_2 : decode b_Mo_say 2 = .ok (.invokevirtual 257, 3) := by decide +kernel
theorem e_Mo_say_5 : decode b_Mo_say 5 = .ok (.ifCond .ne 5, 3) := by decide +kernel
theorem e_Mo_say_8 : decode b_Mo_say 8 = .ok (.iconst (-1), 1) := by decide +kernel
theorem e_Mo_say_9 : decode b_Mo_say 9 = .ok (.ireturn, 1) := by decide +kernel
theorem e_Mo_say_10 : decode b_Mo_say 10 = .ok (.aload_n 0, 1) := by decide +kernel
theorem e_Mo_say_11 : decode b_Mo_say 11 = .ok (.getfield 39, 3) := by decide +kernel
theorem e_Mo_say_14 : decode b_Mo_say 14 = .ok (.iload_n 1, 1) := by decide +kernel
theorem e_Mo_say_15 : decode b_Mo_say 15 = .ok (.iaload, 1) := by decide +kernel
theorem e_Mo_say_16 : decode b_Mo_say 16 = .ok (.iconst 2, 1) := by decide +kernel
theorem e_Mo_say_17 : decode b_Mo_say 17 = .ok (.if_icmp .ne 6, 3) := by decide +kernel
theorem e_Mo_say_20 : decode b_Mo_say 20 = .ok (.bipush (-3), 2) := by decide +kernel
theorem e_Mo_say_22 : decode b_Mo_say 22 = .ok (.ireturn, 1) := by decide +kernel
theorem e_Mo_say_23 : decode b_Mo_say 23 = .ok (.aload_n 0, 1) := by decide +kernel
theorem e_Mo_say_24 : decode b_Mo_say 24 = .ok (.iload_n 1, 1) := by decide +kernel
theorem e_Mo_say_25 : decode b_Mo_say 25 = .ok (.invokevirtual 271, 3) := by decide +kernel
theorem e_Mo_say_28 : decode b_Mo_say 28 = .ok (.aload_n 0, 1) := by decide +kernel
theorem e_Mo_say_29 : decode b_Mo_say 29 = .ok (.getfield 16, 3) := by decide +kernel
theorem e_Mo_say_32 : decode b_Mo_say 32 = .ok (.ireturn, 1) := by decide +kernel
