theorem d_C_init_0 : decode c_C_init 0 = .ok (.aload_n 0, 1) := by decide +kernel
theorem d_C_init_1 : decode c_C_init 1 = .ok (.invokespecial 3, 3) := by decide +kernel
theorem d_C_init_4 : decode c_C_init 4 = .ok (.aload_n 0, 1) := by decide +kernel
theorem d_C_init_5 : decode c_C_init 5 = .ok (.new 9, 3) := by decide +kernel
theorem d_C_init_8 : decode c_C_init 8 = .ok (.dup, 1) := by decide +kernel
theorem d_C_init_9 : decode c_C_init 9 = .ok (.invokespecial 11, 3) := by decide +kernel
theorem d_C_init_12 : decode c_C_init 12 = .ok (.putfield 12, 3) := by decide +kernel
theorem d_C_init_15 : decode c_C_init 15 = .ok (.aload_n 0, 1) := by decide +kernel
theorem d_C_init_16 : decode c_C_init 16 = .ok (.new 16, 3) := by decide +kernel
theorem d_C_init_19 : decode c_C_init 19 = .ok (.dup, 1) := by decide +kernel
theorem d_C_init_20 : decode c_C_init 20 = .ok (.invokespecial 18, 3) := by decide +kernel
theorem d_C_init_23 : decode c_C_init 23 = .ok (.putfield 19, 3) := by decide +kernel
theorem d_C_init_26 : decode c_C_init 26 = .ok (.aload_n 0, 1) := by decide +kernel
theorem d_C_init_27 : decode c_C_init 27 = .ok (.bipush 13, 2) := by decide +kernel
theorem d_C_init_29 : decode c_C_init 29 = .ok (.anewarray 23, 3) := by decide +kernel
theorem d_C_init_32 : decode c_C_init 32 = .ok (.putfield 25, 3) := by decide +kernel
theorem d_C_init_35 : decode c_C_init 35 = .ok (.iconst 0, 1) := by decide +kernel
theorem d_C_init_36 : decode c_C_init 36 = .ok (.istore_n 1, 1) := by decide +kernel
theorem d_C_init_37 : decode c_C_init 37 = .ok (.iload_n 1, 1) := by decide +kernel
theorem d_C_init_38 : decode c_C_init 38 = .ok (.bipush 13, 2) := by decide +kernel
theorem d_C_init_40 : decode c_C_init 40 = .ok (.if_icmp .ge 22, 3) := by decide +kernel
theorem d_C_init_43 : decode c_C_init 43 = .ok (.aload_n 0, 1) := by decide +kernel
theorem d_C_init_44 : decode c_C_init 44 = .ok (.getfield 25, 3) := by decide +kernel
theorem d_C_init_47 : decode c_C_init 47 = .ok (.iload_n 1, 1) := by decide +kernel
theorem d_C_init_48 : decode c_C_init 48 = .ok (.new 23, 3) := by decide +kernel
theorem d_C_init_51 : decode c_C_init 51 = .ok (.dup, 1) := by decide +kernel
theorem d_C_init_52 : decode c_C_init 52 = .ok (.invokespecial 29, 3) := by decide +kernel
theorem d_C_init_55 : decode c_C_init 55 = .ok (.aastore, 1) := by decide +kernel
theorem d_C_init_56 : decode c_C_init 56 = .ok (.iinc 1 1, 3) := by decide +kernel
theorem d_C_init_59 : decode c_C_init 59 = .ok (.goto (-22), 3) := by decide +kernel
theorem d_C_init_62 : decode c_C_init 62 = .ok (.aload_n 0, 1) := by decide +kernel
theorem d_C_init_63 : decode c_C_init 63 = .ok (.iconst 2, 1) := by decide +kernel
theorem d_C_init_64 : decode c_C_init 64 = .ok (.iconst 1, 1) := by decide +kernel
theorem d_C_init_65 : decode c_C_init 65 = .ok (.invokevirtual 30, 3) := by decide +kernel
theorem d_C_init_68 : decode c_C_init 68 = .ok (.return_, 1) := by decide +kernel
theorem d_C_begin_0 : decode c_C_begin 0 = .ok (.iload_n 1, 1) := by decide +kernel
theorem d_C_begin_1 : decode c_C_begin 1 = .ok (.iconst 2, 1) := by decide +kernel
theorem d_C_begin_2 : decode c_C_begin 2 = .ok (.if_icmp .lt 13, 3) := by decide +kernel
theorem d_C_begin_5 : decode c_C_begin 5 = .ok (.iload_n 1, 1) := by decide +kernel
theorem d_C_begin_6 : decode c_C_begin 6 = .ok (.bipush 12, 2) := by decide +kernel
theorem d_C_begin_8 : decode c_C_begin 8 = .ok (.if_icmp .gt 7, 3) := by decide +kernel
theorem d_C_begin_11 : decode c_C_begin 11 = .ok (.iconst 1, 1) := by decide +kernel
theorem d_C_begin_12 : decode c_C_begin 12 = .ok (.goto 4, 3) := by decide +kernel
theorem d_C_begin_15 : decode c_C_begin 15 = .ok (.iconst 0, 1) := by decide +kernel
theorem d_C_begin_16 : decode c_C_begin 16 = .ok (.istore_n 3, 1) := by decide +kernel
theorem d_C_begin_17 : decode c_C_begin 17 = .ok (.iload_n 2, 1) := by decide +kernel
theorem d_C_begin_18 : decode c_C_begin 18 = .ok (.iconst 1, 1) := by decide +kernel
theorem d_C_begin_19 : decode c_C_begin 19 = .ok (.if_icmp .lt 17, 3) := by decide +kernel
theorem d_C_begin_22 : decode c_C_begin 22 = .ok (.iload_n 2, 1) := by decide +kernel
theorem d_C_begin_23 : decode c_C_begin 23 = .ok (.iconst 4, 1) := by decide +kernel
theorem d_C_begin_24 : decode c_C_begin 24 = .ok (.if_icmp .gt 12, 3) := by decide +kernel
theorem d_C_begin_27 : decode c_C_begin 27 = .ok (.iload_n 2, 1) := by decide +kernel
theorem d_C_begin_28 : decode c_C_begin 28 = .ok (.iload_n 1, 1) := by decide +kernel
theorem d_C_begin_29 : decode c_C_begin 29 = .ok (.if_icmp .ge 7, 3) := by decide +kernel
theorem d_C_begin_32 : decode c_C_begin 32 = .ok (.iconst 1, 1) := by decide +kernel
theorem d_C_begin_33 : decode c_C_begin 33 = .ok (.goto 4, 3) := by decide +kernel
theorem d_C_begin_36 : decode c_C_begin 36 = .ok (.iconst 0, 1) := by decide +kernel
theorem d_C_begin_37 : decode c_C_begin 37 = .ok (.istore 4, 2) := by decide +kernel
theorem d_C_begin_39 : decode c_C_begin 39 = .ok (.iload_n 3, 1) := by decide +kernel
theorem d_C_begin_40 : decode c_C_begin 40 = .ok (.ifCond .eq 8, 3) := by decide +kernel
theorem d_C_begin_43 : decode c_C_begin 43 = .ok (.iload 4, 2) := by decide +kernel
theorem d_C_begin_45 : decode c_C_begin 45 = .ok (.ifCond .ne 13, 3) := by decide +kernel
theorem d_C_begin_48 : decode c_C_begin 48 = .ok (.new 34, 3) := by decide +kernel
theorem d_C_begin_51 : decode c_C_begin 51 = .ok (.dup, 1) := by decide +kernel
theorem d_C_begin_52 : decode c_C_begin 52 = .ok (.ldc 36, 2) := by decide +kernel
theorem d_C_begin_54 : decode c_C_begin 54 = .ok (.invokespecial 38, 3) := by decide +kernel
theorem d_C_begin_57 : decode c_C_begin 57 = .ok (.athrow, 1) := by decide +kernel
theorem d_C_begin_58 : decode c_C_begin 58 = .ok (.aload_n 0, 1) := by decide +kernel
theorem d_C_begin_59 : decode c_C_begin 59 = .ok (.iload_n 1, 1) := by decide +kernel
theorem d_C_begin_60 : decode c_C_begin 60 = .ok (.iload_n 2, 1) := by decide +kernel
theorem d_C_begin_61 : decode c_C_begin 61 = .ok (.invokevirtual 30, 3) := by decide +kernel
theorem d_C_begin_64 : decode c_C_begin 64 = .ok (.return_, 1) := by decide +kernel
theorem d_C_draw_0 : decode c_C_draw 0 = .ok (.aload_n 0, 1) := by decide +kernel
theorem d_C_draw_1 : decode c_C_draw 1 = .ok (.invokevirtual 41, 3) := by decide +kernel
theorem d_C_draw_4 : decode c_C_draw 4 = .ok (.iload_n 2, 1) := by decide +kernel
theorem d_C_draw_5 : decode c_C_draw 5 = .ok (.ifCond .lt 14, 3) := by decide +kernel
theorem d_C_draw_8 : decode c_C_draw 8 = .ok (.iload_n 2, 1) := by decide +kernel
theorem d_C_draw_9 : decode c_C_draw 9 = .ok (.sipush 999, 3) := by decide +kernel
theorem d_C_draw_12 : decode c_C_draw 12 = .ok (.if_icmp .gt 7, 3) := by decide +kernel
theorem d_C_draw_15 : decode c_C_draw 15 = .ok (.iconst 1, 1) := by decide +kernel
theorem d_C_draw_16 : decode c_C_draw 16 = .ok (.goto 4, 3) := by decide +kernel
theorem d_C_draw_19 : decode c_C_draw 19 = .ok (.iconst 0, 1) := by decide +kernel
theorem d_C_draw_20 : decode c_C_draw 20 = .ok (.istore_n 3, 1) := by decide +kernel
theorem d_C_draw_21 : decode c_C_draw 21 = .ok (.aload_n 0, 1) := by decide +kernel
theorem d_C_draw_22 : decode c_C_draw 22 = .ok (.getfield 12, 3) := by decide +kernel
theorem d_C_draw_25 : decode c_C_draw 25 = .ok (.iload_n 1, 1) := by decide +kernel
theorem d_C_draw_26 : decode c_C_draw 26 = .ok (.invokevirtual 44, 3) := by decide +kernel
theorem d_C_draw_29 : decode c_C_draw 29 = .ok (.ifCond .eq 19, 3) := by decide +kernel
theorem d_C_draw_32 : decode c_C_draw 32 = .ok (.iload_n 3, 1) := by decide +kernel
theorem d_C_draw_33 : decode c_C_draw 33 = .ok (.ifCond .eq 15, 3) := by decide +kernel
theorem d_C_draw_36 : decode c_C_draw 36 = .ok (.aload_n 0, 1) := by decide +kernel
theorem d_C_draw_37 : decode c_C_draw 37 = .ok (.getfield 12, 3) := by decide +kernel
theorem d_C_draw_40 : decode c_C_draw 40 = .ok (.iload_n 1, 1) := by decide +kernel
theorem d_C_draw_41 : decode c_C_draw 41 = .ok (.iload_n 2, 1) := by decide +kernel
theorem d_C_draw_42 : decode c_C_draw 42 = .ok (.invokevirtual 48, 3) := by decide +kernel
theorem d_C_draw_45 : decode c_C_draw 45 = .ok (.ifCond .eq 13, 3) := by decide +kernel
theorem d_C_draw_48 : decode c_C_draw 48 = .ok (.new 34, 3) := by decide +kernel
theorem d_C_draw_51 : decode c_C_draw 51 = .ok (.dup, 1) := by decide +kernel
theorem d_C_draw_52 : decode c_C_draw 52 = .ok (.ldc 52, 2) := by decide +kernel
theorem d_C_draw_54 : decode c_C_draw 54 = .ok (.invokespecial 38, 3) := by decide +kernel
theorem d_C_draw_57 : decode c_C_draw 57 = .ok (.athrow, 1) := by decide +kernel
theorem d_C_draw_58 : decode c_C_draw 58 = .ok (.aload_n 0, 1) := by decide +kernel
theorem d_C_draw_59 : decode c_C_draw 59 = .ok (.getfield 12, 3) := by decide +kernel
theorem d_C_draw_62 : decode c_C_draw 62 = .ok (.getfield 54, 3) := by decide +kernel
theorem d_C_draw_65 : decode c_C_draw 65 = .ok (.iload_n 1, 1) := by decide +kernel
theorem d_C_draw_66 : decode c_C_draw 66 = .ok (.iload_n 2, 1) := by decide +kernel
theorem d_C_draw_67 : decode c_C_draw 67 = .ok (.iastore, 1) := by decide +kernel
theorem d_C_draw_68 : decode c_C_draw 68 = .ok (.return_, 1) := by decide +kernel
theorem d_C_withdraw_0 : decode c_C_withdraw 0 = .ok (.aload_n 0, 1) := by decide +kernel
theorem d_C_withdraw_1 : decode c_C_withdraw 1 = .ok (.invokevirtual 41, 3) := by decide +kernel
theorem d_C_withdraw_4 : decode c_C_withdraw 4 = .ok (.aload_n 0, 1) := by decide +kernel
theorem d_C_withdraw_5 : decode c_C_withdraw 5 = .ok (.getfield 12, 3) := by decide +kernel
theorem d_C_withdraw_8 : decode c_C_withdraw 8 = .ok (.iload_n 1, 1) := by decide +kernel
theorem d_C_withdraw_9 : decode c_C_withdraw 9 = .ok (.invokevirtual 44, 3) := by decide +kernel
theorem d_C_withdraw_12 : decode c_C_withdraw 12 = .ok (.ifCond .eq 30, 3) := by decide +kernel
theorem d_C_withdraw_15 : decode c_C_withdraw 15 = .ok (.aload_n 0, 1) := by decide +kernel
theorem d_C_withdraw_16 : decode c_C_withdraw 16 = .ok (.getfield 12, 3) := by decide +kernel
theorem d_C_withdraw_19 : decode c_C_withdraw 19 = .ok (.iload_n 1, 1) := by decide +kernel
theorem d_C_withdraw_20 : decode c_C_withdraw 20 = .ok (.invokevirtual 58, 3) := by decide +kernel
theorem d_C_withdraw_23 : decode c_C_withdraw 23 = .ok (.ifCond .eq 19, 3) := by decide +kernel
theorem d_C_withdraw_26 : decode c_C_withdraw 26 = .ok (.aload_n 0, 1) := by decide +kernel
theorem d_C_withdraw_27 : decode c_C_withdraw 27 = .ok (.getfield 12, 3) := by decide +kernel
theorem d_C_withdraw_30 : decode c_C_withdraw 30 = .ok (.invokevirtual 61, 3) := by decide +kernel
theorem d_C_withdraw_33 : decode c_C_withdraw 33 = .ok (.aload_n 0, 1) := by decide +kernel
theorem d_C_withdraw_34 : decode c_C_withdraw 34 = .ok (.getfield 65, 3) := by decide +kernel
theorem d_C_withdraw_37 : decode c_C_withdraw 37 = .ok (.iconst 1, 1) := by decide +kernel
theorem d_C_withdraw_38 : decode c_C_withdraw 38 = .ok (.iadd, 1) := by decide +kernel
theorem d_C_withdraw_39 : decode c_C_withdraw 39 = .ok (.if_icmp .gt 13, 3) := by decide +kernel
theorem d_C_withdraw_42 : decode c_C_withdraw 42 = .ok (.new 34, 3) := by decide +kernel
theorem d_C_withdraw_45 : decode c_C_withdraw 45 = .ok (.dup, 1) := by decide +kernel
theorem d_C_withdraw_46 : decode c_C_withdraw 46 = .ok (.ldc 69, 2) := by decide +kernel
theorem d_C_withdraw_48 : decode c_C_withdraw 48 = .ok (.invokespecial 38, 3) := by decide +kernel
theorem d_C_withdraw_51 : decode c_C_withdraw 51 = .ok (.athrow, 1) := by decide +kernel
theorem d_C_withdraw_52 : decode c_C_withdraw 52 = .ok (.aload_n 0, 1) := by decide +kernel
theorem d_C_withdraw_53 : decode c_C_withdraw 53 = .ok (.getfield 12, 3) := by decide +kernel
theorem d_C_withdraw_56 : decode c_C_withdraw 56 = .ok (.iload_n 1, 1) := by decide +kernel
theorem d_C_withdraw_57 : decode c_C_withdraw 57 = .ok (.invokevirtual 71, 3) := by decide +kernel
theorem d_C_withdraw_60 : decode c_C_withdraw 60 = .ok (.return_, 1) := by decide +kernel
theorem d_C_lay_0 : decode c_C_lay 0 = .ok (.aload_n 0, 1) := by decide +kernel
theorem d_C_lay_1 : decode c_C_lay 1 = .ok (.invokevirtual 41, 3) := by decide +kernel
theorem d_C_lay_4 : decode c_C_lay 4 = .ok (.iload_n 3, 1) := by decide +kernel
theorem d_C_lay_5 : decode c_C_lay 5 = .ok (.iconst 1, 1) := by decide +kernel
theorem d_C_lay_6 : decode c_C_lay 6 = .ok (.if_icmp .lt 21, 3) := by decide +kernel
theorem d_C_lay_9 : decode c_C_lay 9 = .ok (.iload_n 3, 1) := by decide +kernel
theorem d_C_lay_10 : decode c_C_lay 10 = .ok (.bipush 50, 2) := by decide +kernel
theorem d_C_lay_12 : decode c_C_lay 12 = .ok (.aload_n 0, 1) := by decide +kernel
theorem d_C_lay_13 : decode c_C_lay 13 = .ok (.getfield 19, 3) := by decide +kernel
theorem d_C_lay_16 : decode c_C_lay 16 = .ok (.getfield 75, 3) := by decide +kernel
theorem d_C_lay_19 : decode c_C_lay 19 = .ok (.isub, 1) := by decide +kernel
theorem d_C_lay_20 : decode c_C_lay 20 = .ok (.if_icmp .gt 7, 3) := by decide +kernel
theorem d_C_lay_23 : decode c_C_lay 23 = .ok (.iconst 1, 1) := by decide +kernel
theorem d_C_lay_24 : decode c_C_lay 24 = .ok (.goto 4, 3) := by decide +kernel
theorem d_C_lay_27 : decode c_C_lay 27 = .ok (.iconst 0, 1) := by decide +kernel
theorem d_C_lay_28 : decode c_C_lay 28 = .ok (.istore 4, 2) := by decide +kernel
theorem d_C_lay_30 : decode c_C_lay 30 = .ok (.iload 4, 2) := by decide +kernel
theorem d_C_lay_32 : decode c_C_lay 32 = .ok (.ifCond .eq 11, 3) := by decide +kernel
theorem d_C_lay_35 : decode c_C_lay 35 = .ok (.aload_n 0, 1) := by decide +kernel
theorem d_C_lay_36 : decode c_C_lay 36 = .ok (.lload_n 1, 1) := by decide +kernel
theorem d_C_lay_37 : decode c_C_lay 37 = .ok (.invokevirtual 78, 3) := by decide +kernel
theorem d_C_lay_40 : decode c_C_lay 40 = .ok (.ifCond .ne 13, 3) := by decide +kernel
theorem d_C_lay_43 : decode c_C_lay 43 = .ok (.new 34, 3) := by decide +kernel
theorem d_C_lay_46 : decode c_C_lay 46 = .ok (.dup, 1) := by decide +kernel
theorem d_C_lay_47 : decode c_C_lay 47 = .ok (.ldc 82, 2) := by decide +kernel
theorem d_C_lay_49 : decode c_C_lay 49 = .ok (.invokespecial 38, 3) := by decide +kernel
theorem d_C_lay_52 : decode c_C_lay 52 = .ok (.athrow, 1) := by decide +kernel
theorem d_C_lay_53 : decode c_C_lay 53 = .ok (.aload_n 0, 1) := by decide +kernel
theorem d_C_lay_54 : decode c_C_lay 54 = .ok (.getfield 19, 3) := by decide +kernel
theorem d_C_lay_57 : decode c_C_lay 57 = .ok (.lload_n 1, 1) := by decide +kernel
theorem d_C_lay_58 : decode c_C_lay 58 = .ok (.iload_n 3, 1) := by decide +kernel
theorem d_C_lay_59 : decode c_C_lay 59 = .ok (.invokevirtual 84, 3) := by decide +kernel
theorem d_C_lay_62 : decode c_C_lay 62 = .ok (.aload_n 0, 1) := by decide +kernel
theorem d_C_lay_63 : decode c_C_lay 63 = .ok (.getfield 19, 3) := by decide +kernel
theorem d_C_lay_66 : decode c_C_lay 66 = .ok (.getfield 75, 3) := by decide +kernel
theorem d_C_lay_69 : decode c_C_lay 69 = .ok (.ireturn, 1) := by decide +kernel
theorem d_C_open_0 : decode c_C_open 0 = .ok (.aload_n 0, 1) := by decide +kernel
theorem d_C_open_1 : decode c_C_open 1 = .ok (.invokevirtual 41, 3) := by decide +kernel
theorem d_C_open_4 : decode c_C_open 4 = .ok (.aload_n 0, 1) := by decide +kernel
theorem d_C_open_5 : decode c_C_open 5 = .ok (.getfield 19, 3) := by decide +kernel
theorem d_C_open_8 : decode c_C_open 8 = .ok (.getfield 75, 3) := by decide +kernel
theorem d_C_open_11 : decode c_C_open 11 = .ok (.ifCond .ne 13, 3) := by decide +kernel
theorem d_C_open_14 : decode c_C_open 14 = .ok (.new 88, 3) := by decide +kernel
theorem d_C_open_17 : decode c_C_open 17 = .ok (.dup, 1) := by decide +kernel
theorem d_C_open_18 : decode c_C_open 18 = .ok (.ldc 90, 2) := by decide +kernel
theorem d_C_open_20 : decode c_C_open 20 = .ok (.invokespecial 92, 3) := by decide +kernel
theorem d_C_open_23 : decode c_C_open 23 = .ok (.athrow, 1) := by decide +kernel
theorem d_C_open_24 : decode c_C_open 24 = .ok (.aload_n 0, 1) := by decide +kernel
theorem d_C_open_25 : decode c_C_open 25 = .ok (.invokevirtual 93, 3) := by decide +kernel
theorem d_C_open_28 : decode c_C_open 28 = .ok (.aload_n 0, 1) := by decide +kernel
theorem d_C_open_29 : decode c_C_open 29 = .ok (.iconst 0, 1) := by decide +kernel
theorem d_C_open_30 : decode c_C_open 30 = .ok (.putfield 96, 3) := by decide +kernel
theorem d_C_open_33 : decode c_C_open 33 = .ok (.aload_n 0, 1) := by decide +kernel
theorem d_C_open_34 : decode c_C_open 34 = .ok (.getfield 25, 3) := by decide +kernel
theorem d_C_open_37 : decode c_C_open 37 = .ok (.iconst 0, 1) := by decide +kernel
theorem d_C_open_38 : decode c_C_open 38 = .ok (.aaload, 1) := by decide +kernel
theorem d_C_open_39 : decode c_C_open 39 = .ok (.invokevirtual 99, 3) := by decide +kernel
theorem d_C_open_42 : decode c_C_open 42 = .ok (.aload_n 0, 1) := by decide +kernel
theorem d_C_open_43 : decode c_C_open 43 = .ok (.iconst (-1), 1) := by decide +kernel
theorem d_C_open_44 : decode c_C_open 44 = .ok (.lconst 1, 1) := by decide +kernel
theorem d_C_open_45 : decode c_C_open 45 = .ok (.lconst 1, 1) := by decide +kernel
theorem d_C_open_46 : decode c_C_open 46 = .ok (.invokevirtual 102, 3) := by decide +kernel
theorem d_C_open_49 : decode c_C_open 49 = .ok (.aload_n 0, 1) := by decide +kernel
theorem d_C_open_50 : decode c_C_open 50 = .ok (.invokevirtual 106, 3) := by decide +kernel
theorem d_C_open_53 : decode c_C_open 53 = .ok (.aload_n 0, 1) := by decide +kernel
theorem d_C_open_54 : decode c_C_open 54 = .ok (.getfield 109, 3) := by decide +kernel
theorem d_C_open_57 : decode c_C_open 57 = .ok (.l2i, 1) := by decide +kernel
theorem d_C_open_58 : decode c_C_open 58 = .ok (.ireturn, 1) := by decide +kernel
theorem d_C_step_0 : decode c_C_step 0 = .ok (.aload_n 0, 1) := by decide +kernel
theorem d_C_step_1 : decode c_C_step 1 = .ok (.invokevirtual 113, 3) := by decide +kernel
theorem d_C_step_4 : decode c_C_step 4 = .ok (.ifCond .eq 10, 3) := by decide +kernel
theorem d_C_step_7 : decode c_C_step 7 = .ok (.aload_n 0, 1) := by decide +kernel
theorem d_C_step_8 : decode c_C_step 8 = .ok (.getfield 117, 3) := by decide +kernel
theorem d_C_step_11 : decode c_C_step 11 = .ok (.ifCond .eq 13, 3) := by decide +kernel
theorem d_C_step_14 : decode c_C_step 14 = .ok (.new 88, 3) := by decide +kernel
theorem d_C_step_17 : decode c_C_step 17 = .ok (.dup, 1) := by decide +kernel
theorem d_C_step_18 : decode c_C_step 18 = .ok (.ldc 121, 2) := by decide +kernel
theorem d_C_step_20 : decode c_C_step 20 = .ok (.invokespecial 92, 3) := by decide +kernel
theorem d_C_step_23 : decode c_C_step 23 = .ok (.athrow, 1) := by decide +kernel
theorem d_C_step_24 : decode c_C_step 24 = .ok (.aload_n 0, 1) := by decide +kernel
theorem d_C_step_25 : decode c_C_step 25 = .ok (.iconst 1, 1) := by decide +kernel
theorem d_C_step_26 : decode c_C_step 26 = .ok (.invokevirtual 123, 3) := by decide +kernel
theorem d_C_step_29 : decode c_C_step 29 = .ok (.istore_n 1, 1) := by decide +kernel
theorem d_C_step_30 : decode c_C_step 30 = .ok (.iload_n 1, 1) := by decide +kernel
theorem d_C_step_31 : decode c_C_step 31 = .ok (.iconst (-1), 1) := by decide +kernel
theorem d_C_step_32 : decode c_C_step 32 = .ok (.if_icmp .eq 15, 3) := by decide +kernel
theorem d_C_step_35 : decode c_C_step 35 = .ok (.aload_n 0, 1) := by decide +kernel
theorem d_C_step_36 : decode c_C_step 36 = .ok (.iload_n 1, 1) := by decide +kernel
theorem d_C_step_37 : decode c_C_step 37 = .ok (.invokevirtual 127, 3) := by decide +kernel
theorem d_C_step_40 : decode c_C_step 40 = .ok (.ifCond .eq 7, 3) := by decide +kernel
theorem d_C_step_43 : decode c_C_step 43 = .ok (.iconst 1, 1) := by decide +kernel
theorem d_C_step_44 : decode c_C_step 44 = .ok (.goto 4, 3) := by decide +kernel
theorem d_C_step_47 : decode c_C_step 47 = .ok (.iconst 0, 1) := by decide +kernel
theorem d_C_step_48 : decode c_C_step 48 = .ok (.istore_n 2, 1) := by decide +kernel
theorem d_C_step_49 : decode c_C_step 49 = .ok (.iload_n 2, 1) := by decide +kernel
theorem d_C_step_50 : decode c_C_step 50 = .ok (.ifCond .eq 7, 3) := by decide +kernel
theorem d_C_step_53 : decode c_C_step 53 = .ok (.iload_n 1, 1) := by decide +kernel
theorem d_C_step_54 : decode c_C_step 54 = .ok (.goto 7, 3) := by decide +kernel
theorem d_C_step_57 : decode c_C_step 57 = .ok (.aload_n 0, 1) := by decide +kernel
theorem d_C_step_58 : decode c_C_step 58 = .ok (.invokevirtual 130, 3) := by decide +kernel
theorem d_C_step_61 : decode c_C_step 61 = .ok (.istore_n 3, 1) := by decide +kernel
theorem d_C_step_62 : decode c_C_step 62 = .ok (.aload_n 0, 1) := by decide +kernel
theorem d_C_step_63 : decode c_C_step 63 = .ok (.dup, 1) := by decide +kernel
theorem d_C_step_64 : decode c_C_step 64 = .ok (.getfield 96, 3) := by decide +kernel
theorem d_C_step_67 : decode c_C_step 67 = .ok (.iconst 1, 1) := by decide +kernel
theorem d_C_step_68 : decode c_C_step 68 = .ok (.iadd, 1) := by decide +kernel
theorem d_C_step_69 : decode c_C_step 69 = .ok (.putfield 96, 3) := by decide +kernel
theorem d_C_step_72 : decode c_C_step 72 = .ok (.aload_n 0, 1) := by decide +kernel
theorem d_C_step_73 : decode c_C_step 73 = .ok (.getfield 25, 3) := by decide +kernel
theorem d_C_step_76 : decode c_C_step 76 = .ok (.aload_n 0, 1) := by decide +kernel
theorem d_C_step_77 : decode c_C_step 77 = .ok (.getfield 96, 3) := by decide +kernel
theorem d_C_step_80 : decode c_C_step 80 = .ok (.aaload, 1) := by decide +kernel
theorem d_C_step_81 : decode c_C_step 81 = .ok (.aload_n 0, 1) := by decide +kernel
theorem d_C_step_82 : decode c_C_step 82 = .ok (.getfield 25, 3) := by decide +kernel
theorem d_C_step_85 : decode c_C_step 85 = .ok (.aload_n 0, 1) := by decide +kernel
theorem d_C_step_86 : decode c_C_step 86 = .ok (.getfield 96, 3) := by decide +kernel
theorem d_C_step_89 : decode c_C_step 89 = .ok (.iconst 1, 1) := by decide +kernel
theorem d_C_step_90 : decode c_C_step 90 = .ok (.isub, 1) := by decide +kernel
theorem d_C_step_91 : decode c_C_step 91 = .ok (.aaload, 1) := by decide +kernel
theorem d_C_step_92 : decode c_C_step 92 = .ok (.invokevirtual 133, 3) := by decide +kernel
theorem d_C_step_95 : decode c_C_step 95 = .ok (.iload_n 2, 1) := by decide +kernel
theorem d_C_step_96 : decode c_C_step 96 = .ok (.ifCond .eq 11, 3) := by decide +kernel
theorem d_C_step_99 : decode c_C_step 99 = .ok (.aload_n 0, 1) := by decide +kernel
theorem d_C_step_100 : decode c_C_step 100 = .ok (.iload_n 3, 1) := by decide +kernel
theorem d_C_step_101 : decode c_C_step 101 = .ok (.invokevirtual 137, 3) := by decide +kernel
theorem d_C_step_104 : decode c_C_step 104 = .ok (.goto 8, 3) := by decide +kernel
theorem d_C_step_107 : decode c_C_step 107 = .ok (.aload_n 0, 1) := by decide +kernel
theorem d_C_step_108 : decode c_C_step 108 = .ok (.iload_n 3, 1) := by decide +kernel
theorem d_C_step_109 : decode c_C_step 109 = .ok (.invokevirtual 140, 3) := by decide +kernel
theorem d_C_step_112 : decode c_C_step 112 = .ok (.aload_n 0, 1) := by decide +kernel
theorem d_C_step_113 : decode c_C_step 113 = .ok (.invokevirtual 106, 3) := by decide +kernel
theorem d_C_step_116 : decode c_C_step 116 = .ok (.iload_n 2, 1) := by decide +kernel
theorem d_C_step_117 : decode c_C_step 117 = .ok (.ifCond .eq 7, 3) := by decide +kernel
theorem d_C_step_120 : decode c_C_step 120 = .ok (.iload_n 3, 1) := by decide +kernel
theorem d_C_step_121 : decode c_C_step 121 = .ok (.goto 7, 3) := by decide +kernel
theorem d_C_step_124 : decode c_C_step 124 = .ok (.iload_n 3, 1) := by decide +kernel
theorem d_C_step_125 : decode c_C_step 125 = .ok (.bipush 16, 2) := by decide +kernel
theorem d_C_step_127 : decode c_C_step 127 = .ok (.iadd, 1) := by decide +kernel
theorem d_C_step_128 : decode c_C_step 128 = .ok (.ireturn, 1) := by decide +kernel
theorem d_C_over_0 : decode c_C_over 0 = .ok (.aload_n 0, 1) := by decide +kernel
theorem d_C_over_1 : decode c_C_over 1 = .ok (.getfield 117, 3) := by decide +kernel
theorem d_C_over_4 : decode c_C_over 4 = .ok (.ireturn, 1) := by decide +kernel
theorem d_C_state_0 : decode c_C_state 0 = .ok (.iload_n 1, 1) := by decide +kernel
theorem d_C_state_1 : decode c_C_state 1 = .ok (.tableswitch 103 0 7 #[47, 55, 60, 68, 74, 79, 87, 95], 47) := by decide +kernel
theorem d_C_state_48 : decode c_C_state 48 = .ok (.aload_n 0, 1) := by decide +kernel
theorem d_C_state_49 : decode c_C_state 49 = .ok (.getfield 12, 3) := by decide +kernel
theorem d_C_state_52 : decode c_C_state 52 = .ok (.getfield 143, 3) := by decide +kernel
theorem d_C_state_55 : decode c_C_state 55 = .ok (.ireturn, 1) := by decide +kernel
theorem d_C_state_56 : decode c_C_state 56 = .ok (.aload_n 0, 1) := by decide +kernel
theorem d_C_state_57 : decode c_C_state 57 = .ok (.getfield 65, 3) := by decide +kernel
theorem d_C_state_60 : decode c_C_state 60 = .ok (.ireturn, 1) := by decide +kernel
theorem d_C_state_61 : decode c_C_state 61 = .ok (.aload_n 0, 1) := by decide +kernel
theorem d_C_state_62 : decode c_C_state 62 = .ok (.getfield 19, 3) := by decide +kernel
theorem d_C_state_65 : decode c_C_state 65 = .ok (.getfield 75, 3) := by decide +kernel
theorem d_C_state_68 : decode c_C_state 68 = .ok (.ireturn, 1) := by decide +kernel
theorem d_C_state_69 : decode c_C_state 69 = .ok (.aload_n 0, 1) := by decide +kernel
theorem d_C_state_70 : decode c_C_state 70 = .ok (.getfield 144, 3) := by decide +kernel
theorem d_C_state_73 : decode c_C_state 73 = .ok (.l2i, 1) := by decide +kernel
theorem d_C_state_74 : decode c_C_state 74 = .ok (.ireturn, 1) := by decide +kernel
theorem d_C_state_75 : decode c_C_state 75 = .ok (.aload_n 0, 1) := by decide +kernel
theorem d_C_state_76 : decode c_C_state 76 = .ok (.getfield 96, 3) := by decide +kernel
theorem d_C_state_79 : decode c_C_state 79 = .ok (.ireturn, 1) := by decide +kernel
theorem d_C_state_80 : decode c_C_state 80 = .ok (.aload_n 0, 1) := by decide +kernel
theorem d_C_state_81 : decode c_C_state 81 = .ok (.getfield 12, 3) := by decide +kernel
theorem d_C_state_84 : decode c_C_state 84 = .ok (.getfield 147, 3) := by decide +kernel
theorem d_C_state_87 : decode c_C_state 87 = .ok (.ireturn, 1) := by decide +kernel
theorem d_C_state_88 : decode c_C_state 88 = .ok (.aload_n 0, 1) := by decide +kernel
theorem d_C_state_89 : decode c_C_state 89 = .ok (.getfield 12, 3) := by decide +kernel
theorem d_C_state_92 : decode c_C_state 92 = .ok (.getfield 150, 3) := by decide +kernel
theorem d_C_state_95 : decode c_C_state 95 = .ok (.ireturn, 1) := by decide +kernel
theorem d_C_state_96 : decode c_C_state 96 = .ok (.aload_n 0, 1) := by decide +kernel
theorem d_C_state_97 : decode c_C_state 97 = .ok (.getfield 12, 3) := by decide +kernel
theorem d_C_state_100 : decode c_C_state 100 = .ok (.invokevirtual 61, 3) := by decide +kernel
theorem d_C_state_103 : decode c_C_state 103 = .ok (.ireturn, 1) := by decide +kernel
theorem d_C_state_104 : decode c_C_state 104 = .ok (.iconst (-1), 1) := by decide +kernel
theorem d_C_state_105 : decode c_C_state 105 = .ok (.ireturn, 1) := by decide +kernel
theorem d_C_status_0 : decode c_C_status 0 = .ok (.aload_n 0, 1) := by decide +kernel
theorem d_C_status_1 : decode c_C_status 1 = .ok (.getfield 12, 3) := by decide +kernel
theorem d_C_status_4 : decode c_C_status 4 = .ok (.iload_n 1, 1) := by decide +kernel
theorem d_C_status_5 : decode c_C_status 5 = .ok (.invokevirtual 44, 3) := by decide +kernel
theorem d_C_status_8 : decode c_C_status 8 = .ok (.ifCond .ne 13, 3) := by decide +kernel
theorem d_C_status_11 : decode c_C_status 11 = .ok (.new 153, 3) := by decide +kernel
theorem d_C_status_14 : decode c_C_status 14 = .ok (.dup, 1) := by decide +kernel
theorem d_C_status_15 : decode c_C_status 15 = .ok (.ldc 155, 2) := by decide +kernel
theorem d_C_status_17 : decode c_C_status 17 = .ok (.invokespecial 157, 3) := by decide +kernel
theorem d_C_status_20 : decode c_C_status 20 = .ok (.athrow, 1) := by decide +kernel
theorem d_C_status_21 : decode c_C_status 21 = .ok (.aload_n 0, 1) := by decide +kernel
theorem d_C_status_22 : decode c_C_status 22 = .ok (.getfield 12, 3) := by decide +kernel
theorem d_C_status_25 : decode c_C_status 25 = .ok (.getfield 158, 3) := by decide +kernel
theorem d_C_status_28 : decode c_C_status 28 = .ok (.iload_n 1, 1) := by decide +kernel
theorem d_C_status_29 : decode c_C_status 29 = .ok (.iaload, 1) := by decide +kernel
theorem d_C_status_30 : decode c_C_status 30 = .ok (.ireturn, 1) := by decide +kernel
theorem d_C_total_0 : decode c_C_total 0 = .ok (.aload_n 0, 1) := by decide +kernel
theorem d_C_total_1 : decode c_C_total 1 = .ok (.iload_n 1, 1) := by decide +kernel
theorem d_C_total_2 : decode c_C_total 2 = .ok (.iload_n 2, 1) := by decide +kernel
theorem d_C_total_3 : decode c_C_total 3 = .ok (.invokevirtual 161, 3) := by decide +kernel
theorem d_C_total_6 : decode c_C_total 6 = .ok (.aload_n 0, 1) := by decide +kernel
theorem d_C_total_7 : decode c_C_total 7 = .ok (.getfield 25, 3) := by decide +kernel
theorem d_C_total_10 : decode c_C_total 10 = .ok (.iload_n 1, 1) := by decide +kernel
theorem d_C_total_11 : decode c_C_total 11 = .ok (.aaload, 1) := by decide +kernel
theorem d_C_total_12 : decode c_C_total 12 = .ok (.getfield 164, 3) := by decide +kernel
theorem d_C_total_15 : decode c_C_total 15 = .ok (.astore 4, 2) := by decide +kernel
theorem d_C_total_17 : decode c_C_total 17 = .ok (.iload_n 3, 1) := by decide +kernel
theorem d_C_total_18 : decode c_C_total 18 = .ok (.ifCond .eq 13, 3) := by decide +kernel
theorem d_C_total_21 : decode c_C_total 21 = .ok (.aload 4, 2) := by decide +kernel
theorem d_C_total_23 : decode c_C_total 23 = .ok (.getfield 168, 3) := by decide +kernel
theorem d_C_total_26 : decode c_C_total 26 = .ok (.iload_n 2, 1) := by decide +kernel
theorem d_C_total_27 : decode c_C_total 27 = .ok (.laload, 1) := by decide +kernel
theorem d_C_total_28 : decode c_C_total 28 = .ok (.goto 10, 3) := by decide +kernel
theorem d_C_total_31 : decode c_C_total 31 = .ok (.aload 4, 2) := by decide +kernel
theorem d_C_total_33 : decode c_C_total 33 = .ok (.getfield 174, 3) := by decide +kernel
theorem d_C_total_36 : decode c_C_total 36 = .ok (.iload_n 2, 1) := by decide +kernel
theorem d_C_total_37 : decode c_C_total 37 = .ok (.laload, 1) := by decide +kernel
theorem d_C_total_38 : decode c_C_total 38 = .ok (.lreturn, 1) := by decide +kernel
theorem d_C_papers_0 : decode c_C_papers 0 = .ok (.aload_n 0, 1) := by decide +kernel
theorem d_C_papers_1 : decode c_C_papers 1 = .ok (.getfield 12, 3) := by decide +kernel
theorem d_C_papers_4 : decode c_C_papers 4 = .ok (.iload_n 1, 1) := by decide +kernel
theorem d_C_papers_5 : decode c_C_papers 5 = .ok (.invokevirtual 177, 3) := by decide +kernel
theorem d_C_papers_8 : decode c_C_papers 8 = .ok (.ifCond .ne 13, 3) := by decide +kernel
theorem d_C_papers_11 : decode c_C_papers 11 = .ok (.new 153, 3) := by decide +kernel
theorem d_C_papers_14 : decode c_C_papers 14 = .ok (.dup, 1) := by decide +kernel
theorem d_C_papers_15 : decode c_C_papers 15 = .ok (.ldc 155, 2) := by decide +kernel
theorem d_C_papers_17 : decode c_C_papers 17 = .ok (.invokespecial 157, 3) := by decide +kernel
theorem d_C_papers_20 : decode c_C_papers 20 = .ok (.athrow, 1) := by decide +kernel
theorem d_C_papers_21 : decode c_C_papers 21 = .ok (.aload_n 0, 1) := by decide +kernel
theorem d_C_papers_22 : decode c_C_papers 22 = .ok (.getfield 19, 3) := by decide +kernel
theorem d_C_papers_25 : decode c_C_papers 25 = .ok (.iload_n 1, 1) := by decide +kernel
theorem d_C_papers_26 : decode c_C_papers 26 = .ok (.invokevirtual 180, 3) := by decide +kernel
theorem d_C_papers_29 : decode c_C_papers 29 = .ok (.ireturn, 1) := by decide +kernel
theorem d_C_moved_0 : decode c_C_moved 0 = .ok (.aload_n 0, 1) := by decide +kernel
theorem d_C_moved_1 : decode c_C_moved 1 = .ok (.iload_n 1, 1) := by decide +kernel
theorem d_C_moved_2 : decode c_C_moved 2 = .ok (.iload_n 2, 1) := by decide +kernel
theorem d_C_moved_3 : decode c_C_moved 3 = .ok (.invokevirtual 161, 3) := by decide +kernel
theorem d_C_moved_6 : decode c_C_moved 6 = .ok (.aload_n 0, 1) := by decide +kernel
theorem d_C_moved_7 : decode c_C_moved 7 = .ok (.getfield 25, 3) := by decide +kernel
theorem d_C_moved_10 : decode c_C_moved 10 = .ok (.iload_n 1, 1) := by decide +kernel
theorem d_C_moved_11 : decode c_C_moved 11 = .ok (.aaload, 1) := by decide +kernel
theorem d_C_moved_12 : decode c_C_moved 12 = .ok (.getfield 184, 3) := by decide +kernel
theorem d_C_moved_15 : decode c_C_moved 15 = .ok (.iload_n 2, 1) := by decide +kernel
theorem d_C_moved_16 : decode c_C_moved 16 = .ok (.iaload, 1) := by decide +kernel
theorem d_C_moved_17 : decode c_C_moved 17 = .ok (.ireturn, 1) := by decide +kernel
theorem d_C_startAnew_0 : decode c_C_startAnew 0 = .ok (.aload_n 0, 1) := by decide +kernel
theorem d_C_startAnew_1 : decode c_C_startAnew 1 = .ok (.getfield 12, 3) := by decide +kernel
theorem d_C_startAnew_4 : decode c_C_startAnew 4 = .ok (.iload_n 1, 1) := by decide +kernel
theorem d_C_startAnew_5 : decode c_C_startAnew 5 = .ok (.invokevirtual 187, 3) := by decide +kernel
theorem d_C_startAnew_8 : decode c_C_startAnew 8 = .ok (.aload_n 0, 1) := by decide +kernel
theorem d_C_startAnew_9 : decode c_C_startAnew 9 = .ok (.getfield 19, 3) := by decide +kernel
theorem d_C_startAnew_12 : decode c_C_startAnew 12 = .ok (.invokevirtual 189, 3) := by decide +kernel
theorem d_C_startAnew_15 : decode c_C_startAnew 15 = .ok (.aload_n 0, 1) := by decide +kernel
theorem d_C_startAnew_16 : decode c_C_startAnew 16 = .ok (.iload_n 2, 1) := by decide +kernel
theorem d_C_startAnew_17 : decode c_C_startAnew 17 = .ok (.putfield 65, 3) := by decide +kernel
theorem d_C_startAnew_20 : decode c_C_startAnew 20 = .ok (.aload_n 0, 1) := by decide +kernel
theorem d_C_startAnew_21 : decode c_C_startAnew 21 = .ok (.iconst (-1), 1) := by decide +kernel
theorem d_C_startAnew_22 : decode c_C_startAnew 22 = .ok (.putfield 96, 3) := by decide +kernel
theorem d_C_startAnew_25 : decode c_C_startAnew 25 = .ok (.aload_n 0, 1) := by decide +kernel
theorem d_C_startAnew_26 : decode c_C_startAnew 26 = .ok (.iconst 0, 1) := by decide +kernel
theorem d_C_startAnew_27 : decode c_C_startAnew 27 = .ok (.putfield 117, 3) := by decide +kernel
theorem d_C_startAnew_30 : decode c_C_startAnew 30 = .ok (.aload_n 0, 1) := by decide +kernel
theorem d_C_startAnew_31 : decode c_C_startAnew 31 = .ok (.lconst 0, 1) := by decide +kernel
theorem d_C_startAnew_32 : decode c_C_startAnew 32 = .ok (.putfield 109, 3) := by decide +kernel
theorem d_C_startAnew_35 : decode c_C_startAnew 35 = .ok (.aload_n 0, 1) := by decide +kernel
theorem d_C_startAnew_36 : decode c_C_startAnew 36 = .ok (.lconst 0, 1) := by decide +kernel
theorem d_C_startAnew_37 : decode c_C_startAnew 37 = .ok (.putfield 144, 3) := by decide +kernel
theorem d_C_startAnew_40 : decode c_C_startAnew 40 = .ok (.return_, 1) := by decide +kernel
theorem d_C_hasBegun_0 : decode c_C_hasBegun 0 = .ok (.aload_n 0, 1) := by decide +kernel
theorem d_C_hasBegun_1 : decode c_C_hasBegun 1 = .ok (.getfield 96, 3) := by decide +kernel
theorem d_C_hasBegun_4 : decode c_C_hasBegun 4 = .ok (.iconst (-1), 1) := by decide +kernel
theorem d_C_hasBegun_5 : decode c_C_hasBegun 5 = .ok (.if_icmp .eq 7, 3) := by decide +kernel
theorem d_C_hasBegun_8 : decode c_C_hasBegun 8 = .ok (.iconst 1, 1) := by decide +kernel
theorem d_C_hasBegun_9 : decode c_C_hasBegun 9 = .ok (.goto 4, 3) := by decide +kernel
theorem d_C_hasBegun_12 : decode c_C_hasBegun 12 = .ok (.iconst 0, 1) := by decide +kernel
theorem d_C_hasBegun_13 : decode c_C_hasBegun 13 = .ok (.ireturn, 1) := by decide +kernel
theorem d_C_refuseOnceBegun_0 : decode c_C_refuseOnceBegun 0 = .ok (.aload_n 0, 1) := by decide +kernel
theorem d_C_refuseOnceBegun_1 : decode c_C_refuseOnceBegun 1 = .ok (.invokevirtual 113, 3) := by decide +kernel
theorem d_C_refuseOnceBegun_4 : decode c_C_refuseOnceBegun 4 = .ok (.ifCond .eq 13, 3) := by decide +kernel
theorem d_C_refuseOnceBegun_7 : decode c_C_refuseOnceBegun 7 = .ok (.new 88, 3) := by decide +kernel
theorem d_C_refuseOnceBegun_10 : decode c_C_refuseOnceBegun 10 = .ok (.dup, 1) := by decide +kernel
theorem d_C_refuseOnceBegun_11 : decode c_C_refuseOnceBegun 11 = .ok (.ldc 190, 2) := by decide +kernel
theorem d_C_refuseOnceBegun_13 : decode c_C_refuseOnceBegun 13 = .ok (.invokespecial 92, 3) := by decide +kernel
theorem d_C_refuseOnceBegun_16 : decode c_C_refuseOnceBegun 16 = .ok (.athrow, 1) := by decide +kernel
theorem d_C_refuseOnceBegun_17 : decode c_C_refuseOnceBegun 17 = .ok (.return_, 1) := by decide +kernel
theorem d_C_refuseUnknown_0 : decode c_C_refuseUnknown 0 = .ok (.iload_n 1, 1) := by decide +kernel
theorem d_C_refuseUnknown_1 : decode c_C_refuseUnknown 1 = .ok (.ifCond .lt 22, 3) := by decide +kernel
theorem d_C_refuseUnknown_4 : decode c_C_refuseUnknown 4 = .ok (.iload_n 1, 1) := by decide +kernel
theorem d_C_refuseUnknown_5 : decode c_C_refuseUnknown 5 = .ok (.aload_n 0, 1) := by decide +kernel
theorem d_C_refuseUnknown_6 : decode c_C_refuseUnknown 6 = .ok (.getfield 96, 3) := by decide +kernel
theorem d_C_refuseUnknown_9 : decode c_C_refuseUnknown 9 = .ok (.if_icmp .gt 14, 3) := by decide +kernel
theorem d_C_refuseUnknown_12 : decode c_C_refuseUnknown 12 = .ok (.aload_n 0, 1) := by decide +kernel
theorem d_C_refuseUnknown_13 : decode c_C_refuseUnknown 13 = .ok (.getfield 12, 3) := by decide +kernel
theorem d_C_refuseUnknown_16 : decode c_C_refuseUnknown 16 = .ok (.iload_n 2, 1) := by decide +kernel
theorem d_C_refuseUnknown_17 : decode c_C_refuseUnknown 17 = .ok (.invokevirtual 177, 3) := by decide +kernel
theorem d_C_refuseUnknown_20 : decode c_C_refuseUnknown 20 = .ok (.ifCond .ne 13, 3) := by decide +kernel
theorem d_C_refuseUnknown_23 : decode c_C_refuseUnknown 23 = .ok (.new 153, 3) := by decide +kernel
theorem d_C_refuseUnknown_26 : decode c_C_refuseUnknown 26 = .ok (.dup, 1) := by decide +kernel
theorem d_C_refuseUnknown_27 : decode c_C_refuseUnknown 27 = .ok (.ldc 192, 2) := by decide +kernel
theorem d_C_refuseUnknown_29 : decode c_C_refuseUnknown 29 = .ok (.invokespecial 157, 3) := by decide +kernel
theorem d_C_refuseUnknown_32 : decode c_C_refuseUnknown 32 = .ok (.athrow, 1) := by decide +kernel
theorem d_C_refuseUnknown_33 : decode c_C_refuseUnknown 33 = .ok (.return_, 1) := by decide +kernel
theorem d_C_isRanking_0 : decode c_C_isRanking 0 = .ok (.iconst 0, 1) := by decide +kernel
theorem d_C_isRanking_1 : decode c_C_isRanking 1 = .ok (.istore_n 3, 1) := by decide +kernel
theorem d_C_isRanking_2 : decode c_C_isRanking 2 = .ok (.iconst 0, 1) := by decide +kernel
theorem d_C_isRanking_3 : decode c_C_isRanking 3 = .ok (.istore 4, 2) := by decide +kernel
theorem d_C_isRanking_5 : decode c_C_isRanking 5 = .ok (.iload 4, 2) := by decide +kernel
theorem d_C_isRanking_7 : decode c_C_isRanking 7 = .ok (.bipush 7, 2) := by decide +kernel
theorem d_C_isRanking_9 : decode c_C_isRanking 9 = .ok (.if_icmp .gt 66, 3) := by decide +kernel
theorem d_C_isRanking_12 : decode c_C_isRanking 12 = .ok (.lload_n 1, 1) := by decide +kernel
theorem d_C_isRanking_13 : decode c_C_isRanking 13 = .ok (.iload 4, 2) := by decide +kernel
theorem d_C_isRanking_15 : decode c_C_isRanking 15 = .ok (.invokestatic 194, 3) := by decide +kernel
theorem d_C_isRanking_18 : decode c_C_isRanking 18 = .ok (.istore 5, 2) := by decide +kernel
theorem d_C_isRanking_20 : decode c_C_isRanking 20 = .ok (.iload 5, 2) := by decide +kernel
theorem d_C_isRanking_22 : decode c_C_isRanking 22 = .ok (.iconst (-1), 1) := by decide +kernel
theorem d_C_isRanking_23 : decode c_C_isRanking 23 = .ok (.if_icmp .ne 14, 3) := by decide +kernel
theorem d_C_isRanking_26 : decode c_C_isRanking 26 = .ok (.iload 4, 2) := by decide +kernel
theorem d_C_isRanking_28 : decode c_C_isRanking 28 = .ok (.ifCond .le 7, 3) := by decide +kernel
theorem d_C_isRanking_31 : decode c_C_isRanking 31 = .ok (.iconst 1, 1) := by decide +kernel
theorem d_C_isRanking_32 : decode c_C_isRanking 32 = .ok (.goto 4, 3) := by decide +kernel
theorem d_C_isRanking_35 : decode c_C_isRanking 35 = .ok (.iconst 0, 1) := by decide +kernel
theorem d_C_isRanking_36 : decode c_C_isRanking 36 = .ok (.ireturn, 1) := by decide +kernel
theorem d_C_isRanking_37 : decode c_C_isRanking 37 = .ok (.iconst 1, 1) := by decide +kernel
theorem d_C_isRanking_38 : decode c_C_isRanking 38 = .ok (.iload 5, 2) := by decide +kernel
theorem d_C_isRanking_40 : decode c_C_isRanking 40 = .ok (.ishl, 1) := by decide +kernel
theorem d_C_isRanking_41 : decode c_C_isRanking 41 = .ok (.istore 6, 2) := by decide +kernel
theorem d_C_isRanking_43 : decode c_C_isRanking 43 = .ok (.aload_n 0, 1) := by decide +kernel
theorem d_C_isRanking_44 : decode c_C_isRanking 44 = .ok (.getfield 12, 3) := by decide +kernel
theorem d_C_isRanking_47 : decode c_C_isRanking 47 = .ok (.iload 5, 2) := by decide +kernel
theorem d_C_isRanking_49 : decode c_C_isRanking 49 = .ok (.invokevirtual 44, 3) := by decide +kernel
theorem d_C_isRanking_52 : decode c_C_isRanking 52 = .ok (.ifCond .eq 10, 3) := by decide +kernel
theorem d_C_isRanking_55 : decode c_C_isRanking 55 = .ok (.iload_n 3, 1) := by decide +kernel
theorem d_C_isRanking_56 : decode c_C_isRanking 56 = .ok (.iload 6, 2) := by decide +kernel
theorem d_C_isRanking_58 : decode c_C_isRanking 58 = .ok (.iand, 1) := by decide +kernel
theorem d_C_isRanking_59 : decode c_C_isRanking 59 = .ok (.ifCond .eq 5, 3) := by decide +kernel
theorem d_C_isRanking_62 : decode c_C_isRanking 62 = .ok (.iconst 0, 1) := by decide +kernel
theorem d_C_isRanking_63 : decode c_C_isRanking 63 = .ok (.ireturn, 1) := by decide +kernel
theorem d_C_isRanking_64 : decode c_C_isRanking 64 = .ok (.iload_n 3, 1) := by decide +kernel
theorem d_C_isRanking_65 : decode c_C_isRanking 65 = .ok (.iload 6, 2) := by decide +kernel
theorem d_C_isRanking_67 : decode c_C_isRanking 67 = .ok (.ior, 1) := by decide +kernel
theorem d_C_isRanking_68 : decode c_C_isRanking 68 = .ok (.istore_n 3, 1) := by decide +kernel
theorem d_C_isRanking_69 : decode c_C_isRanking 69 = .ok (.iinc 4 1, 3) := by decide +kernel
theorem d_C_isRanking_72 : decode c_C_isRanking 72 = .ok (.goto (-67), 3) := by decide +kernel
theorem d_C_isRanking_75 : decode c_C_isRanking 75 = .ok (.iconst 0, 1) := by decide +kernel
theorem d_C_isRanking_76 : decode c_C_isRanking 76 = .ok (.ireturn, 1) := by decide +kernel
theorem d_C_candidateAt_0 : decode c_C_candidateAt 0 = .ok (.lload_n 0, 1) := by decide +kernel
theorem d_C_candidateAt_1 : decode c_C_candidateAt 1 = .ok (.iload_n 2, 1) := by decide +kernel
theorem d_C_candidateAt_2 : decode c_C_candidateAt 2 = .ok (.iconst 4, 1) := by decide +kernel
theorem d_C_candidateAt_3 : decode c_C_candidateAt 3 = .ok (.imul, 1) := by decide +kernel
theorem d_C_candidateAt_4 : decode c_C_candidateAt 4 = .ok (.lushr, 1) := by decide +kernel
theorem d_C_candidateAt_5 : decode c_C_candidateAt 5 = .ok (.ldc2_w 198, 3) := by decide +kernel
theorem d_C_candidateAt_8 : decode c_C_candidateAt 8 = .ok (.land, 1) := by decide +kernel
theorem d_C_candidateAt_9 : decode c_C_candidateAt 9 = .ok (.l2i, 1) := by decide +kernel
theorem d_C_candidateAt_10 : decode c_C_candidateAt 10 = .ok (.iconst 1, 1) := by decide +kernel
theorem d_C_candidateAt_11 : decode c_C_candidateAt 11 = .ok (.isub, 1) := by decide +kernel
theorem d_C_candidateAt_12 : decode c_C_candidateAt 12 = .ok (.ireturn, 1) := by decide +kernel
theorem d_C_setQuota_0 : decode c_C_setQuota 0 = .ok (.aload_n 0, 1) := by decide +kernel
theorem d_C_setQuota_1 : decode c_C_setQuota 1 = .ok (.getfield 19, 3) := by decide +kernel
theorem d_C_setQuota_4 : decode c_C_setQuota 4 = .ok (.getfield 75, 3) := by decide +kernel
theorem d_C_setQuota_7 : decode c_C_setQuota 7 = .ok (.i2l, 1) := by decide +kernel
theorem d_C_setQuota_8 : decode c_C_setQuota 8 = .ok (.aload_n 0, 1) := by decide +kernel
theorem d_C_setQuota_9 : decode c_C_setQuota 9 = .ok (.getfield 65, 3) := by decide +kernel
theorem d_C_setQuota_12 : decode c_C_setQuota 12 = .ok (.iconst 1, 1) := by decide +kernel
theorem d_C_setQuota_13 : decode c_C_setQuota 13 = .ok (.iadd, 1) := by decide +kernel
theorem d_C_setQuota_14 : decode c_C_setQuota 14 = .ok (.i2l, 1) := by decide +kernel
theorem d_C_setQuota_15 : decode c_C_setQuota 15 = .ok (.invokestatic 200, 3) := by decide +kernel
theorem d_C_setQuota_18 : decode c_C_setQuota 18 = .ok (.lstore_n 1, 1) := by decide +kernel
theorem d_C_setQuota_19 : decode c_C_setQuota 19 = .ok (.aload_n 0, 1) := by decide +kernel
theorem d_C_setQuota_20 : decode c_C_setQuota 20 = .ok (.aload_n 0, 1) := by decide +kernel
theorem d_C_setQuota_21 : decode c_C_setQuota 21 = .ok (.getfield 19, 3) := by decide +kernel
theorem d_C_setQuota_24 : decode c_C_setQuota 24 = .ok (.getfield 75, 3) := by decide +kernel
theorem d_C_setQuota_27 : decode c_C_setQuota 27 = .ok (.i2l, 1) := by decide +kernel
theorem d_C_setQuota_28 : decode c_C_setQuota 28 = .ok (.lload_n 1, 1) := by decide +kernel
theorem d_C_setQuota_29 : decode c_C_setQuota 29 = .ok (.ldiv, 1) := by decide +kernel
theorem d_C_setQuota_30 : decode c_C_setQuota 30 = .ok (.putfield 109, 3) := by decide +kernel
theorem d_C_setQuota_33 : decode c_C_setQuota 33 = .ok (.aload_n 0, 1) := by decide +kernel
theorem d_C_setQuota_34 : decode c_C_setQuota 34 = .ok (.aload_n 0, 1) := by decide +kernel
theorem d_C_setQuota_35 : decode c_C_setQuota 35 = .ok (.getfield 65, 3) := by decide +kernel
theorem d_C_setQuota_38 : decode c_C_setQuota 38 = .ok (.iconst 1, 1) := by decide +kernel
theorem d_C_setQuota_39 : decode c_C_setQuota 39 = .ok (.iadd, 1) := by decide +kernel
theorem d_C_setQuota_40 : decode c_C_setQuota 40 = .ok (.i2l, 1) := by decide +kernel
theorem d_C_setQuota_41 : decode c_C_setQuota 41 = .ok (.lload_n 1, 1) := by decide +kernel
theorem d_C_setQuota_42 : decode c_C_setQuota 42 = .ok (.ldiv, 1) := by decide +kernel
theorem d_C_setQuota_43 : decode c_C_setQuota 43 = .ok (.putfield 144, 3) := by decide +kernel
theorem d_C_setQuota_46 : decode c_C_setQuota 46 = .ok (.return_, 1) := by decide +kernel
theorem d_C_isAboveQuota_0 : decode c_C_isAboveQuota 0 = .ok (.aload_n 0, 1) := by decide +kernel
theorem d_C_isAboveQuota_1 : decode c_C_isAboveQuota 1 = .ok (.getfield 25, 3) := by decide +kernel
theorem d_C_isAboveQuota_4 : decode c_C_isAboveQuota 4 = .ok (.aload_n 0, 1) := by decide +kernel
theorem d_C_isAboveQuota_5 : decode c_C_isAboveQuota 5 = .ok (.getfield 96, 3) := by decide +kernel
theorem d_C_isAboveQuota_8 : decode c_C_isAboveQuota 8 = .ok (.aaload, 1) := by decide +kernel
theorem d_C_isAboveQuota_9 : decode c_C_isAboveQuota 9 = .ok (.getfield 164, 3) := by decide +kernel
theorem d_C_isAboveQuota_12 : decode c_C_isAboveQuota 12 = .ok (.iload_n 1, 1) := by decide +kernel
theorem d_C_isAboveQuota_13 : decode c_C_isAboveQuota 13 = .ok (.aload_n 0, 1) := by decide +kernel
theorem d_C_isAboveQuota_14 : decode c_C_isAboveQuota 14 = .ok (.getfield 109, 3) := by decide +kernel
theorem d_C_isAboveQuota_17 : decode c_C_isAboveQuota 17 = .ok (.aload_n 0, 1) := by decide +kernel
theorem d_C_isAboveQuota_18 : decode c_C_isAboveQuota 18 = .ok (.getfield 144, 3) := by decide +kernel
theorem d_C_isAboveQuota_21 : decode c_C_isAboveQuota 21 = .ok (.invokevirtual 204, 3) := by decide +kernel
theorem d_C_isAboveQuota_24 : decode c_C_isAboveQuota 24 = .ok (.ifCond .le 7, 3) := by decide +kernel
theorem d_C_isAboveQuota_27 : decode c_C_isAboveQuota 27 = .ok (.iconst 1, 1) := by decide +kernel
theorem d_C_isAboveQuota_28 : decode c_C_isAboveQuota 28 = .ok (.goto 4, 3) := by decide +kernel
theorem d_C_isAboveQuota_31 : decode c_C_isAboveQuota 31 = .ok (.iconst 0, 1) := by decide +kernel
theorem d_C_isAboveQuota_32 : decode c_C_isAboveQuota 32 = .ok (.ireturn, 1) := by decide +kernel
theorem d_C_passSurplus_0 : decode c_C_passSurplus 0 = .ok (.aload_n 0, 1) := by decide +kernel
theorem d_C_passSurplus_1 : decode c_C_passSurplus 1 = .ok (.getfield 25, 3) := by decide +kernel
theorem d_C_passSurplus_4 : decode c_C_passSurplus 4 = .ok (.aload_n 0, 1) := by decide +kernel
theorem d_C_passSurplus_5 : decode c_C_passSurplus 5 = .ok (.getfield 96, 3) := by decide +kernel
theorem d_C_passSurplus_8 : decode c_C_passSurplus 8 = .ok (.aaload, 1) := by decide +kernel
theorem d_C_passSurplus_9 : decode c_C_passSurplus 9 = .ok (.getfield 164, 3) := by decide +kernel
theorem d_C_passSurplus_12 : decode c_C_passSurplus 12 = .ok (.astore_n 2, 1) := by decide +kernel
theorem d_C_passSurplus_13 : decode c_C_passSurplus 13 = .ok (.aload_n 0, 1) := by decide +kernel
theorem d_C_passSurplus_14 : decode c_C_passSurplus 14 = .ok (.getfield 144, 3) := by decide +kernel
theorem d_C_passSurplus_17 : decode c_C_passSurplus 17 = .ok (.aload_n 2, 1) := by decide +kernel
theorem d_C_passSurplus_18 : decode c_C_passSurplus 18 = .ok (.getfield 174, 3) := by decide +kernel
theorem d_C_passSurplus_21 : decode c_C_passSurplus 21 = .ok (.iload_n 1, 1) := by decide +kernel
theorem d_C_passSurplus_22 : decode c_C_passSurplus 22 = .ok (.laload, 1) := by decide +kernel
theorem d_C_passSurplus_23 : decode c_C_passSurplus 23 = .ok (.lmul, 1) := by decide +kernel
theorem d_C_passSurplus_24 : decode c_C_passSurplus 24 = .ok (.lstore_n 3, 1) := by decide +kernel
theorem d_C_passSurplus_25 : decode c_C_passSurplus 25 = .ok (.lload_n 3, 1) := by decide +kernel
theorem d_C_passSurplus_26 : decode c_C_passSurplus 26 = .ok (.aload_n 0, 1) := by decide +kernel
theorem d_C_passSurplus_27 : decode c_C_passSurplus 27 = .ok (.getfield 109, 3) := by decide +kernel
theorem d_C_passSurplus_30 : decode c_C_passSurplus 30 = .ok (.aload_n 2, 1) := by decide +kernel
theorem d_C_passSurplus_31 : decode c_C_passSurplus 31 = .ok (.getfield 168, 3) := by decide +kernel
theorem d_C_passSurplus_34 : decode c_C_passSurplus 34 = .ok (.iload_n 1, 1) := by decide +kernel
theorem d_C_passSurplus_35 : decode c_C_passSurplus 35 = .ok (.laload, 1) := by decide +kernel
theorem d_C_passSurplus_36 : decode c_C_passSurplus 36 = .ok (.lmul, 1) := by decide +kernel
theorem d_C_passSurplus_37 : decode c_C_passSurplus 37 = .ok (.lsub, 1) := by decide +kernel
theorem d_C_passSurplus_38 : decode c_C_passSurplus 38 = .ok (.lstore 5, 2) := by decide +kernel
theorem d_C_passSurplus_40 : decode c_C_passSurplus 40 = .ok (.aload_n 2, 1) := by decide +kernel
theorem d_C_passSurplus_41 : decode c_C_passSurplus 41 = .ok (.iload_n 1, 1) := by decide +kernel
theorem d_C_passSurplus_42 : decode c_C_passSurplus 42 = .ok (.aload_n 0, 1) := by decide +kernel
theorem d_C_passSurplus_43 : decode c_C_passSurplus 43 = .ok (.getfield 109, 3) := by decide +kernel
theorem d_C_passSurplus_46 : decode c_C_passSurplus 46 = .ok (.aload_n 0, 1) := by decide +kernel
theorem d_C_passSurplus_47 : decode c_C_passSurplus 47 = .ok (.getfield 144, 3) := by decide +kernel
theorem d_C_passSurplus_50 : decode c_C_passSurplus 50 = .ok (.invokevirtual 208, 3) := by decide +kernel
theorem d_C_passSurplus_53 : decode c_C_passSurplus 53 = .ok (.aload_n 0, 1) := by decide +kernel
theorem d_C_passSurplus_54 : decode c_C_passSurplus 54 = .ok (.iload_n 1, 1) := by decide +kernel
theorem d_C_passSurplus_55 : decode c_C_passSurplus 55 = .ok (.lload 5, 2) := by decide +kernel
theorem d_C_passSurplus_57 : decode c_C_passSurplus 57 = .ok (.lload_n 3, 1) := by decide +kernel
theorem d_C_passSurplus_58 : decode c_C_passSurplus 58 = .ok (.invokevirtual 102, 3) := by decide +kernel
theorem d_C_passSurplus_61 : decode c_C_passSurplus 61 = .ok (.return_, 1) := by decide +kernel
theorem d_C_excludeAndPass_0 : decode c_C_excludeAndPass 0 = .ok (.aload_n 0, 1) := by decide +kernel
theorem d_C_excludeAndPass_1 : decode c_C_excludeAndPass 1 = .ok (.getfield 12, 3) := by decide +kernel
theorem d_C_excludeAndPass_4 : decode c_C_excludeAndPass 4 = .ok (.iload_n 1, 1) := by decide +kernel
theorem d_C_excludeAndPass_5 : decode c_C_excludeAndPass 5 = .ok (.invokevirtual 71, 3) := by decide +kernel
theorem d_C_excludeAndPass_8 : decode c_C_excludeAndPass 8 = .ok (.aload_n 0, 1) := by decide +kernel
theorem d_C_excludeAndPass_9 : decode c_C_excludeAndPass 9 = .ok (.getfield 25, 3) := by decide +kernel
theorem d_C_excludeAndPass_12 : decode c_C_excludeAndPass 12 = .ok (.aload_n 0, 1) := by decide +kernel
theorem d_C_excludeAndPass_13 : decode c_C_excludeAndPass 13 = .ok (.getfield 96, 3) := by decide +kernel
theorem d_C_excludeAndPass_16 : decode c_C_excludeAndPass 16 = .ok (.aaload, 1) := by decide +kernel
theorem d_C_excludeAndPass_17 : decode c_C_excludeAndPass 17 = .ok (.getfield 164, 3) := by decide +kernel
theorem d_C_excludeAndPass_20 : decode c_C_excludeAndPass 20 = .ok (.iload_n 1, 1) := by decide +kernel
theorem d_C_excludeAndPass_21 : decode c_C_excludeAndPass 21 = .ok (.lconst 0, 1) := by decide +kernel
theorem d_C_excludeAndPass_22 : decode c_C_excludeAndPass 22 = .ok (.lconst 1, 1) := by decide +kernel
theorem d_C_excludeAndPass_23 : decode c_C_excludeAndPass 23 = .ok (.invokevirtual 208, 3) := by decide +kernel
theorem d_C_excludeAndPass_26 : decode c_C_excludeAndPass 26 = .ok (.aload_n 0, 1) := by decide +kernel
theorem d_C_excludeAndPass_27 : decode c_C_excludeAndPass 27 = .ok (.iload_n 1, 1) := by decide +kernel
theorem d_C_excludeAndPass_28 : decode c_C_excludeAndPass 28 = .ok (.lconst 1, 1) := by decide +kernel
theorem d_C_excludeAndPass_29 : decode c_C_excludeAndPass 29 = .ok (.lconst 1, 1) := by decide +kernel
theorem d_C_excludeAndPass_30 : decode c_C_excludeAndPass 30 = .ok (.invokevirtual 102, 3) := by decide +kernel
theorem d_C_excludeAndPass_33 : decode c_C_excludeAndPass 33 = .ok (.return_, 1) := by decide +kernel
theorem d_C_passOn_0 : decode c_C_passOn 0 = .ok (.iconst 0, 1) := by decide +kernel
theorem d_C_passOn_1 : decode c_C_passOn 1 = .ok (.istore 6, 2) := by decide +kernel
theorem d_C_passOn_3 : decode c_C_passOn 3 = .ok (.iload 6, 2) := by decide +kernel
theorem d_C_passOn_5 : decode c_C_passOn 5 = .ok (.aload_n 0, 1) := by decide +kernel
theorem d_C_passOn_6 : decode c_C_passOn 6 = .ok (.getfield 19, 3) := by decide +kernel
theorem d_C_passOn_9 : decode c_C_passOn 9 = .ok (.getfield 210, 3) := by decide +kernel
theorem d_C_passOn_12 : decode c_C_passOn 12 = .ok (.if_icmp .ge 58, 3) := by decide +kernel
theorem d_C_passOn_15 : decode c_C_passOn 15 = .ok (.aload_n 0, 1) := by decide +kernel
theorem d_C_passOn_16 : decode c_C_passOn 16 = .ok (.getfield 19, 3) := by decide +kernel
theorem d_C_passOn_19 : decode c_C_passOn 19 = .ok (.getfield 213, 3) := by decide +kernel
theorem d_C_passOn_22 : decode c_C_passOn 22 = .ok (.iload 6, 2) := by decide +kernel
theorem d_C_passOn_24 : decode c_C_passOn 24 = .ok (.iaload, 1) := by decide +kernel
theorem d_C_passOn_25 : decode c_C_passOn 25 = .ok (.iload_n 1, 1) := by decide +kernel
theorem d_C_passOn_26 : decode c_C_passOn 26 = .ok (.if_icmp .ne 38, 3) := by decide +kernel
theorem d_C_passOn_29 : decode c_C_passOn 29 = .ok (.aload_n 0, 1) := by decide +kernel
theorem d_C_passOn_30 : decode c_C_passOn 30 = .ok (.getfield 19, 3) := by decide +kernel
theorem d_C_passOn_33 : decode c_C_passOn 33 = .ok (.getfield 216, 3) := by decide +kernel
theorem d_C_passOn_36 : decode c_C_passOn 36 = .ok (.iload 6, 2) := by decide +kernel
theorem d_C_passOn_38 : decode c_C_passOn 38 = .ok (.lload_n 2, 1) := by decide +kernel
theorem d_C_passOn_39 : decode c_C_passOn 39 = .ok (.lload 4, 2) := by decide +kernel
theorem d_C_passOn_41 : decode c_C_passOn 41 = .ok (.invokevirtual 219, 3) := by decide +kernel
theorem d_C_passOn_44 : decode c_C_passOn 44 = .ok (.aload_n 0, 1) := by decide +kernel
theorem d_C_passOn_45 : decode c_C_passOn 45 = .ok (.iload 6, 2) := by decide +kernel
theorem d_C_passOn_47 : decode c_C_passOn 47 = .ok (.aload_n 0, 1) := by decide +kernel
theorem d_C_passOn_48 : decode c_C_passOn 48 = .ok (.aload_n 0, 1) := by decide +kernel
theorem d_C_passOn_49 : decode c_C_passOn 49 = .ok (.getfield 19, 3) := by decide +kernel
theorem d_C_passOn_52 : decode c_C_passOn 52 = .ok (.getfield 222, 3) := by decide +kernel
theorem d_C_passOn_55 : decode c_C_passOn 55 = .ok (.iload 6, 2) := by decide +kernel
theorem d_C_passOn_57 : decode c_C_passOn 57 = .ok (.laload, 1) := by decide +kernel
theorem d_C_passOn_58 : decode c_C_passOn 58 = .ok (.invokevirtual 225, 3) := by decide +kernel
theorem d_C_passOn_61 : decode c_C_passOn 61 = .ok (.invokevirtual 229, 3) := by decide +kernel
theorem d_C_passOn_64 : decode c_C_passOn 64 = .ok (.iinc 6 1, 3) := by decide +kernel
theorem d_C_passOn_67 : decode c_C_passOn 67 = .ok (.goto (-64), 3) := by decide +kernel
theorem d_C_passOn_70 : decode c_C_passOn 70 = .ok (.return_, 1) := by decide +kernel
theorem d_C_hand_0 : decode c_C_hand 0 = .ok (.aload_n 0, 1) := by decide +kernel
theorem d_C_hand_1 : decode c_C_hand 1 = .ok (.getfield 19, 3) := by decide +kernel
theorem d_C_hand_4 : decode c_C_hand 4 = .ok (.getfield 232, 3) := by decide +kernel
theorem d_C_hand_7 : decode c_C_hand 7 = .ok (.iload_n 1, 1) := by decide +kernel
theorem d_C_hand_8 : decode c_C_hand 8 = .ok (.iaload, 1) := by decide +kernel
theorem d_C_hand_9 : decode c_C_hand 9 = .ok (.istore_n 3, 1) := by decide +kernel
theorem d_C_hand_10 : decode c_C_hand 10 = .ok (.aload_n 0, 1) := by decide +kernel
theorem d_C_hand_11 : decode c_C_hand 11 = .ok (.getfield 19, 3) := by decide +kernel
theorem d_C_hand_14 : decode c_C_hand 14 = .ok (.getfield 213, 3) := by decide +kernel
theorem d_C_hand_17 : decode c_C_hand 17 = .ok (.iload_n 1, 1) := by decide +kernel
theorem d_C_hand_18 : decode c_C_hand 18 = .ok (.iload_n 2, 1) := by decide +kernel
theorem d_C_hand_19 : decode c_C_hand 19 = .ok (.iastore, 1) := by decide +kernel
theorem d_C_hand_20 : decode c_C_hand 20 = .ok (.aload_n 0, 1) := by decide +kernel
theorem d_C_hand_21 : decode c_C_hand 21 = .ok (.getfield 25, 3) := by decide +kernel
theorem d_C_hand_24 : decode c_C_hand 24 = .ok (.aload_n 0, 1) := by decide +kernel
theorem d_C_hand_25 : decode c_C_hand 25 = .ok (.getfield 96, 3) := by decide +kernel
theorem d_C_hand_28 : decode c_C_hand 28 = .ok (.aaload, 1) := by decide +kernel
theorem d_C_hand_29 : decode c_C_hand 29 = .ok (.getfield 184, 3) := by decide +kernel
theorem d_C_hand_32 : decode c_C_hand 32 = .ok (.iload_n 2, 1) := by decide +kernel
theorem d_C_hand_33 : decode c_C_hand 33 = .ok (.dup2, 1) := by decide +kernel
theorem d_C_hand_34 : decode c_C_hand 34 = .ok (.iaload, 1) := by decide +kernel
theorem d_C_hand_35 : decode c_C_hand 35 = .ok (.iload_n 3, 1) := by decide +kernel
theorem d_C_hand_36 : decode c_C_hand 36 = .ok (.iadd, 1) := by decide +kernel
theorem d_C_hand_37 : decode c_C_hand 37 = .ok (.iastore, 1) := by decide +kernel
theorem d_C_hand_38 : decode c_C_hand 38 = .ok (.aload_n 0, 1) := by decide +kernel
theorem d_C_hand_39 : decode c_C_hand 39 = .ok (.getfield 25, 3) := by decide +kernel
theorem d_C_hand_42 : decode c_C_hand 42 = .ok (.aload_n 0, 1) := by decide +kernel
theorem d_C_hand_43 : decode c_C_hand 43 = .ok (.getfield 96, 3) := by decide +kernel
theorem d_C_hand_46 : decode c_C_hand 46 = .ok (.aaload, 1) := by decide +kernel
theorem d_C_hand_47 : decode c_C_hand 47 = .ok (.getfield 164, 3) := by decide +kernel
theorem d_C_hand_50 : decode c_C_hand 50 = .ok (.iload_n 2, 1) := by decide +kernel
theorem d_C_hand_51 : decode c_C_hand 51 = .ok (.iload_n 3, 1) := by decide +kernel
theorem d_C_hand_52 : decode c_C_hand 52 = .ok (.i2l, 1) := by decide +kernel
theorem d_C_hand_53 : decode c_C_hand 53 = .ok (.aload_n 0, 1) := by decide +kernel
theorem d_C_hand_54 : decode c_C_hand 54 = .ok (.getfield 19, 3) := by decide +kernel
theorem d_C_hand_57 : decode c_C_hand 57 = .ok (.getfield 216, 3) := by decide +kernel
theorem d_C_hand_60 : decode c_C_hand 60 = .ok (.getfield 174, 3) := by decide +kernel
theorem d_C_hand_63 : decode c_C_hand 63 = .ok (.iload_n 1, 1) := by decide +kernel
theorem d_C_hand_64 : decode c_C_hand 64 = .ok (.laload, 1) := by decide +kernel
theorem d_C_hand_65 : decode c_C_hand 65 = .ok (.lmul, 1) := by decide +kernel
theorem d_C_hand_66 : decode c_C_hand 66 = .ok (.aload_n 0, 1) := by decide +kernel
theorem d_C_hand_67 : decode c_C_hand 67 = .ok (.getfield 19, 3) := by decide +kernel
theorem d_C_hand_70 : decode c_C_hand 70 = .ok (.getfield 216, 3) := by decide +kernel
theorem d_C_hand_73 : decode c_C_hand 73 = .ok (.getfield 168, 3) := by decide +kernel
theorem d_C_hand_76 : decode c_C_hand 76 = .ok (.iload_n 1, 1) := by decide +kernel
theorem d_C_hand_77 : decode c_C_hand 77 = .ok (.laload, 1) := by decide +kernel
theorem d_C_hand_78 : decode c_C_hand 78 = .ok (.invokevirtual 235, 3) := by decide +kernel
theorem d_C_hand_81 : decode c_C_hand 81 = .ok (.return_, 1) := by decide +kernel
theorem d_C_firstContinuing_0 : decode c_C_firstContinuing 0 = .ok (.iconst 0, 1) := by decide +kernel
theorem d_C_firstContinuing_1 : decode c_C_firstContinuing 1 = .ok (.istore_n 3, 1) := by decide +kernel
theorem d_C_firstContinuing_2 : decode c_C_firstContinuing 2 = .ok (.iload_n 3, 1) := by decide +kernel
theorem d_C_firstContinuing_3 : decode c_C_firstContinuing 3 = .ok (.bipush 7, 2) := by decide +kernel
theorem d_C_firstContinuing_5 : decode c_C_firstContinuing 5 = .ok (.if_icmp .ge 40, 3) := by decide +kernel
theorem d_C_firstContinuing_8 : decode c_C_firstContinuing 8 = .ok (.lload_n 1, 1) := by decide +kernel
theorem d_C_firstContinuing_9 : decode c_C_firstContinuing 9 = .ok (.iload_n 3, 1) := by decide +kernel
theorem d_C_firstContinuing_10 : decode c_C_firstContinuing 10 = .ok (.invokestatic 194, 3) := by decide +kernel
theorem d_C_firstContinuing_13 : decode c_C_firstContinuing 13 = .ok (.istore 4, 2) := by decide +kernel
theorem d_C_firstContinuing_15 : decode c_C_firstContinuing 15 = .ok (.iload 4, 2) := by decide +kernel
theorem d_C_firstContinuing_17 : decode c_C_firstContinuing 17 = .ok (.iconst (-1), 1) := by decide +kernel
theorem d_C_firstContinuing_18 : decode c_C_firstContinuing 18 = .ok (.if_icmp .ne 6, 3) := by decide +kernel
theorem d_C_firstContinuing_21 : decode c_C_firstContinuing 21 = .ok (.goto 24, 3) := by decide +kernel
theorem d_C_firstContinuing_24 : decode c_C_firstContinuing 24 = .ok (.aload_n 0, 1) := by decide +kernel
theorem d_C_firstContinuing_25 : decode c_C_firstContinuing 25 = .ok (.getfield 12, 3) := by decide +kernel
theorem d_C_firstContinuing_28 : decode c_C_firstContinuing 28 = .ok (.iload 4, 2) := by decide +kernel
theorem d_C_firstContinuing_30 : decode c_C_firstContinuing 30 = .ok (.invokevirtual 58, 3) := by decide +kernel
theorem d_C_firstContinuing_33 : decode c_C_firstContinuing 33 = .ok (.ifCond .eq 6, 3) := by decide +kernel
theorem d_C_firstContinuing_36 : decode c_C_firstContinuing 36 = .ok (.iload 4, 2) := by decide +kernel
theorem d_C_firstContinuing_38 : decode c_C_firstContinuing 38 = .ok (.ireturn, 1) := by decide +kernel
theorem d_C_firstContinuing_39 : decode c_C_firstContinuing 39 = .ok (.iinc 3 1, 3) := by decide +kernel
theorem d_C_firstContinuing_42 : decode c_C_firstContinuing 42 = .ok (.goto (-40), 3) := by decide +kernel
theorem d_C_firstContinuing_45 : decode c_C_firstContinuing 45 = .ok (.aload_n 0, 1) := by decide +kernel
theorem d_C_firstContinuing_46 : decode c_C_firstContinuing 46 = .ok (.getfield 12, 3) := by decide +kernel
theorem d_C_firstContinuing_49 : decode c_C_firstContinuing 49 = .ok (.getfield 143, 3) := by decide +kernel
theorem d_C_firstContinuing_52 : decode c_C_firstContinuing 52 = .ok (.ireturn, 1) := by decide +kernel
theorem d_C_settle_0 : decode c_C_settle 0 = .ok (.aload_n 0, 1) := by decide +kernel
theorem d_C_settle_1 : decode c_C_settle 1 = .ok (.iconst 1, 1) := by decide +kernel
theorem d_C_settle_2 : decode c_C_settle 2 = .ok (.invokevirtual 238, 3) := by decide +kernel
theorem d_C_settle_5 : decode c_C_settle 5 = .ok (.aload_n 0, 1) := by decide +kernel
theorem d_C_settle_6 : decode c_C_settle 6 = .ok (.getfield 12, 3) := by decide +kernel
theorem d_C_settle_9 : decode c_C_settle 9 = .ok (.getfield 147, 3) := by decide +kernel
theorem d_C_settle_12 : decode c_C_settle 12 = .ok (.aload_n 0, 1) := by decide +kernel
theorem d_C_settle_13 : decode c_C_settle 13 = .ok (.getfield 65, 3) := by decide +kernel
theorem d_C_settle_16 : decode c_C_settle 16 = .ok (.if_icmp .ne 7, 3) := by decide +kernel
theorem d_C_settle_19 : decode c_C_settle 19 = .ok (.iconst 1, 1) := by decide +kernel
theorem d_C_settle_20 : decode c_C_settle 20 = .ok (.goto 4, 3) := by decide +kernel
theorem d_C_settle_23 : decode c_C_settle 23 = .ok (.iconst 0, 1) := by decide +kernel
theorem d_C_settle_24 : decode c_C_settle 24 = .ok (.istore_n 1, 1) := by decide +kernel
theorem d_C_settle_25 : decode c_C_settle 25 = .ok (.aload_n 0, 1) := by decide +kernel
theorem d_C_settle_26 : decode c_C_settle 26 = .ok (.getfield 12, 3) := by decide +kernel
theorem d_C_settle_29 : decode c_C_settle 29 = .ok (.getfield 147, 3) := by decide +kernel
theorem d_C_settle_32 : decode c_C_settle 32 = .ok (.aload_n 0, 1) := by decide +kernel
theorem d_C_settle_33 : decode c_C_settle 33 = .ok (.getfield 12, 3) := by decide +kernel
theorem d_C_settle_36 : decode c_C_settle 36 = .ok (.invokevirtual 61, 3) := by decide +kernel
theorem d_C_settle_39 : decode c_C_settle 39 = .ok (.iadd, 1) := by decide +kernel
theorem d_C_settle_40 : decode c_C_settle 40 = .ok (.aload_n 0, 1) := by decide +kernel
theorem d_C_settle_41 : decode c_C_settle 41 = .ok (.getfield 65, 3) := by decide +kernel
theorem d_C_settle_44 : decode c_C_settle 44 = .ok (.if_icmp .gt 7, 3) := by decide +kernel
theorem d_C_settle_47 : decode c_C_settle 47 = .ok (.iconst 1, 1) := by decide +kernel
theorem d_C_settle_48 : decode c_C_settle 48 = .ok (.goto 4, 3) := by decide +kernel
theorem d_C_settle_51 : decode c_C_settle 51 = .ok (.iconst 0, 1) := by decide +kernel
theorem d_C_settle_52 : decode c_C_settle 52 = .ok (.istore_n 2, 1) := by decide +kernel
theorem d_C_settle_53 : decode c_C_settle 53 = .ok (.iload_n 2, 1) := by decide +kernel
theorem d_C_settle_54 : decode c_C_settle 54 = .ok (.ifCond .eq 8, 3) := by decide +kernel
theorem d_C_settle_57 : decode c_C_settle 57 = .ok (.aload_n 0, 1) := by decide +kernel
theorem d_C_settle_58 : decode c_C_settle 58 = .ok (.iconst 0, 1) := by decide +kernel
theorem d_C_settle_59 : decode c_C_settle 59 = .ok (.invokevirtual 238, 3) := by decide +kernel
theorem d_C_settle_62 : decode c_C_settle 62 = .ok (.aload_n 0, 1) := by decide +kernel
theorem d_C_settle_63 : decode c_C_settle 63 = .ok (.iload_n 1, 1) := by decide +kernel
theorem d_C_settle_64 : decode c_C_settle 64 = .ok (.ifCond .ne 7, 3) := by decide +kernel
theorem d_C_settle_67 : decode c_C_settle 67 = .ok (.iload_n 2, 1) := by decide +kernel
theorem d_C_settle_68 : decode c_C_settle 68 = .ok (.ifCond .eq 7, 3) := by decide +kernel
theorem d_C_settle_71 : decode c_C_settle 71 = .ok (.iconst 1, 1) := by decide +kernel
theorem d_C_settle_72 : decode c_C_settle 72 = .ok (.goto 4, 3) := by decide +kernel
theorem d_C_settle_75 : decode c_C_settle 75 = .ok (.iconst 0, 1) := by decide +kernel
theorem d_C_settle_76 : decode c_C_settle 76 = .ok (.putfield 117, 3) := by decide +kernel
theorem d_C_settle_79 : decode c_C_settle 79 = .ok (.return_, 1) := by decide +kernel
theorem d_C_electInOrder_0 : decode c_C_electInOrder 0 = .ok (.iconst 0, 1) := by decide +kernel
theorem d_C_electInOrder_1 : decode c_C_electInOrder 1 = .ok (.istore_n 2, 1) := by decide +kernel
theorem d_C_electInOrder_2 : decode c_C_electInOrder 2 = .ok (.iload_n 2, 1) := by decide +kernel
theorem d_C_electInOrder_3 : decode c_C_electInOrder 3 = .ok (.aload_n 0, 1) := by decide +kernel
theorem d_C_electInOrder_4 : decode c_C_electInOrder 4 = .ok (.getfield 12, 3) := by decide +kernel
theorem d_C_electInOrder_7 : decode c_C_electInOrder 7 = .ok (.getfield 143, 3) := by decide +kernel
theorem d_C_electInOrder_10 : decode c_C_electInOrder 10 = .ok (.if_icmp .ge 43, 3) := by decide +kernel
theorem d_C_electInOrder_13 : decode c_C_electInOrder 13 = .ok (.aload_n 0, 1) := by decide +kernel
theorem d_C_electInOrder_14 : decode c_C_electInOrder 14 = .ok (.iconst 0, 1) := by decide +kernel
theorem d_C_electInOrder_15 : decode c_C_electInOrder 15 = .ok (.invokevirtual 123, 3) := by decide +kernel
theorem d_C_electInOrder_18 : decode c_C_electInOrder 18 = .ok (.istore_n 3, 1) := by decide +kernel
theorem d_C_electInOrder_19 : decode c_C_electInOrder 19 = .ok (.iload_n 3, 1) := by decide +kernel
theorem d_C_electInOrder_20 : decode c_C_electInOrder 20 = .ok (.iconst (-1), 1) := by decide +kernel
theorem d_C_electInOrder_21 : decode c_C_electInOrder 21 = .ok (.if_icmp .eq 32, 3) := by decide +kernel
theorem d_C_electInOrder_24 : decode c_C_electInOrder 24 = .ok (.iload_n 1, 1) := by decide +kernel
theorem d_C_electInOrder_25 : decode c_C_electInOrder 25 = .ok (.ifCond .eq 14, 3) := by decide +kernel
theorem d_C_electInOrder_28 : decode c_C_electInOrder 28 = .ok (.aload_n 0, 1) := by decide +kernel
theorem d_C_electInOrder_29 : decode c_C_electInOrder 29 = .ok (.iload_n 3, 1) := by decide +kernel
theorem d_C_electInOrder_30 : decode c_C_electInOrder 30 = .ok (.invokevirtual 127, 3) := by decide +kernel
theorem d_C_electInOrder_33 : decode c_C_electInOrder 33 = .ok (.ifCond .ne 6, 3) := by decide +kernel
theorem d_C_electInOrder_36 : decode c_C_electInOrder 36 = .ok (.goto 17, 3) := by decide +kernel
theorem d_C_electInOrder_39 : decode c_C_electInOrder 39 = .ok (.aload_n 0, 1) := by decide +kernel
theorem d_C_electInOrder_40 : decode c_C_electInOrder 40 = .ok (.getfield 12, 3) := by decide +kernel
theorem d_C_electInOrder_43 : decode c_C_electInOrder 43 = .ok (.iload_n 3, 1) := by decide +kernel
theorem d_C_electInOrder_44 : decode c_C_electInOrder 44 = .ok (.invokevirtual 242, 3) := by decide +kernel
theorem d_C_electInOrder_47 : decode c_C_electInOrder 47 = .ok (.iinc 2 1, 3) := by decide +kernel
theorem d_C_electInOrder_50 : decode c_C_electInOrder 50 = .ok (.goto (-48), 3) := by decide +kernel
theorem d_C_electInOrder_53 : decode c_C_electInOrder 53 = .ok (.return_, 1) := by decide +kernel
theorem d_C_foremost_0 : decode c_C_foremost 0 = .ok (.iconst (-1), 1) := by decide +kernel
theorem d_C_foremost_1 : decode c_C_foremost 1 = .ok (.istore_n 2, 1) := by decide +kernel
theorem d_C_foremost_2 : decode c_C_foremost 2 = .ok (.iconst 0, 1) := by decide +kernel
theorem d_C_foremost_3 : decode c_C_foremost 3 = .ok (.istore_n 3, 1) := by decide +kernel
theorem d_C_foremost_4 : decode c_C_foremost 4 = .ok (.iload_n 3, 1) := by decide +kernel
theorem d_C_foremost_5 : decode c_C_foremost 5 = .ok (.aload_n 0, 1) := by decide +kernel
theorem d_C_foremost_6 : decode c_C_foremost 6 = .ok (.getfield 12, 3) := by decide +kernel
theorem d_C_foremost_9 : decode c_C_foremost 9 = .ok (.getfield 143, 3) := by decide +kernel
theorem d_C_foremost_12 : decode c_C_foremost 12 = .ok (.if_icmp .ge 55, 3) := by decide +kernel
theorem d_C_foremost_15 : decode c_C_foremost 15 = .ok (.iload_n 1, 1) := by decide +kernel
theorem d_C_foremost_16 : decode c_C_foremost 16 = .ok (.ifCond .eq 14, 3) := by decide +kernel
theorem d_C_foremost_19 : decode c_C_foremost 19 = .ok (.aload_n 0, 1) := by decide +kernel
theorem d_C_foremost_20 : decode c_C_foremost 20 = .ok (.getfield 12, 3) := by decide +kernel
theorem d_C_foremost_23 : decode c_C_foremost 23 = .ok (.iload_n 3, 1) := by decide +kernel
theorem d_C_foremost_24 : decode c_C_foremost 24 = .ok (.invokevirtual 245, 3) := by decide +kernel
theorem d_C_foremost_27 : decode c_C_foremost 27 = .ok (.goto 11, 3) := by decide +kernel
theorem d_C_foremost_30 : decode c_C_foremost 30 = .ok (.aload_n 0, 1) := by decide +kernel
theorem d_C_foremost_31 : decode c_C_foremost 31 = .ok (.getfield 12, 3) := by decide +kernel
theorem d_C_foremost_34 : decode c_C_foremost 34 = .ok (.iload_n 3, 1) := by decide +kernel
theorem d_C_foremost_35 : decode c_C_foremost 35 = .ok (.invokevirtual 58, 3) := by decide +kernel
theorem d_C_foremost_38 : decode c_C_foremost 38 = .ok (.istore 4, 2) := by decide +kernel
theorem d_C_foremost_40 : decode c_C_foremost 40 = .ok (.iload 4, 2) := by decide +kernel
theorem d_C_foremost_42 : decode c_C_foremost 42 = .ok (.ifCond .eq 19, 3) := by decide +kernel
theorem d_C_foremost_45 : decode c_C_foremost 45 = .ok (.iload_n 2, 1) := by decide +kernel
theorem d_C_foremost_46 : decode c_C_foremost 46 = .ok (.iconst (-1), 1) := by decide +kernel
theorem d_C_foremost_47 : decode c_C_foremost 47 = .ok (.if_icmp .eq 12, 3) := by decide +kernel
theorem d_C_foremost_50 : decode c_C_foremost 50 = .ok (.aload_n 0, 1) := by decide +kernel
theorem d_C_foremost_51 : decode c_C_foremost 51 = .ok (.iload_n 3, 1) := by decide +kernel
theorem d_C_foremost_52 : decode c_C_foremost 52 = .ok (.iload_n 2, 1) := by decide +kernel
theorem d_C_foremost_53 : decode c_C_foremost 53 = .ok (.invokevirtual 248, 3) := by decide +kernel
theorem d_C_foremost_56 : decode c_C_foremost 56 = .ok (.ifCond .eq 5, 3) := by decide +kernel
theorem d_C_foremost_59 : decode c_C_foremost 59 = .ok (.iload_n 3, 1) := by decide +kernel
theorem d_C_foremost_60 : decode c_C_foremost 60 = .ok (.istore_n 2, 1) := by decide +kernel
theorem d_C_foremost_61 : decode c_C_foremost 61 = .ok (.iinc 3 1, 3) := by decide +kernel
theorem d_C_foremost_64 : decode c_C_foremost 64 = .ok (.goto (-60), 3) := by decide +kernel
theorem d_C_foremost_67 : decode c_C_foremost 67 = .ok (.iload_n 2, 1) := by decide +kernel
theorem d_C_foremost_68 : decode c_C_foremost 68 = .ok (.ireturn, 1) := by decide +kernel
theorem d_C_hindmost_0 : decode c_C_hindmost 0 = .ok (.iconst (-1), 1) := by decide +kernel
theorem d_C_hindmost_1 : decode c_C_hindmost 1 = .ok (.istore_n 1, 1) := by decide +kernel
theorem d_C_hindmost_2 : decode c_C_hindmost 2 = .ok (.iconst 0, 1) := by decide +kernel
theorem d_C_hindmost_3 : decode c_C_hindmost 3 = .ok (.istore_n 2, 1) := by decide +kernel
theorem d_C_hindmost_4 : decode c_C_hindmost 4 = .ok (.iload_n 2, 1) := by decide +kernel
theorem d_C_hindmost_5 : decode c_C_hindmost 5 = .ok (.aload_n 0, 1) := by decide +kernel
theorem d_C_hindmost_6 : decode c_C_hindmost 6 = .ok (.getfield 12, 3) := by decide +kernel
theorem d_C_hindmost_9 : decode c_C_hindmost 9 = .ok (.getfield 143, 3) := by decide +kernel
theorem d_C_hindmost_12 : decode c_C_hindmost 12 = .ok (.if_icmp .ge 36, 3) := by decide +kernel
theorem d_C_hindmost_15 : decode c_C_hindmost 15 = .ok (.aload_n 0, 1) := by decide +kernel
theorem d_C_hindmost_16 : decode c_C_hindmost 16 = .ok (.getfield 12, 3) := by decide +kernel
theorem d_C_hindmost_19 : decode c_C_hindmost 19 = .ok (.iload_n 2, 1) := by decide +kernel
theorem d_C_hindmost_20 : decode c_C_hindmost 20 = .ok (.invokevirtual 58, 3) := by decide +kernel
theorem d_C_hindmost_23 : decode c_C_hindmost 23 = .ok (.ifCond .eq 19, 3) := by decide +kernel
theorem d_C_hindmost_26 : decode c_C_hindmost 26 = .ok (.iload_n 1, 1) := by decide +kernel
theorem d_C_hindmost_27 : decode c_C_hindmost 27 = .ok (.iconst (-1), 1) := by decide +kernel
theorem d_C_hindmost_28 : decode c_C_hindmost 28 = .ok (.if_icmp .eq 12, 3) := by decide +kernel
theorem d_C_hindmost_31 : decode c_C_hindmost 31 = .ok (.aload_n 0, 1) := by decide +kernel
theorem d_C_hindmost_32 : decode c_C_hindmost 32 = .ok (.iload_n 1, 1) := by decide +kernel
theorem d_C_hindmost_33 : decode c_C_hindmost 33 = .ok (.iload_n 2, 1) := by decide +kernel
theorem d_C_hindmost_34 : decode c_C_hindmost 34 = .ok (.invokevirtual 248, 3) := by decide +kernel
theorem d_C_hindmost_37 : decode c_C_hindmost 37 = .ok (.ifCond .eq 5, 3) := by decide +kernel
theorem d_C_hindmost_40 : decode c_C_hindmost 40 = .ok (.iload_n 2, 1) := by decide +kernel
theorem d_C_hindmost_41 : decode c_C_hindmost 41 = .ok (.istore_n 1, 1) := by decide +kernel
theorem d_C_hindmost_42 : decode c_C_hindmost 42 = .ok (.iinc 2 1, 3) := by decide +kernel
theorem d_C_hindmost_45 : decode c_C_hindmost 45 = .ok (.goto (-41), 3) := by decide +kernel
theorem d_C_hindmost_48 : decode c_C_hindmost 48 = .ok (.iload_n 1, 1) := by decide +kernel
theorem d_C_hindmost_49 : decode c_C_hindmost 49 = .ok (.ireturn, 1) := by decide +kernel
theorem d_C_isAhead_0 : decode c_C_isAhead 0 = .ok (.aload_n 0, 1) := by decide +kernel
theorem d_C_isAhead_1 : decode c_C_isAhead 1 = .ok (.getfield 96, 3) := by decide +kernel
theorem d_C_isAhead_4 : decode c_C_isAhead 4 = .ok (.istore_n 3, 1) := by decide +kernel
theorem d_C_isAhead_5 : decode c_C_isAhead 5 = .ok (.iload_n 3, 1) := by decide +kernel
theorem d_C_isAhead_6 : decode c_C_isAhead 6 = .ok (.ifCond .lt 58, 3) := by decide +kernel
theorem d_C_isAhead_9 : decode c_C_isAhead 9 = .ok (.aload_n 0, 1) := by decide +kernel
theorem d_C_isAhead_10 : decode c_C_isAhead 10 = .ok (.getfield 25, 3) := by decide +kernel
theorem d_C_isAhead_13 : decode c_C_isAhead 13 = .ok (.iload_n 3, 1) := by decide +kernel
theorem d_C_isAhead_14 : decode c_C_isAhead 14 = .ok (.aaload, 1) := by decide +kernel
theorem d_C_isAhead_15 : decode c_C_isAhead 15 = .ok (.getfield 164, 3) := by decide +kernel
theorem d_C_isAhead_18 : decode c_C_isAhead 18 = .ok (.astore 4, 2) := by decide +kernel
theorem d_C_isAhead_20 : decode c_C_isAhead 20 = .ok (.aload 4, 2) := by decide +kernel
theorem d_C_isAhead_22 : decode c_C_isAhead 22 = .ok (.iload_n 1, 1) := by decide +kernel
theorem d_C_isAhead_23 : decode c_C_isAhead 23 = .ok (.aload 4, 2) := by decide +kernel
theorem d_C_isAhead_25 : decode c_C_isAhead 25 = .ok (.getfield 174, 3) := by decide +kernel
theorem d_C_isAhead_28 : decode c_C_isAhead 28 = .ok (.iload_n 2, 1) := by decide +kernel
theorem d_C_isAhead_29 : decode c_C_isAhead 29 = .ok (.laload, 1) := by decide +kernel
theorem d_C_isAhead_30 : decode c_C_isAhead 30 = .ok (.aload 4, 2) := by decide +kernel
theorem d_C_isAhead_32 : decode c_C_isAhead 32 = .ok (.getfield 168, 3) := by decide +kernel
theorem d_C_isAhead_35 : decode c_C_isAhead 35 = .ok (.iload_n 2, 1) := by decide +kernel
theorem d_C_isAhead_36 : decode c_C_isAhead 36 = .ok (.laload, 1) := by decide +kernel
theorem d_C_isAhead_37 : decode c_C_isAhead 37 = .ok (.invokevirtual 204, 3) := by decide +kernel
theorem d_C_isAhead_40 : decode c_C_isAhead 40 = .ok (.istore 5, 2) := by decide +kernel
theorem d_C_isAhead_42 : decode c_C_isAhead 42 = .ok (.iload 5, 2) := by decide +kernel
theorem d_C_isAhead_44 : decode c_C_isAhead 44 = .ok (.ifCond .eq 14, 3) := by decide +kernel
theorem d_C_isAhead_47 : decode c_C_isAhead 47 = .ok (.iload 5, 2) := by decide +kernel
theorem d_C_isAhead_49 : decode c_C_isAhead 49 = .ok (.ifCond .le 7, 3) := by decide +kernel
theorem d_C_isAhead_52 : decode c_C_isAhead 52 = .ok (.iconst 1, 1) := by decide +kernel
theorem d_C_isAhead_53 : decode c_C_isAhead 53 = .ok (.goto 4, 3) := by decide +kernel
theorem d_C_isAhead_56 : decode c_C_isAhead 56 = .ok (.iconst 0, 1) := by decide +kernel
theorem d_C_isAhead_57 : decode c_C_isAhead 57 = .ok (.ireturn, 1) := by decide +kernel
theorem d_C_isAhead_58 : decode c_C_isAhead 58 = .ok (.iinc 3 (-1), 3) := by decide +kernel
theorem d_C_isAhead_61 : decode c_C_isAhead 61 = .ok (.goto (-56), 3) := by decide +kernel
theorem d_C_isAhead_64 : decode c_C_isAhead 64 = .ok (.aload_n 0, 1) := by decide +kernel
theorem d_C_isAhead_65 : decode c_C_isAhead 65 = .ok (.getfield 12, 3) := by decide +kernel
theorem d_C_isAhead_68 : decode c_C_isAhead 68 = .ok (.getfield 54, 3) := by decide +kernel
theorem d_C_isAhead_71 : decode c_C_isAhead 71 = .ok (.iload_n 1, 1) := by decide +kernel
theorem d_C_isAhead_72 : decode c_C_isAhead 72 = .ok (.iaload, 1) := by decide +kernel
theorem d_C_isAhead_73 : decode c_C_isAhead 73 = .ok (.aload_n 0, 1) := by decide +kernel
theorem d_C_isAhead_74 : decode c_C_isAhead 74 = .ok (.getfield 12, 3) := by decide +kernel
theorem d_C_isAhead_77 : decode c_C_isAhead 77 = .ok (.getfield 54, 3) := by decide +kernel
theorem d_C_isAhead_80 : decode c_C_isAhead 80 = .ok (.iload_n 2, 1) := by decide +kernel
theorem d_C_isAhead_81 : decode c_C_isAhead 81 = .ok (.iaload, 1) := by decide +kernel
theorem d_C_isAhead_82 : decode c_C_isAhead 82 = .ok (.if_icmp .ge 7, 3) := by decide +kernel
theorem d_C_isAhead_85 : decode c_C_isAhead 85 = .ok (.iconst 1, 1) := by decide +kernel
theorem d_C_isAhead_86 : decode c_C_isAhead 86 = .ok (.goto 4, 3) := by decide +kernel
theorem d_C_isAhead_89 : decode c_C_isAhead 89 = .ok (.iconst 0, 1) := by decide +kernel
theorem d_C_isAhead_90 : decode c_C_isAhead 90 = .ok (.ireturn, 1) := by decide +kernel
theorem d_C_commonDivisor_0 : decode c_C_commonDivisor 0 = .ok (.lload_n 0, 1) := by decide +kernel
theorem d_C_commonDivisor_1 : decode c_C_commonDivisor 1 = .ok (.lstore 4, 2) := by decide +kernel
theorem d_C_commonDivisor_3 : decode c_C_commonDivisor 3 = .ok (.lload_n 2, 1) := by decide +kernel
theorem d_C_commonDivisor_4 : decode c_C_commonDivisor 4 = .ok (.lstore 6, 2) := by decide +kernel
theorem d_C_commonDivisor_6 : decode c_C_commonDivisor 6 = .ok (.iconst 0, 1) := by decide +kernel
theorem d_C_commonDivisor_7 : decode c_C_commonDivisor 7 = .ok (.istore 8, 2) := by decide +kernel
theorem d_C_commonDivisor_9 : decode c_C_commonDivisor 9 = .ok (.iload 8, 2) := by decide +kernel
theorem d_C_commonDivisor_11 : decode c_C_commonDivisor 11 = .ok (.bipush 100, 2) := by decide +kernel
theorem d_C_commonDivisor_13 : decode c_C_commonDivisor 13 = .ok (.if_icmp .ge 31, 3) := by decide +kernel
theorem d_C_commonDivisor_16 : decode c_C_commonDivisor 16 = .ok (.lload 6, 2) := by decide +kernel
theorem d_C_commonDivisor_18 : decode c_C_commonDivisor 18 = .ok (.lconst 0, 1) := by decide +kernel
theorem d_C_commonDivisor_19 : decode c_C_commonDivisor 19 = .ok (.lcmp, 1) := by decide +kernel
theorem d_C_commonDivisor_20 : decode c_C_commonDivisor 20 = .ok (.ifCond .eq 24, 3) := by decide +kernel
theorem d_C_commonDivisor_23 : decode c_C_commonDivisor 23 = .ok (.lload 4, 2) := by decide +kernel
theorem d_C_commonDivisor_25 : decode c_C_commonDivisor 25 = .ok (.lload 6, 2) := by decide +kernel
theorem d_C_commonDivisor_27 : decode c_C_commonDivisor 27 = .ok (.lrem, 1) := by decide +kernel
theorem d_C_commonDivisor_28 : decode c_C_commonDivisor 28 = .ok (.lstore 9, 2) := by decide +kernel
theorem d_C_commonDivisor_30 : decode c_C_commonDivisor 30 = .ok (.lload 6, 2) := by decide +kernel
theorem d_C_commonDivisor_32 : decode c_C_commonDivisor 32 = .ok (.lstore 4, 2) := by decide +kernel
theorem d_C_commonDivisor_34 : decode c_C_commonDivisor 34 = .ok (.lload 9, 2) := by decide +kernel
theorem d_C_commonDivisor_36 : decode c_C_commonDivisor 36 = .ok (.lstore 6, 2) := by decide +kernel
theorem d_C_commonDivisor_38 : decode c_C_commonDivisor 38 = .ok (.iinc 8 1, 3) := by decide +kernel
theorem d_C_commonDivisor_41 : decode c_C_commonDivisor 41 = .ok (.goto (-32), 3) := by decide +kernel
theorem d_C_commonDivisor_44 : decode c_C_commonDivisor 44 = .ok (.lload 4, 2) := by decide +kernel
theorem d_C_commonDivisor_46 : decode c_C_commonDivisor 46 = .ok (.lconst 0, 1) := by decide +kernel
theorem d_C_commonDivisor_47 : decode c_C_commonDivisor 47 = .ok (.lcmp, 1) := by decide +kernel
theorem d_C_commonDivisor_48 : decode c_C_commonDivisor 48 = .ok (.ifCond .ne 7, 3) := by decide +kernel
theorem d_C_commonDivisor_51 : decode c_C_commonDivisor 51 = .ok (.lconst 1, 1) := by decide +kernel
theorem d_C_commonDivisor_52 : decode c_C_commonDivisor 52 = .ok (.goto 5, 3) := by decide +kernel
theorem d_C_commonDivisor_55 : decode c_C_commonDivisor 55 = .ok (.lload 4, 2) := by decide +kernel
theorem d_C_commonDivisor_57 : decode c_C_commonDivisor 57 = .ok (.lreturn, 1) := by decide +kernel
theorem d_F_init_0 : decode c_F_init 0 = .ok (.aload_n 0, 1) := by decide +kernel
theorem d_F_init_1 : decode c_F_init 1 = .ok (.invokespecial 1, 3) := by decide +kernel
theorem d_F_init_4 : decode c_F_init 4 = .ok (.aload_n 0, 1) := by decide +kernel
theorem d_F_init_5 : decode c_F_init 5 = .ok (.iload_n 1, 1) := by decide +kernel
theorem d_F_init_6 : decode c_F_init 6 = .ok (.newarray .long, 2) := by decide +kernel
theorem d_F_init_8 : decode c_F_init 8 = .ok (.putfield 7, 3) := by decide +kernel
theorem d_F_init_11 : decode c_F_init 11 = .ok (.aload_n 0, 1) := by decide +kernel
theorem d_F_init_12 : decode c_F_init 12 = .ok (.iload_n 1, 1) := by decide +kernel
theorem d_F_init_13 : decode c_F_init 13 = .ok (.newarray .long, 2) := by decide +kernel
theorem d_F_init_15 : decode c_F_init 15 = .ok (.putfield 13, 3) := by decide +kernel
theorem d_F_init_18 : decode c_F_init 18 = .ok (.aload_n 0, 1) := by decide +kernel
theorem d_F_init_19 : decode c_F_init 19 = .ok (.getfield 13, 3) := by decide +kernel
theorem d_F_init_22 : decode c_F_init 22 = .ok (.lconst 1, 1) := by decide +kernel
theorem d_F_init_23 : decode c_F_init 23 = .ok (.invokestatic 16, 3) := by decide +kernel
theorem d_F_init_26 : decode c_F_init 26 = .ok (.return_, 1) := by decide +kernel
theorem d_F_clear_0 : decode c_F_clear 0 = .ok (.aload_n 0, 1) := by decide +kernel
theorem d_F_clear_1 : decode c_F_clear 1 = .ok (.getfield 7, 3) := by decide +kernel
theorem d_F_clear_4 : decode c_F_clear 4 = .ok (.lconst 0, 1) := by decide +kernel
theorem d_F_clear_5 : decode c_F_clear 5 = .ok (.invokestatic 16, 3) := by decide +kernel
theorem d_F_clear_8 : decode c_F_clear 8 = .ok (.aload_n 0, 1) := by decide +kernel
theorem d_F_clear_9 : decode c_F_clear 9 = .ok (.getfield 13, 3) := by decide +kernel
theorem d_F_clear_12 : decode c_F_clear 12 = .ok (.lconst 1, 1) := by decide +kernel
theorem d_F_clear_13 : decode c_F_clear 13 = .ok (.invokestatic 16, 3) := by decide +kernel
theorem d_F_clear_16 : decode c_F_clear 16 = .ok (.return_, 1) := by decide +kernel
theorem d_F_copy_0 : decode c_F_copy 0 = .ok (.aload_n 1, 1) := by decide +kernel
theorem d_F_copy_1 : decode c_F_copy 1 = .ok (.getfield 7, 3) := by decide +kernel
theorem d_F_copy_4 : decode c_F_copy 4 = .ok (.iconst 0, 1) := by decide +kernel
theorem d_F_copy_5 : decode c_F_copy 5 = .ok (.aload_n 0, 1) := by decide +kernel
theorem d_F_copy_6 : decode c_F_copy 6 = .ok (.getfield 7, 3) := by decide +kernel
theorem d_F_copy_9 : decode c_F_copy 9 = .ok (.iconst 0, 1) := by decide +kernel
theorem d_F_copy_10 : decode c_F_copy 10 = .ok (.aload_n 0, 1) := by decide +kernel
theorem d_F_copy_11 : decode c_F_copy 11 = .ok (.getfield 7, 3) := by decide +kernel
theorem d_F_copy_14 : decode c_F_copy 14 = .ok (.arraylength, 1) := by decide +kernel
theorem d_F_copy_15 : decode c_F_copy 15 = .ok (.invokestatic 22, 3) := by decide +kernel
theorem d_F_copy_18 : decode c_F_copy 18 = .ok (.aload_n 1, 1) := by decide +kernel
theorem d_F_copy_19 : decode c_F_copy 19 = .ok (.getfield 13, 3) := by decide +kernel
theorem d_F_copy_22 : decode c_F_copy 22 = .ok (.iconst 0, 1) := by decide +kernel
theorem d_F_copy_23 : decode c_F_copy 23 = .ok (.aload_n 0, 1) := by decide +kernel
theorem d_F_copy_24 : decode c_F_copy 24 = .ok (.getfield 13, 3) := by decide +kernel
theorem d_F_copy_27 : decode c_F_copy 27 = .ok (.iconst 0, 1) := by decide +kernel
theorem d_F_copy_28 : decode c_F_copy 28 = .ok (.aload_n 0, 1) := by decide +kernel
theorem d_F_copy_29 : decode c_F_copy 29 = .ok (.getfield 13, 3) := by decide +kernel
theorem d_F_copy_32 : decode c_F_copy 32 = .ok (.arraylength, 1) := by decide +kernel
theorem d_F_copy_33 : decode c_F_copy 33 = .ok (.invokestatic 22, 3) := by decide +kernel
theorem d_F_copy_36 : decode c_F_copy 36 = .ok (.return_, 1) := by decide +kernel
theorem d_F_put_0 : decode c_F_put 0 = .ok (.lload_n 2, 1) := by decide +kernel
theorem d_F_put_1 : decode c_F_put 1 = .ok (.lload 4, 2) := by decide +kernel
theorem d_F_put_3 : decode c_F_put 3 = .ok (.invokestatic 28, 3) := by decide +kernel
theorem d_F_put_6 : decode c_F_put 6 = .ok (.lstore 6, 2) := by decide +kernel
theorem d_F_put_8 : decode c_F_put 8 = .ok (.aload_n 0, 1) := by decide +kernel
theorem d_F_put_9 : decode c_F_put 9 = .ok (.getfield 7, 3) := by decide +kernel
theorem d_F_put_12 : decode c_F_put 12 = .ok (.iload_n 1, 1) := by decide +kernel
theorem d_F_put_13 : decode c_F_put 13 = .ok (.lload_n 2, 1) := by decide +kernel
theorem d_F_put_14 : decode c_F_put 14 = .ok (.lload 6, 2) := by decide +kernel
theorem d_F_put_16 : decode c_F_put 16 = .ok (.ldiv, 1) := by decide +kernel
theorem d_F_put_17 : decode c_F_put 17 = .ok (.lastore, 1) := by decide +kernel
theorem d_F_put_18 : decode c_F_put 18 = .ok (.aload_n 0, 1) := by decide +kernel
theorem d_F_put_19 : decode c_F_put 19 = .ok (.getfield 13, 3) := by decide +kernel
theorem d_F_put_22 : decode c_F_put 22 = .ok (.iload_n 1, 1) := by decide +kernel
theorem d_F_put_23 : decode c_F_put 23 = .ok (.lload 4, 2) := by decide +kernel
theorem d_F_put_25 : decode c_F_put 25 = .ok (.lload 6, 2) := by decide +kernel
theorem d_F_put_27 : decode c_F_put 27 = .ok (.ldiv, 1) := by decide +kernel
theorem d_F_put_28 : decode c_F_put 28 = .ok (.lastore, 1) := by decide +kernel
theorem d_F_put_29 : decode c_F_put 29 = .ok (.return_, 1) := by decide +kernel
theorem d_F_add_0 : decode c_F_add 0 = .ok (.aload_n 0, 1) := by decide +kernel
theorem d_F_add_1 : decode c_F_add 1 = .ok (.getfield 13, 3) := by decide +kernel
theorem d_F_add_4 : decode c_F_add 4 = .ok (.iload_n 1, 1) := by decide +kernel
theorem d_F_add_5 : decode c_F_add 5 = .ok (.laload, 1) := by decide +kernel
theorem d_F_add_6 : decode c_F_add 6 = .ok (.lload 4, 2) := by decide +kernel
theorem d_F_add_8 : decode c_F_add 8 = .ok (.invokestatic 28, 3) := by decide +kernel
theorem d_F_add_11 : decode c_F_add 11 = .ok (.lstore 6, 2) := by decide +kernel
theorem d_F_add_13 : decode c_F_add 13 = .ok (.aload_n 0, 1) := by decide +kernel
theorem d_F_add_14 : decode c_F_add 14 = .ok (.getfield 13, 3) := by decide +kernel
theorem d_F_add_17 : decode c_F_add 17 = .ok (.iload_n 1, 1) := by decide +kernel
theorem d_F_add_18 : decode c_F_add 18 = .ok (.laload, 1) := by decide +kernel
theorem d_F_add_19 : decode c_F_add 19 = .ok (.lload 6, 2) := by decide +kernel
theorem d_F_add_21 : decode c_F_add 21 = .ok (.ldiv, 1) := by decide +kernel
theorem d_F_add_22 : decode c_F_add 22 = .ok (.lstore 8, 2) := by decide +kernel
theorem d_F_add_24 : decode c_F_add 24 = .ok (.aload_n 0, 1) := by decide +kernel
theorem d_F_add_25 : decode c_F_add 25 = .ok (.iload_n 1, 1) := by decide +kernel
theorem d_F_add_26 : decode c_F_add 26 = .ok (.aload_n 0, 1) := by decide +kernel
theorem d_F_add_27 : decode c_F_add 27 = .ok (.getfield 7, 3) := by decide +kernel
theorem d_F_add_30 : decode c_F_add 30 = .ok (.iload_n 1, 1) := by decide +kernel
theorem d_F_add_31 : decode c_F_add 31 = .ok (.laload, 1) := by decide +kernel
theorem d_F_add_32 : decode c_F_add 32 = .ok (.lload 4, 2) := by decide +kernel
theorem d_F_add_34 : decode c_F_add 34 = .ok (.lload 6, 2) := by decide +kernel
theorem d_F_add_36 : decode c_F_add 36 = .ok (.ldiv, 1) := by decide +kernel
theorem d_F_add_37 : decode c_F_add 37 = .ok (.lmul, 1) := by decide +kernel
theorem d_F_add_38 : decode c_F_add 38 = .ok (.lload_n 2, 1) := by decide +kernel
theorem d_F_add_39 : decode c_F_add 39 = .ok (.lload 8, 2) := by decide +kernel
theorem d_F_add_41 : decode c_F_add 41 = .ok (.lmul, 1) := by decide +kernel
theorem d_F_add_42 : decode c_F_add 42 = .ok (.ladd, 1) := by decide +kernel
theorem d_F_add_43 : decode c_F_add 43 = .ok (.lload 4, 2) := by decide +kernel
theorem d_F_add_45 : decode c_F_add 45 = .ok (.lload 8, 2) := by decide +kernel
theorem d_F_add_47 : decode c_F_add 47 = .ok (.lmul, 1) := by decide +kernel
theorem d_F_add_48 : decode c_F_add 48 = .ok (.invokevirtual 34, 3) := by decide +kernel
theorem d_F_add_51 : decode c_F_add 51 = .ok (.return_, 1) := by decide +kernel
theorem d_F_multiply_0 : decode c_F_multiply 0 = .ok (.aload_n 0, 1) := by decide +kernel
theorem d_F_multiply_1 : decode c_F_multiply 1 = .ok (.iload_n 1, 1) := by decide +kernel
theorem d_F_multiply_2 : decode c_F_multiply 2 = .ok (.aload_n 0, 1) := by decide +kernel
theorem d_F_multiply_3 : decode c_F_multiply 3 = .ok (.getfield 7, 3) := by decide +kernel
theorem d_F_multiply_6 : decode c_F_multiply 6 = .ok (.iload_n 1, 1) := by decide +kernel
theorem d_F_multiply_7 : decode c_F_multiply 7 = .ok (.laload, 1) := by decide +kernel
theorem d_F_multiply_8 : decode c_F_multiply 8 = .ok (.lload_n 2, 1) := by decide +kernel
theorem d_F_multiply_9 : decode c_F_multiply 9 = .ok (.lmul, 1) := by decide +kernel
theorem d_F_multiply_10 : decode c_F_multiply 10 = .ok (.aload_n 0, 1) := by decide +kernel
theorem d_F_multiply_11 : decode c_F_multiply 11 = .ok (.getfield 13, 3) := by decide +kernel
theorem d_F_multiply_14 : decode c_F_multiply 14 = .ok (.iload_n 1, 1) := by decide +kernel
theorem d_F_multiply_15 : decode c_F_multiply 15 = .ok (.laload, 1) := by decide +kernel
theorem d_F_multiply_16 : decode c_F_multiply 16 = .ok (.lload 4, 2) := by decide +kernel
theorem d_F_multiply_18 : decode c_F_multiply 18 = .ok (.lmul, 1) := by decide +kernel
theorem d_F_multiply_19 : decode c_F_multiply 19 = .ok (.invokevirtual 34, 3) := by decide +kernel
theorem d_F_multiply_22 : decode c_F_multiply 22 = .ok (.return_, 1) := by decide +kernel
theorem d_F_compare_0 : decode c_F_compare 0 = .ok (.aload_n 0, 1) := by decide +kernel
theorem d_F_compare_1 : decode c_F_compare 1 = .ok (.getfield 13, 3) := by decide +kernel
theorem d_F_compare_4 : decode c_F_compare 4 = .ok (.iload_n 1, 1) := by decide +kernel
theorem d_F_compare_5 : decode c_F_compare 5 = .ok (.laload, 1) := by decide +kernel
theorem d_F_compare_6 : decode c_F_compare 6 = .ok (.lload 4, 2) := by decide +kernel
theorem d_F_compare_8 : decode c_F_compare 8 = .ok (.invokestatic 28, 3) := by decide +kernel
theorem d_F_compare_11 : decode c_F_compare 11 = .ok (.lstore 6, 2) := by decide +kernel
theorem d_F_compare_13 : decode c_F_compare 13 = .ok (.aload_n 0, 1) := by decide +kernel
theorem d_F_compare_14 : decode c_F_compare 14 = .ok (.getfield 7, 3) := by decide +kernel
theorem d_F_compare_17 : decode c_F_compare 17 = .ok (.iload_n 1, 1) := by decide +kernel
theorem d_F_compare_18 : decode c_F_compare 18 = .ok (.laload, 1) := by decide +kernel
theorem d_F_compare_19 : decode c_F_compare 19 = .ok (.lload 4, 2) := by decide +kernel
theorem d_F_compare_21 : decode c_F_compare 21 = .ok (.lload 6, 2) := by decide +kernel
theorem d_F_compare_23 : decode c_F_compare 23 = .ok (.ldiv, 1) := by decide +kernel
theorem d_F_compare_24 : decode c_F_compare 24 = .ok (.lmul, 1) := by decide +kernel
theorem d_F_compare_25 : decode c_F_compare 25 = .ok (.lload_n 2, 1) := by decide +kernel
theorem d_F_compare_26 : decode c_F_compare 26 = .ok (.aload_n 0, 1) := by decide +kernel
theorem d_F_compare_27 : decode c_F_compare 27 = .ok (.getfield 13, 3) := by decide +kernel
theorem d_F_compare_30 : decode c_F_compare 30 = .ok (.iload_n 1, 1) := by decide +kernel
theorem d_F_compare_31 : decode c_F_compare 31 = .ok (.laload, 1) := by decide +kernel
theorem d_F_compare_32 : decode c_F_compare 32 = .ok (.lload 6, 2) := by decide +kernel
theorem d_F_compare_34 : decode c_F_compare 34 = .ok (.ldiv, 1) := by decide +kernel
theorem d_F_compare_35 : decode c_F_compare 35 = .ok (.lmul, 1) := by decide +kernel
theorem d_F_compare_36 : decode c_F_compare 36 = .ok (.invokestatic 38, 3) := by decide +kernel
theorem d_F_compare_39 : decode c_F_compare 39 = .ok (.ireturn, 1) := by decide +kernel
theorem d_P_init_0 : decode c_P_init 0 = .ok (.aload_n 0, 1) := by decide +kernel
theorem d_P_init_1 : decode c_P_init 1 = .ok (.invokespecial 3, 3) := by decide +kernel
theorem d_P_init_4 : decode c_P_init 4 = .ok (.aload_n 0, 1) := by decide +kernel
theorem d_P_init_5 : decode c_P_init 5 = .ok (.bipush 50, 2) := by decide +kernel
theorem d_P_init_7 : decode c_P_init 7 = .ok (.newarray .long, 2) := by decide +kernel
theorem d_P_init_9 : decode c_P_init 9 = .ok (.putfield 9, 3) := by decide +kernel
theorem d_P_init_12 : decode c_P_init 12 = .ok (.aload_n 0, 1) := by decide +kernel
theorem d_P_init_13 : decode c_P_init 13 = .ok (.bipush 50, 2) := by decide +kernel
theorem d_P_init_15 : decode c_P_init 15 = .ok (.newarray .int, 2) := by decide +kernel
theorem d_P_init_17 : decode c_P_init 17 = .ok (.putfield 15, 3) := by decide +kernel
theorem d_P_init_20 : decode c_P_init 20 = .ok (.aload_n 0, 1) := by decide +kernel
theorem d_P_init_21 : decode c_P_init 21 = .ok (.bipush 50, 2) := by decide +kernel
theorem d_P_init_23 : decode c_P_init 23 = .ok (.newarray .int, 2) := by decide +kernel
theorem d_P_init_25 : decode c_P_init 25 = .ok (.putfield 19, 3) := by decide +kernel
theorem d_P_init_28 : decode c_P_init 28 = .ok (.aload_n 0, 1) := by decide +kernel
theorem d_P_init_29 : decode c_P_init 29 = .ok (.new 22, 3) := by decide +kernel
theorem d_P_init_32 : decode c_P_init 32 = .ok (.dup, 1) := by decide +kernel
theorem d_P_init_33 : decode c_P_init 33 = .ok (.bipush 50, 2) := by decide +kernel
theorem d_P_init_35 : decode c_P_init 35 = .ok (.invokespecial 24, 3) := by decide +kernel
theorem d_P_init_38 : decode c_P_init 38 = .ok (.putfield 27, 3) := by decide +kernel
theorem d_P_init_41 : decode c_P_init 41 = .ok (.return_, 1) := by decide +kernel
theorem d_P_clear_0 : decode c_P_clear 0 = .ok (.aload_n 0, 1) := by decide +kernel
theorem d_P_clear_1 : decode c_P_clear 1 = .ok (.iconst 0, 1) := by decide +kernel
theorem d_P_clear_2 : decode c_P_clear 2 = .ok (.putfield 31, 3) := by decide +kernel
theorem d_P_clear_5 : decode c_P_clear 5 = .ok (.aload_n 0, 1) := by decide +kernel
theorem d_P_clear_6 : decode c_P_clear 6 = .ok (.iconst 0, 1) := by decide +kernel
theorem d_P_clear_7 : decode c_P_clear 7 = .ok (.putfield 35, 3) := by decide +kernel
theorem d_P_clear_10 : decode c_P_clear 10 = .ok (.return_, 1) := by decide +kernel
theorem d_P_put_0 : decode c_P_put 0 = .ok (.aload_n 0, 1) := by decide +kernel
theorem d_P_put_1 : decode c_P_put 1 = .ok (.getfield 9, 3) := by decide +kernel
theorem d_P_put_4 : decode c_P_put 4 = .ok (.aload_n 0, 1) := by decide +kernel
theorem d_P_put_5 : decode c_P_put 5 = .ok (.getfield 31, 3) := by decide +kernel
theorem d_P_put_8 : decode c_P_put 8 = .ok (.lload_n 1, 1) := by decide +kernel
theorem d_P_put_9 : decode c_P_put 9 = .ok (.lastore, 1) := by decide +kernel
theorem d_P_put_10 : decode c_P_put 10 = .ok (.aload_n 0, 1) := by decide +kernel
theorem d_P_put_11 : decode c_P_put 11 = .ok (.getfield 15, 3) := by decide +kernel
theorem d_P_put_14 : decode c_P_put 14 = .ok (.aload_n 0, 1) := by decide +kernel
theorem d_P_put_15 : decode c_P_put 15 = .ok (.getfield 31, 3) := by decide +kernel
theorem d_P_put_18 : decode c_P_put 18 = .ok (.iload_n 3, 1) := by decide +kernel
theorem d_P_put_19 : decode c_P_put 19 = .ok (.iastore, 1) := by decide +kernel
theorem d_P_put_20 : decode c_P_put 20 = .ok (.aload_n 0, 1) := by decide +kernel
theorem d_P_put_21 : decode c_P_put 21 = .ok (.getfield 19, 3) := by decide +kernel
theorem d_P_put_24 : decode c_P_put 24 = .ok (.aload_n 0, 1) := by decide +kernel
theorem d_P_put_25 : decode c_P_put 25 = .ok (.getfield 31, 3) := by decide +kernel
theorem d_P_put_28 : decode c_P_put 28 = .ok (.iconst (-1), 1) := by decide +kernel
theorem d_P_put_29 : decode c_P_put 29 = .ok (.iastore, 1) := by decide +kernel
theorem d_P_put_30 : decode c_P_put 30 = .ok (.aload_n 0, 1) := by decide +kernel
theorem d_P_put_31 : decode c_P_put 31 = .ok (.getfield 27, 3) := by decide +kernel
theorem d_P_put_34 : decode c_P_put 34 = .ok (.aload_n 0, 1) := by decide +kernel
theorem d_P_put_35 : decode c_P_put 35 = .ok (.getfield 31, 3) := by decide +kernel
theorem d_P_put_38 : decode c_P_put 38 = .ok (.lconst 1, 1) := by decide +kernel
theorem d_P_put_39 : decode c_P_put 39 = .ok (.lconst 1, 1) := by decide +kernel
theorem d_P_put_40 : decode c_P_put 40 = .ok (.invokevirtual 38, 3) := by decide +kernel
theorem d_P_put_43 : decode c_P_put 43 = .ok (.aload_n 0, 1) := by decide +kernel
theorem d_P_put_44 : decode c_P_put 44 = .ok (.dup, 1) := by decide +kernel
theorem d_P_put_45 : decode c_P_put 45 = .ok (.getfield 31, 3) := by decide +kernel
theorem d_P_put_48 : decode c_P_put 48 = .ok (.iconst 1, 1) := by decide +kernel
theorem d_P_put_49 : decode c_P_put 49 = .ok (.iadd, 1) := by decide +kernel
theorem d_P_put_50 : decode c_P_put 50 = .ok (.putfield 31, 3) := by decide +kernel
theorem d_P_put_53 : decode c_P_put 53 = .ok (.aload_n 0, 1) := by decide +kernel
theorem d_P_put_54 : decode c_P_put 54 = .ok (.dup, 1) := by decide +kernel
theorem d_P_put_55 : decode c_P_put 55 = .ok (.getfield 35, 3) := by decide +kernel
theorem d_P_put_58 : decode c_P_put 58 = .ok (.iload_n 3, 1) := by decide +kernel
theorem d_P_put_59 : decode c_P_put 59 = .ok (.iadd, 1) := by decide +kernel
theorem d_P_put_60 : decode c_P_put 60 = .ok (.putfield 35, 3) := by decide +kernel
theorem d_P_put_63 : decode c_P_put 63 = .ok (.return_, 1) := by decide +kernel
theorem d_P_lyingWith_0 : decode c_P_lyingWith 0 = .ok (.iconst 0, 1) := by decide +kernel
theorem d_P_lyingWith_1 : decode c_P_lyingWith 1 = .ok (.istore_n 2, 1) := by decide +kernel
theorem d_P_lyingWith_2 : decode c_P_lyingWith 2 = .ok (.iconst 0, 1) := by decide +kernel
theorem d_P_lyingWith_3 : decode c_P_lyingWith 3 = .ok (.istore_n 3, 1) := by decide +kernel
theorem d_P_lyingWith_4 : decode c_P_lyingWith 4 = .ok (.iload_n 3, 1) := by decide +kernel
theorem d_P_lyingWith_5 : decode c_P_lyingWith 5 = .ok (.aload_n 0, 1) := by decide +kernel
theorem d_P_lyingWith_6 : decode c_P_lyingWith 6 = .ok (.getfield 31, 3) := by decide +kernel
theorem d_P_lyingWith_9 : decode c_P_lyingWith 9 = .ok (.if_icmp .ge 28, 3) := by decide +kernel
theorem d_P_lyingWith_12 : decode c_P_lyingWith 12 = .ok (.aload_n 0, 1) := by decide +kernel
theorem d_P_lyingWith_13 : decode c_P_lyingWith 13 = .ok (.getfield 19, 3) := by decide +kernel
theorem d_P_lyingWith_16 : decode c_P_lyingWith 16 = .ok (.iload_n 3, 1) := by decide +kernel
theorem d_P_lyingWith_17 : decode c_P_lyingWith 17 = .ok (.iaload, 1) := by decide +kernel
theorem d_P_lyingWith_18 : decode c_P_lyingWith 18 = .ok (.iload_n 1, 1) := by decide +kernel
theorem d_P_lyingWith_19 : decode c_P_lyingWith 19 = .ok (.if_icmp .ne 12, 3) := by decide +kernel
theorem d_P_lyingWith_22 : decode c_P_lyingWith 22 = .ok (.iload_n 2, 1) := by decide +kernel
theorem d_P_lyingWith_23 : decode c_P_lyingWith 23 = .ok (.aload_n 0, 1) := by decide +kernel
theorem d_P_lyingWith_24 : decode c_P_lyingWith 24 = .ok (.getfield 15, 3) := by decide +kernel
theorem d_P_lyingWith_27 : decode c_P_lyingWith 27 = .ok (.iload_n 3, 1) := by decide +kernel
theorem d_P_lyingWith_28 : decode c_P_lyingWith 28 = .ok (.iaload, 1) := by decide +kernel
theorem d_P_lyingWith_29 : decode c_P_lyingWith 29 = .ok (.iadd, 1) := by decide +kernel
theorem d_P_lyingWith_30 : decode c_P_lyingWith 30 = .ok (.istore_n 2, 1) := by decide +kernel
theorem d_P_lyingWith_31 : decode c_P_lyingWith 31 = .ok (.iinc 3 1, 3) := by decide +kernel
theorem d_P_lyingWith_34 : decode c_P_lyingWith 34 = .ok (.goto (-30), 3) := by decide +kernel
theorem d_P_lyingWith_37 : decode c_P_lyingWith 37 = .ok (.iload_n 2, 1) := by decide +kernel
theorem d_P_lyingWith_38 : decode c_P_lyingWith 38 = .ok (.ireturn, 1) := by decide +kernel
theorem d_R_init_0 : decode c_R_init 0 = .ok (.aload_n 0, 1) := by decide +kernel
theorem d_R_init_1 : decode c_R_init 1 = .ok (.invokespecial 3, 3) := by decide +kernel
theorem d_R_init_4 : decode c_R_init 4 = .ok (.aload_n 0, 1) := by decide +kernel
theorem d_R_init_5 : decode c_R_init 5 = .ok (.bipush 12, 2) := by decide +kernel
theorem d_R_init_7 : decode c_R_init 7 = .ok (.newarray .int, 2) := by decide +kernel
theorem d_R_init_9 : decode c_R_init 9 = .ok (.putfield 9, 3) := by decide +kernel
theorem d_R_init_12 : decode c_R_init 12 = .ok (.aload_n 0, 1) := by decide +kernel
theorem d_R_init_13 : decode c_R_init 13 = .ok (.bipush 12, 2) := by decide +kernel
theorem d_R_init_15 : decode c_R_init 15 = .ok (.newarray .int, 2) := by decide +kernel
theorem d_R_init_17 : decode c_R_init 17 = .ok (.putfield 15, 3) := by decide +kernel
theorem d_R_init_20 : decode c_R_init 20 = .ok (.return_, 1) := by decide +kernel
theorem d_R_clear_0 : decode c_R_clear 0 = .ok (.aload_n 0, 1) := by decide +kernel
theorem d_R_clear_1 : decode c_R_clear 1 = .ok (.iload_n 1, 1) := by decide +kernel
theorem d_R_clear_2 : decode c_R_clear 2 = .ok (.putfield 18, 3) := by decide +kernel
theorem d_R_clear_5 : decode c_R_clear 5 = .ok (.aload_n 0, 1) := by decide +kernel
theorem d_R_clear_6 : decode c_R_clear 6 = .ok (.iconst 0, 1) := by decide +kernel
theorem d_R_clear_7 : decode c_R_clear 7 = .ok (.putfield 22, 3) := by decide +kernel
theorem d_R_clear_10 : decode c_R_clear 10 = .ok (.aload_n 0, 1) := by decide +kernel
theorem d_R_clear_11 : decode c_R_clear 11 = .ok (.iconst 0, 1) := by decide +kernel
theorem d_R_clear_12 : decode c_R_clear 12 = .ok (.putfield 25, 3) := by decide +kernel
theorem d_R_clear_15 : decode c_R_clear 15 = .ok (.iconst 0, 1) := by decide +kernel
theorem d_R_clear_16 : decode c_R_clear 16 = .ok (.istore_n 2, 1) := by decide +kernel
theorem d_R_clear_17 : decode c_R_clear 17 = .ok (.iload_n 2, 1) := by decide +kernel
theorem d_R_clear_18 : decode c_R_clear 18 = .ok (.bipush 12, 2) := by decide +kernel
theorem d_R_clear_20 : decode c_R_clear 20 = .ok (.if_icmp .ge 23, 3) := by decide +kernel
theorem d_R_clear_23 : decode c_R_clear 23 = .ok (.aload_n 0, 1) := by decide +kernel
theorem d_R_clear_24 : decode c_R_clear 24 = .ok (.getfield 9, 3) := by decide +kernel
theorem d_R_clear_27 : decode c_R_clear 27 = .ok (.iload_n 2, 1) := by decide +kernel
theorem d_R_clear_28 : decode c_R_clear 28 = .ok (.iload_n 2, 1) := by decide +kernel
theorem d_R_clear_29 : decode c_R_clear 29 = .ok (.iastore, 1) := by decide +kernel
theorem d_R_clear_30 : decode c_R_clear 30 = .ok (.aload_n 0, 1) := by decide +kernel
theorem d_R_clear_31 : decode c_R_clear 31 = .ok (.getfield 15, 3) := by decide +kernel
theorem d_R_clear_34 : decode c_R_clear 34 = .ok (.iload_n 2, 1) := by decide +kernel
theorem d_R_clear_35 : decode c_R_clear 35 = .ok (.iconst 0, 1) := by decide +kernel
theorem d_R_clear_36 : decode c_R_clear 36 = .ok (.iastore, 1) := by decide +kernel
theorem d_R_clear_37 : decode c_R_clear 37 = .ok (.iinc 2 1, 3) := by decide +kernel
theorem d_R_clear_40 : decode c_R_clear 40 = .ok (.goto (-23), 3) := by decide +kernel
theorem d_R_clear_43 : decode c_R_clear 43 = .ok (.return_, 1) := by decide +kernel
theorem d_R_has_0 : decode c_R_has 0 = .ok (.iload_n 1, 1) := by decide +kernel
theorem d_R_has_1 : decode c_R_has 1 = .ok (.ifCond .lt 15, 3) := by decide +kernel
theorem d_R_has_4 : decode c_R_has 4 = .ok (.iload_n 1, 1) := by decide +kernel
theorem d_R_has_5 : decode c_R_has 5 = .ok (.aload_n 0, 1) := by decide +kernel
theorem d_R_has_6 : decode c_R_has 6 = .ok (.getfield 18, 3) := by decide +kernel
theorem d_R_has_9 : decode c_R_has 9 = .ok (.if_icmp .ge 7, 3) := by decide +kernel
theorem d_R_has_12 : decode c_R_has 12 = .ok (.iconst 1, 1) := by decide +kernel
theorem d_R_has_13 : decode c_R_has 13 = .ok (.goto 4, 3) := by decide +kernel
theorem d_R_has_16 : decode c_R_has 16 = .ok (.iconst 0, 1) := by decide +kernel
theorem d_R_has_17 : decode c_R_has 17 = .ok (.ireturn, 1) := by decide +kernel
theorem d_R_hasOrIsNobody_0 : decode c_R_hasOrIsNobody 0 = .ok (.iload_n 1, 1) := by decide +kernel
theorem d_R_hasOrIsNobody_1 : decode c_R_hasOrIsNobody 1 = .ok (.ifCond .lt 15, 3) := by decide +kernel
theorem d_R_hasOrIsNobody_4 : decode c_R_hasOrIsNobody 4 = .ok (.iload_n 1, 1) := by decide +kernel
theorem d_R_hasOrIsNobody_5 : decode c_R_hasOrIsNobody 5 = .ok (.aload_n 0, 1) := by decide +kernel
theorem d_R_hasOrIsNobody_6 : decode c_R_hasOrIsNobody 6 = .ok (.getfield 18, 3) := by decide +kernel
theorem d_R_hasOrIsNobody_9 : decode c_R_hasOrIsNobody 9 = .ok (.if_icmp .gt 7, 3) := by decide +kernel
theorem d_R_hasOrIsNobody_12 : decode c_R_hasOrIsNobody 12 = .ok (.iconst 1, 1) := by decide +kernel
theorem d_R_hasOrIsNobody_13 : decode c_R_hasOrIsNobody 13 = .ok (.goto 4, 3) := by decide +kernel
theorem d_R_hasOrIsNobody_16 : decode c_R_hasOrIsNobody 16 = .ok (.iconst 0, 1) := by decide +kernel
theorem d_R_hasOrIsNobody_17 : decode c_R_hasOrIsNobody 17 = .ok (.ireturn, 1) := by decide +kernel
theorem d_R_anotherHasDraw_0 : decode c_R_anotherHasDraw 0 = .ok (.iconst 0, 1) := by decide +kernel
theorem d_R_anotherHasDraw_1 : decode c_R_anotherHasDraw 1 = .ok (.istore_n 3, 1) := by decide +kernel
theorem d_R_anotherHasDraw_2 : decode c_R_anotherHasDraw 2 = .ok (.iload_n 3, 1) := by decide +kernel
theorem d_R_anotherHasDraw_3 : decode c_R_anotherHasDraw 3 = .ok (.aload_n 0, 1) := by decide +kernel
theorem d_R_anotherHasDraw_4 : decode c_R_anotherHasDraw 4 = .ok (.getfield 18, 3) := by decide +kernel
theorem d_R_anotherHasDraw_7 : decode c_R_anotherHasDraw 7 = .ok (.if_icmp .ge 26, 3) := by decide +kernel
theorem d_R_anotherHasDraw_10 : decode c_R_anotherHasDraw 10 = .ok (.iload_n 3, 1) := by decide +kernel
theorem d_R_anotherHasDraw_11 : decode c_R_anotherHasDraw 11 = .ok (.iload_n 1, 1) := by decide +kernel
theorem d_R_anotherHasDraw_12 : decode c_R_anotherHasDraw 12 = .ok (.if_icmp .eq 15, 3) := by decide +kernel
theorem d_R_anotherHasDraw_15 : decode c_R_anotherHasDraw 15 = .ok (.aload_n 0, 1) := by decide +kernel
theorem d_R_anotherHasDraw_16 : decode c_R_anotherHasDraw 16 = .ok (.getfield 9, 3) := by decide +kernel
theorem d_R_anotherHasDraw_19 : decode c_R_anotherHasDraw 19 = .ok (.iload_n 3, 1) := by decide +kernel
theorem d_R_anotherHasDraw_20 : decode c_R_anotherHasDraw 20 = .ok (.iaload, 1) := by decide +kernel
theorem d_R_anotherHasDraw_21 : decode c_R_anotherHasDraw 21 = .ok (.iload_n 2, 1) := by decide +kernel
theorem d_R_anotherHasDraw_22 : decode c_R_anotherHasDraw 22 = .ok (.if_icmp .ne 5, 3) := by decide +kernel
theorem d_R_anotherHasDraw_25 : decode c_R_anotherHasDraw 25 = .ok (.iconst 1, 1) := by decide +kernel
theorem d_R_anotherHasDraw_26 : decode c_R_anotherHasDraw 26 = .ok (.ireturn, 1) := by decide +kernel
theorem d_R_anotherHasDraw_27 : decode c_R_anotherHasDraw 27 = .ok (.iinc 3 1, 3) := by decide +kernel
theorem d_R_anotherHasDraw_30 : decode c_R_anotherHasDraw 30 = .ok (.goto (-28), 3) := by decide +kernel
theorem d_R_anotherHasDraw_33 : decode c_R_anotherHasDraw 33 = .ok (.iconst 0, 1) := by decide +kernel
theorem d_R_anotherHasDraw_34 : decode c_R_anotherHasDraw 34 = .ok (.ireturn, 1) := by decide +kernel
theorem d_R_isContinuing_0 : decode c_R_isContinuing 0 = .ok (.aload_n 0, 1) := by decide +kernel
theorem d_R_isContinuing_1 : decode c_R_isContinuing 1 = .ok (.getfield 15, 3) := by decide +kernel
theorem d_R_isContinuing_4 : decode c_R_isContinuing 4 = .ok (.iload_n 1, 1) := by decide +kernel
theorem d_R_isContinuing_5 : decode c_R_isContinuing 5 = .ok (.iaload, 1) := by decide +kernel
theorem d_R_isContinuing_6 : decode c_R_isContinuing 6 = .ok (.ifCond .ne 7, 3) := by decide +kernel
theorem d_R_isContinuing_9 : decode c_R_isContinuing 9 = .ok (.iconst 1, 1) := by decide +kernel
theorem d_R_isContinuing_10 : decode c_R_isContinuing 10 = .ok (.goto 4, 3) := by decide +kernel
theorem d_R_isContinuing_13 : decode c_R_isContinuing 13 = .ok (.iconst 0, 1) := by decide +kernel
theorem d_R_isContinuing_14 : decode c_R_isContinuing 14 = .ok (.ireturn, 1) := by decide +kernel
theorem d_R_isElected_0 : decode c_R_isElected 0 = .ok (.aload_n 0, 1) := by decide +kernel
theorem d_R_isElected_1 : decode c_R_isElected 1 = .ok (.getfield 15, 3) := by decide +kernel
theorem d_R_isElected_4 : decode c_R_isElected 4 = .ok (.iload_n 1, 1) := by decide +kernel
theorem d_R_isElected_5 : decode c_R_isElected 5 = .ok (.iaload, 1) := by decide +kernel
theorem d_R_isElected_6 : decode c_R_isElected 6 = .ok (.ifCond .le 7, 3) := by decide +kernel
theorem d_R_isElected_9 : decode c_R_isElected 9 = .ok (.iconst 1, 1) := by decide +kernel
theorem d_R_isElected_10 : decode c_R_isElected 10 = .ok (.goto 4, 3) := by decide +kernel
theorem d_R_isElected_13 : decode c_R_isElected 13 = .ok (.iconst 0, 1) := by decide +kernel
theorem d_R_isElected_14 : decode c_R_isElected 14 = .ok (.ireturn, 1) := by decide +kernel
theorem d_R_continuing_0 : decode c_R_continuing 0 = .ok (.aload_n 0, 1) := by decide +kernel
theorem d_R_continuing_1 : decode c_R_continuing 1 = .ok (.getfield 18, 3) := by decide +kernel
theorem d_R_continuing_4 : decode c_R_continuing 4 = .ok (.aload_n 0, 1) := by decide +kernel
theorem d_R_continuing_5 : decode c_R_continuing 5 = .ok (.getfield 22, 3) := by decide +kernel
theorem d_R_continuing_8 : decode c_R_continuing 8 = .ok (.isub, 1) := by decide +kernel
theorem d_R_continuing_9 : decode c_R_continuing 9 = .ok (.aload_n 0, 1) := by decide +kernel
theorem d_R_continuing_10 : decode c_R_continuing 10 = .ok (.getfield 25, 3) := by decide +kernel
theorem d_R_continuing_13 : decode c_R_continuing 13 = .ok (.isub, 1) := by decide +kernel
theorem d_R_continuing_14 : decode c_R_continuing 14 = .ok (.ireturn, 1) := by decide +kernel
theorem d_R_elect_0 : decode c_R_elect 0 = .ok (.aload_n 0, 1) := by decide +kernel
theorem d_R_elect_1 : decode c_R_elect 1 = .ok (.dup, 1) := by decide +kernel
theorem d_R_elect_2 : decode c_R_elect 2 = .ok (.getfield 22, 3) := by decide +kernel
theorem d_R_elect_5 : decode c_R_elect 5 = .ok (.iconst 1, 1) := by decide +kernel
theorem d_R_elect_6 : decode c_R_elect 6 = .ok (.iadd, 1) := by decide +kernel
theorem d_R_elect_7 : decode c_R_elect 7 = .ok (.putfield 22, 3) := by decide +kernel
theorem d_R_elect_10 : decode c_R_elect 10 = .ok (.aload_n 0, 1) := by decide +kernel
theorem d_R_elect_11 : decode c_R_elect 11 = .ok (.getfield 15, 3) := by decide +kernel
theorem d_R_elect_14 : decode c_R_elect 14 = .ok (.iload_n 1, 1) := by decide +kernel
theorem d_R_elect_15 : decode c_R_elect 15 = .ok (.aload_n 0, 1) := by decide +kernel
theorem d_R_elect_16 : decode c_R_elect 16 = .ok (.getfield 22, 3) := by decide +kernel
theorem d_R_elect_19 : decode c_R_elect 19 = .ok (.iastore, 1) := by decide +kernel
theorem d_R_elect_20 : decode c_R_elect 20 = .ok (.return_, 1) := by decide +kernel
theorem d_R_exclude_0 : decode c_R_exclude 0 = .ok (.aload_n 0, 1) := by decide +kernel
theorem d_R_exclude_1 : decode c_R_exclude 1 = .ok (.dup, 1) := by decide +kernel
theorem d_R_exclude_2 : decode c_R_exclude 2 = .ok (.getfield 25, 3) := by decide +kernel
theorem d_R_exclude_5 : decode c_R_exclude 5 = .ok (.iconst 1, 1) := by decide +kernel
theorem d_R_exclude_6 : decode c_R_exclude 6 = .ok (.iadd, 1) := by decide +kernel
theorem d_R_exclude_7 : decode c_R_exclude 7 = .ok (.putfield 25, 3) := by decide +kernel
theorem d_R_exclude_10 : decode c_R_exclude 10 = .ok (.aload_n 0, 1) := by decide +kernel
theorem d_R_exclude_11 : decode c_R_exclude 11 = .ok (.getfield 15, 3) := by decide +kernel
theorem d_R_exclude_14 : decode c_R_exclude 14 = .ok (.iload_n 1, 1) := by decide +kernel
theorem d_R_exclude_15 : decode c_R_exclude 15 = .ok (.aload_n 0, 1) := by decide +kernel
theorem d_R_exclude_16 : decode c_R_exclude 16 = .ok (.getfield 25, 3) := by decide +kernel
theorem d_R_exclude_19 : decode c_R_exclude 19 = .ok (.ineg, 1) := by decide +kernel
theorem d_R_exclude_20 : decode c_R_exclude 20 = .ok (.iastore, 1) := by decide +kernel
theorem d_R_exclude_21 : decode c_R_exclude 21 = .ok (.return_, 1) := by decide +kernel
theorem d_S_init_0 : decode c_S_init 0 = .ok (.aload_n 0, 1) := by decide +kernel
theorem d_S_init_1 : decode c_S_init 1 = .ok (.invokespecial 3, 3) := by decide +kernel
theorem d_S_init_4 : decode c_S_init 4 = .ok (.aload_n 0, 1) := by decide +kernel
theorem d_S_init_5 : decode c_S_init 5 = .ok (.new 9, 3) := by decide +kernel
theorem d_S_init_8 : decode c_S_init 8 = .ok (.dup, 1) := by decide +kernel
theorem d_S_init_9 : decode c_S_init 9 = .ok (.bipush 13, 2) := by decide +kernel
theorem d_S_init_11 : decode c_S_init 11 = .ok (.invokespecial 11, 3) := by decide +kernel
theorem d_S_init_14 : decode c_S_init 14 = .ok (.putfield 14, 3) := by decide +kernel
theorem d_S_init_17 : decode c_S_init 17 = .ok (.aload_n 0, 1) := by decide +kernel
theorem d_S_init_18 : decode c_S_init 18 = .ok (.bipush 13, 2) := by decide +kernel
theorem d_S_init_20 : decode c_S_init 20 = .ok (.newarray .int, 2) := by decide +kernel
theorem d_S_init_22 : decode c_S_init 22 = .ok (.putfield 20, 3) := by decide +kernel
theorem d_S_init_25 : decode c_S_init 25 = .ok (.return_, 1) := by decide +kernel
theorem d_S_clear_0 : decode c_S_clear 0 = .ok (.aload_n 0, 1) := by decide +kernel
theorem d_S_clear_1 : decode c_S_clear 1 = .ok (.getfield 14, 3) := by decide +kernel
theorem d_S_clear_4 : decode c_S_clear 4 = .ok (.invokevirtual 24, 3) := by decide +kernel
theorem d_S_clear_7 : decode c_S_clear 7 = .ok (.aload_n 0, 1) := by decide +kernel
theorem d_S_clear_8 : decode c_S_clear 8 = .ok (.getfield 20, 3) := by decide +kernel
theorem d_S_clear_11 : decode c_S_clear 11 = .ok (.iconst 0, 1) := by decide +kernel
theorem d_S_clear_12 : decode c_S_clear 12 = .ok (.invokestatic 27, 3) := by decide +kernel
theorem d_S_clear_15 : decode c_S_clear 15 = .ok (.return_, 1) := by decide +kernel
theorem d_S_followOn_0 : decode c_S_followOn 0 = .ok (.aload_n 0, 1) := by decide +kernel
theorem d_S_followOn_1 : decode c_S_followOn 1 = .ok (.getfield 14, 3) := by decide +kernel
theorem d_S_followOn_4 : decode c_S_followOn 4 = .ok (.aload_n 1, 1) := by decide +kernel
theorem d_S_followOn_5 : decode c_S_followOn 5 = .ok (.getfield 14, 3) := by decide +kernel
theorem d_S_followOn_8 : decode c_S_followOn 8 = .ok (.invokevirtual 33, 3) := by decide +kernel
theorem d_S_followOn_11 : decode c_S_followOn 11 = .ok (.aload_n 0, 1) := by decide +kernel
theorem d_S_followOn_12 : decode c_S_followOn 12 = .ok (.getfield 20, 3) := by decide +kernel
theorem d_S_followOn_15 : decode c_S_followOn 15 = .ok (.iconst 0, 1) := by decide +kernel
theorem d_S_followOn_16 : decode c_S_followOn 16 = .ok (.invokestatic 27, 3) := by decide +kernel
theorem d_S_followOn_19 : decode c_S_followOn 19 = .ok (.return_, 1) := by decide +kernel
theorem d_G_compare_0 : decode c_G_compare 0 = .ok (.lload_n 0, 1) := by decide +kernel
theorem d_G_compare_1 : decode c_G_compare 1 = .ok (.lload_n 2, 1) := by decide +kernel
theorem d_G_compare_2 : decode c_G_compare 2 = .ok (.lcmp, 1) := by decide +kernel
theorem d_G_compare_3 : decode c_G_compare 3 = .ok (.ifCond .ge 7, 3) := by decide +kernel
theorem d_G_compare_6 : decode c_G_compare 6 = .ok (.iconst (-1), 1) := by decide +kernel
theorem d_G_compare_7 : decode c_G_compare 7 = .ok (.goto 14, 3) := by decide +kernel
theorem d_G_compare_10 : decode c_G_compare 10 = .ok (.lload_n 0, 1) := by decide +kernel
theorem d_G_compare_11 : decode c_G_compare 11 = .ok (.lload_n 2, 1) := by decide +kernel
theorem d_G_compare_12 : decode c_G_compare 12 = .ok (.lcmp, 1) := by decide +kernel
theorem d_G_compare_13 : decode c_G_compare 13 = .ok (.ifCond .ne 7, 3) := by decide +kernel
theorem d_G_compare_16 : decode c_G_compare 16 = .ok (.iconst 0, 1) := by decide +kernel
theorem d_G_compare_17 : decode c_G_compare 17 = .ok (.goto 4, 3) := by decide +kernel
theorem d_G_compare_20 : decode c_G_compare 20 = .ok (.iconst 1, 1) := by decide +kernel
theorem d_G_compare_21 : decode c_G_compare 21 = .ok (.ireturn, 1) := by decide +kernel
theorem d_A_fillI_0 : decode c_A_fillI 0 = .ok (.iconst 0, 1) := by decide +kernel
theorem d_A_fillI_1 : decode c_A_fillI 1 = .ok (.istore_n 2, 1) := by decide +kernel
theorem d_A_fillI_2 : decode c_A_fillI 2 = .ok (.aload_n 0, 1) := by decide +kernel
theorem d_A_fillI_3 : decode c_A_fillI 3 = .ok (.arraylength, 1) := by decide +kernel
theorem d_A_fillI_4 : decode c_A_fillI 4 = .ok (.istore_n 3, 1) := by decide +kernel
theorem d_A_fillI_5 : decode c_A_fillI 5 = .ok (.iload_n 2, 1) := by decide +kernel
theorem d_A_fillI_6 : decode c_A_fillI 6 = .ok (.iload_n 3, 1) := by decide +kernel
theorem d_A_fillI_7 : decode c_A_fillI 7 = .ok (.if_icmp .ge 13, 3) := by decide +kernel
theorem d_A_fillI_10 : decode c_A_fillI 10 = .ok (.aload_n 0, 1) := by decide +kernel
theorem d_A_fillI_11 : decode c_A_fillI 11 = .ok (.iload_n 2, 1) := by decide +kernel
theorem d_A_fillI_12 : decode c_A_fillI 12 = .ok (.iload_n 1, 1) := by decide +kernel
theorem d_A_fillI_13 : decode c_A_fillI 13 = .ok (.iastore, 1) := by decide +kernel
theorem d_A_fillI_14 : decode c_A_fillI 14 = .ok (.iinc 2 1, 3) := by decide +kernel
theorem d_A_fillI_17 : decode c_A_fillI 17 = .ok (.goto (-12), 3) := by decide +kernel
theorem d_A_fillI_20 : decode c_A_fillI 20 = .ok (.return_, 1) := by decide +kernel
theorem d_A_fillJ_0 : decode c_A_fillJ 0 = .ok (.iconst 0, 1) := by decide +kernel
theorem d_A_fillJ_1 : decode c_A_fillJ 1 = .ok (.istore_n 3, 1) := by decide +kernel
theorem d_A_fillJ_2 : decode c_A_fillJ 2 = .ok (.aload_n 0, 1) := by decide +kernel
theorem d_A_fillJ_3 : decode c_A_fillJ 3 = .ok (.arraylength, 1) := by decide +kernel
theorem d_A_fillJ_4 : decode c_A_fillJ 4 = .ok (.istore 4, 2) := by decide +kernel
theorem d_A_fillJ_6 : decode c_A_fillJ 6 = .ok (.iload_n 3, 1) := by decide +kernel
theorem d_A_fillJ_7 : decode c_A_fillJ 7 = .ok (.iload 4, 2) := by decide +kernel
theorem d_A_fillJ_9 : decode c_A_fillJ 9 = .ok (.if_icmp .ge 13, 3) := by decide +kernel
theorem d_A_fillJ_12 : decode c_A_fillJ 12 = .ok (.aload_n 0, 1) := by decide +kernel
theorem d_A_fillJ_13 : decode c_A_fillJ 13 = .ok (.iload_n 3, 1) := by decide +kernel
theorem d_A_fillJ_14 : decode c_A_fillJ 14 = .ok (.lload_n 1, 1) := by decide +kernel
theorem d_A_fillJ_15 : decode c_A_fillJ 15 = .ok (.lastore, 1) := by decide +kernel
theorem d_A_fillJ_16 : decode c_A_fillJ 16 = .ok (.iinc 3 1, 3) := by decide +kernel
theorem d_A_fillJ_19 : decode c_A_fillJ 19 = .ok (.goto (-13), 3) := by decide +kernel
theorem d_A_fillJ_22 : decode c_A_fillJ 22 = .ok (.return_, 1) := by decide +kernel
