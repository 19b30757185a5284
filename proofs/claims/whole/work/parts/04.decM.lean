theorem d_M_init_0 : decode c_M_init 0 = .ok (.aload_n 0, 1) := by decide +kernel
theorem d_M_init_1 : decode c_M_init 1 = .ok (.invokespecial 1, 3) := by decide +kernel
theorem d_M_init_4 : decode c_M_init 4 = .ok (.aload_n 0, 1) := by decide +kernel
theorem d_M_init_5 : decode c_M_init 5 = .ok (.iconst 2, 1) := by decide +kernel
theorem d_M_init_6 : decode c_M_init 6 = .ok (.putfield 7, 3) := by decide +kernel
theorem d_M_init_9 : decode c_M_init 9 = .ok (.aload_n 0, 1) := by decide +kernel
theorem d_M_init_10 : decode c_M_init 10 = .ok (.iconst 1, 1) := by decide +kernel
theorem d_M_init_11 : decode c_M_init 11 = .ok (.putfield 13, 3) := by decide +kernel
theorem d_M_init_14 : decode c_M_init 14 = .ok (.aload_n 0, 1) := by decide +kernel
theorem d_M_init_15 : decode c_M_init 15 = .ok (.bipush 12, 2) := by decide +kernel
theorem d_M_init_17 : decode c_M_init 17 = .ok (.newarray .int, 2) := by decide +kernel
theorem d_M_init_19 : decode c_M_init 19 = .ok (.putfield 16, 3) := by decide +kernel
theorem d_M_init_22 : decode c_M_init 22 = .ok (.aload_n 0, 1) := by decide +kernel
theorem d_M_init_23 : decode c_M_init 23 = .ok (.bipush 12, 2) := by decide +kernel
theorem d_M_init_25 : decode c_M_init 25 = .ok (.newarray .int, 2) := by decide +kernel
theorem d_M_init_27 : decode c_M_init 27 = .ok (.putfield 20, 3) := by decide +kernel
theorem d_M_init_30 : decode c_M_init 30 = .ok (.aload_n 0, 1) := by decide +kernel
theorem d_M_init_31 : decode c_M_init 31 = .ok (.sipush 350, 3) := by decide +kernel
theorem d_M_init_34 : decode c_M_init 34 = .ok (.newarray .int, 2) := by decide +kernel
theorem d_M_init_36 : decode c_M_init 36 = .ok (.putfield 23, 3) := by decide +kernel
theorem d_M_init_39 : decode c_M_init 39 = .ok (.aload_n 0, 1) := by decide +kernel
theorem d_M_init_40 : decode c_M_init 40 = .ok (.bipush 50, 2) := by decide +kernel
theorem d_M_init_42 : decode c_M_init 42 = .ok (.newarray .int, 2) := by decide +kernel
theorem d_M_init_44 : decode c_M_init 44 = .ok (.putfield 26, 3) := by decide +kernel
theorem d_M_init_47 : decode c_M_init 47 = .ok (.aload_n 0, 1) := by decide +kernel
theorem d_M_init_48 : decode c_M_init 48 = .ok (.bipush 50, 2) := by decide +kernel
theorem d_M_init_50 : decode c_M_init 50 = .ok (.newarray .int, 2) := by decide +kernel
theorem d_M_init_52 : decode c_M_init 52 = .ok (.putfield 29, 3) := by decide +kernel
theorem d_M_init_55 : decode c_M_init 55 = .ok (.aload_n 0, 1) := by decide +kernel
theorem d_M_init_56 : decode c_M_init 56 = .ok (.bipush 50, 2) := by decide +kernel
theorem d_M_init_58 : decode c_M_init 58 = .ok (.newarray .int, 2) := by decide +kernel
theorem d_M_init_60 : decode c_M_init 60 = .ok (.putfield 32, 3) := by decide +kernel
theorem d_M_init_63 : decode c_M_init 63 = .ok (.aload_n 0, 1) := by decide +kernel
theorem d_M_init_64 : decode c_M_init 64 = .ok (.bipush 50, 2) := by decide +kernel
theorem d_M_init_66 : decode c_M_init 66 = .ok (.newarray .long, 2) := by decide +kernel
theorem d_M_init_68 : decode c_M_init 68 = .ok (.putfield 35, 3) := by decide +kernel
theorem d_M_init_71 : decode c_M_init 71 = .ok (.aload_n 0, 1) := by decide +kernel
theorem d_M_init_72 : decode c_M_init 72 = .ok (.bipush 12, 2) := by decide +kernel
theorem d_M_init_74 : decode c_M_init 74 = .ok (.newarray .boolean, 2) := by decide +kernel
theorem d_M_init_76 : decode c_M_init 76 = .ok (.putfield 39, 3) := by decide +kernel
theorem d_M_init_79 : decode c_M_init 79 = .ok (.aload_n 0, 1) := by decide +kernel
theorem d_M_init_80 : decode c_M_init 80 = .ok (.lconst 1, 1) := by decide +kernel
theorem d_M_init_81 : decode c_M_init 81 = .ok (.putfield 43, 3) := by decide +kernel
theorem d_M_init_84 : decode c_M_init 84 = .ok (.aload_n 0, 1) := by decide +kernel
theorem d_M_init_85 : decode c_M_init 85 = .ok (.iconst (-1), 1) := by decide +kernel
theorem d_M_init_86 : decode c_M_init 86 = .ok (.putfield 47, 3) := by decide +kernel
theorem d_M_init_89 : decode c_M_init 89 = .ok (.aload_n 0, 1) := by decide +kernel
theorem d_M_init_90 : decode c_M_init 90 = .ok (.sipush 260, 3) := by decide +kernel
theorem d_M_init_93 : decode c_M_init 93 = .ok (.newarray .long, 2) := by decide +kernel
theorem d_M_init_95 : decode c_M_init 95 = .ok (.putfield 50, 3) := by decide +kernel
theorem d_M_init_98 : decode c_M_init 98 = .ok (.aload_n 0, 1) := by decide +kernel
theorem d_M_init_99 : decode c_M_init 99 = .ok (.bipush 20, 2) := by decide +kernel
theorem d_M_init_101 : decode c_M_init 101 = .ok (.newarray .long, 2) := by decide +kernel
theorem d_M_init_103 : decode c_M_init 103 = .ok (.putfield 53, 3) := by decide +kernel
theorem d_M_init_106 : decode c_M_init 106 = .ok (.aload_n 0, 1) := by decide +kernel
theorem d_M_init_107 : decode c_M_init 107 = .ok (.sipush 260, 3) := by decide +kernel
theorem d_M_init_110 : decode c_M_init 110 = .ok (.newarray .int, 2) := by decide +kernel
theorem d_M_init_112 : decode c_M_init 112 = .ok (.putfield 56, 3) := by decide +kernel
theorem d_M_init_115 : decode c_M_init 115 = .ok (.aload_n 0, 1) := by decide +kernel
theorem d_M_init_116 : decode c_M_init 116 = .ok (.iconst 2, 1) := by decide +kernel
theorem d_M_init_117 : decode c_M_init 117 = .ok (.iconst 1, 1) := by decide +kernel
theorem d_M_init_118 : decode c_M_init 118 = .ok (.invokevirtual 59, 3) := by decide +kernel
theorem d_M_init_121 : decode c_M_init 121 = .ok (.return_, 1) := by decide +kernel
theorem d_M_thrown_0 : decode c_M_thrown 0 = .ok (.aload_n 0, 1) := by decide +kernel
theorem d_M_thrown_1 : decode c_M_thrown 1 = .ok (.getfield 63, 3) := by decide +kernel
theorem d_M_thrown_4 : decode c_M_thrown 4 = .ok (.ireturn, 1) := by decide +kernel
theorem d_M_clear_0 : decode c_M_clear 0 = .ok (.aload_n 0, 1) := by decide +kernel
theorem d_M_clear_1 : decode c_M_clear 1 = .ok (.iload_n 1, 1) := by decide +kernel
theorem d_M_clear_2 : decode c_M_clear 2 = .ok (.putfield 7, 3) := by decide +kernel
theorem d_M_clear_5 : decode c_M_clear 5 = .ok (.aload_n 0, 1) := by decide +kernel
theorem d_M_clear_6 : decode c_M_clear 6 = .ok (.iload_n 2, 1) := by decide +kernel
theorem d_M_clear_7 : decode c_M_clear 7 = .ok (.putfield 13, 3) := by decide +kernel
theorem d_M_clear_10 : decode c_M_clear 10 = .ok (.iconst 0, 1) := by decide +kernel
theorem d_M_clear_11 : decode c_M_clear 11 = .ok (.istore_n 3, 1) := by decide +kernel
theorem d_M_clear_12 : decode c_M_clear 12 = .ok (.iload_n 3, 1) := by decide +kernel
theorem d_M_clear_13 : decode c_M_clear 13 = .ok (.bipush 12, 2) := by decide +kernel
theorem d_M_clear_15 : decode c_M_clear 15 = .ok (.if_icmp .ge 30, 3) := by decide +kernel
theorem d_M_clear_18 : decode c_M_clear 18 = .ok (.aload_n 0, 1) := by decide +kernel
theorem d_M_clear_19 : decode c_M_clear 19 = .ok (.getfield 16, 3) := by decide +kernel
theorem d_M_clear_22 : decode c_M_clear 22 = .ok (.iload_n 3, 1) := by decide +kernel
theorem d_M_clear_23 : decode c_M_clear 23 = .ok (.iload_n 3, 1) := by decide +kernel
theorem d_M_clear_24 : decode c_M_clear 24 = .ok (.iastore, 1) := by decide +kernel
theorem d_M_clear_25 : decode c_M_clear 25 = .ok (.aload_n 0, 1) := by decide +kernel
theorem d_M_clear_26 : decode c_M_clear 26 = .ok (.getfield 20, 3) := by decide +kernel
theorem d_M_clear_29 : decode c_M_clear 29 = .ok (.iload_n 3, 1) := by decide +kernel
theorem d_M_clear_30 : decode c_M_clear 30 = .ok (.iconst 0, 1) := by decide +kernel
theorem d_M_clear_31 : decode c_M_clear 31 = .ok (.iastore, 1) := by decide +kernel
theorem d_M_clear_32 : decode c_M_clear 32 = .ok (.aload_n 0, 1) := by decide +kernel
theorem d_M_clear_33 : decode c_M_clear 33 = .ok (.getfield 39, 3) := by decide +kernel
theorem d_M_clear_36 : decode c_M_clear 36 = .ok (.iload_n 3, 1) := by decide +kernel
theorem d_M_clear_37 : decode c_M_clear 37 = .ok (.iconst 0, 1) := by decide +kernel
theorem d_M_clear_38 : decode c_M_clear 38 = .ok (.bastore, 1) := by decide +kernel
theorem d_M_clear_39 : decode c_M_clear 39 = .ok (.iinc 3 1, 3) := by decide +kernel
theorem d_M_clear_42 : decode c_M_clear 42 = .ok (.goto (-30), 3) := by decide +kernel
theorem d_M_clear_45 : decode c_M_clear 45 = .ok (.aload_n 0, 1) := by decide +kernel
theorem d_M_clear_46 : decode c_M_clear 46 = .ok (.iconst 0, 1) := by decide +kernel
theorem d_M_clear_47 : decode c_M_clear 47 = .ok (.putfield 66, 3) := by decide +kernel
theorem d_M_clear_50 : decode c_M_clear 50 = .ok (.aload_n 0, 1) := by decide +kernel
theorem d_M_clear_51 : decode c_M_clear 51 = .ok (.iconst 0, 1) := by decide +kernel
theorem d_M_clear_52 : decode c_M_clear 52 = .ok (.putfield 69, 3) := by decide +kernel
theorem d_M_clear_55 : decode c_M_clear 55 = .ok (.aload_n 0, 1) := by decide +kernel
theorem d_M_clear_56 : decode c_M_clear 56 = .ok (.iconst 0, 1) := by decide +kernel
theorem d_M_clear_57 : decode c_M_clear 57 = .ok (.putfield 72, 3) := by decide +kernel
theorem d_M_clear_60 : decode c_M_clear 60 = .ok (.aload_n 0, 1) := by decide +kernel
theorem d_M_clear_61 : decode c_M_clear 61 = .ok (.iconst (-1), 1) := by decide +kernel
theorem d_M_clear_62 : decode c_M_clear 62 = .ok (.putfield 47, 3) := by decide +kernel
theorem d_M_clear_65 : decode c_M_clear 65 = .ok (.aload_n 0, 1) := by decide +kernel
theorem d_M_clear_66 : decode c_M_clear 66 = .ok (.iconst 0, 1) := by decide +kernel
theorem d_M_clear_67 : decode c_M_clear 67 = .ok (.putfield 75, 3) := by decide +kernel
theorem d_M_clear_70 : decode c_M_clear 70 = .ok (.return_, 1) := by decide +kernel
theorem d_M_says_0 : decode c_M_says 0 = .ok (.aload_n 0, 1) := by decide +kernel
theorem d_M_says_1 : decode c_M_says 1 = .ok (.iload_n 1, 1) := by decide +kernel
theorem d_M_says_2 : decode c_M_says 2 = .ok (.putfield 63, 3) := by decide +kernel
theorem d_M_says_5 : decode c_M_says 5 = .ok (.iload_n 1, 1) := by decide +kernel
theorem d_M_says_6 : decode c_M_says 6 = .ok (.ifCond .ne 7, 3) := by decide +kernel
theorem d_M_says_9 : decode c_M_says 9 = .ok (.iconst 1, 1) := by decide +kernel
theorem d_M_says_10 : decode c_M_says 10 = .ok (.goto 4, 3) := by decide +kernel
theorem d_M_says_13 : decode c_M_says 13 = .ok (.iconst 0, 1) := by decide +kernel
theorem d_M_says_14 : decode c_M_says 14 = .ok (.ireturn, 1) := by decide +kernel
theorem d_M_isCandidate_0 : decode c_M_isCandidate 0 = .ok (.iload_n 1, 1) := by decide +kernel
theorem d_M_isCandidate_1 : decode c_M_isCandidate 1 = .ok (.ifCond .lt 15, 3) := by decide +kernel
theorem d_M_isCandidate_4 : decode c_M_isCandidate 4 = .ok (.iload_n 1, 1) := by decide +kernel
theorem d_M_isCandidate_5 : decode c_M_isCandidate 5 = .ok (.aload_n 0, 1) := by decide +kernel
theorem d_M_isCandidate_6 : decode c_M_isCandidate 6 = .ok (.getfield 7, 3) := by decide +kernel
theorem d_M_isCandidate_9 : decode c_M_isCandidate 9 = .ok (.if_icmp .ge 7, 3) := by decide +kernel
theorem d_M_isCandidate_12 : decode c_M_isCandidate 12 = .ok (.iconst 1, 1) := by decide +kernel
theorem d_M_isCandidate_13 : decode c_M_isCandidate 13 = .ok (.goto 4, 3) := by decide +kernel
theorem d_M_isCandidate_16 : decode c_M_isCandidate 16 = .ok (.iconst 0, 1) := by decide +kernel
theorem d_M_isCandidate_17 : decode c_M_isCandidate 17 = .ok (.ireturn, 1) := by decide +kernel
theorem d_M_begin_0 : decode c_M_begin 0 = .ok (.aload_n 0, 1) := by decide +kernel
theorem d_M_begin_1 : decode c_M_begin 1 = .ok (.iload_n 1, 1) := by decide +kernel
theorem d_M_begin_2 : decode c_M_begin 2 = .ok (.iconst 2, 1) := by decide +kernel
theorem d_M_begin_3 : decode c_M_begin 3 = .ok (.if_icmp .lt 28, 3) := by decide +kernel
theorem d_M_begin_6 : decode c_M_begin 6 = .ok (.iload_n 1, 1) := by decide +kernel
theorem d_M_begin_7 : decode c_M_begin 7 = .ok (.bipush 12, 2) := by decide +kernel
theorem d_M_begin_9 : decode c_M_begin 9 = .ok (.if_icmp .gt 22, 3) := by decide +kernel
theorem d_M_begin_12 : decode c_M_begin 12 = .ok (.iload_n 2, 1) := by decide +kernel
theorem d_M_begin_13 : decode c_M_begin 13 = .ok (.iconst 1, 1) := by decide +kernel
theorem d_M_begin_14 : decode c_M_begin 14 = .ok (.if_icmp .lt 17, 3) := by decide +kernel
theorem d_M_begin_17 : decode c_M_begin 17 = .ok (.iload_n 2, 1) := by decide +kernel
theorem d_M_begin_18 : decode c_M_begin 18 = .ok (.iconst 4, 1) := by decide +kernel
theorem d_M_begin_19 : decode c_M_begin 19 = .ok (.if_icmp .gt 12, 3) := by decide +kernel
theorem d_M_begin_22 : decode c_M_begin 22 = .ok (.iload_n 2, 1) := by decide +kernel
theorem d_M_begin_23 : decode c_M_begin 23 = .ok (.iload_n 1, 1) := by decide +kernel
theorem d_M_begin_24 : decode c_M_begin 24 = .ok (.if_icmp .ge 7, 3) := by decide +kernel
theorem d_M_begin_27 : decode c_M_begin 27 = .ok (.iconst 0, 1) := by decide +kernel
theorem d_M_begin_28 : decode c_M_begin 28 = .ok (.goto 4, 3) := by decide +kernel
theorem d_M_begin_31 : decode c_M_begin 31 = .ok (.iconst 1, 1) := by decide +kernel
theorem d_M_begin_32 : decode c_M_begin 32 = .ok (.invokevirtual 79, 3) := by decide +kernel
theorem d_M_begin_35 : decode c_M_begin 35 = .ok (.ifCond .eq 9, 3) := by decide +kernel
theorem d_M_begin_38 : decode c_M_begin 38 = .ok (.aload_n 0, 1) := by decide +kernel
theorem d_M_begin_39 : decode c_M_begin 39 = .ok (.iload_n 1, 1) := by decide +kernel
theorem d_M_begin_40 : decode c_M_begin 40 = .ok (.iload_n 2, 1) := by decide +kernel
theorem d_M_begin_41 : decode c_M_begin 41 = .ok (.invokevirtual 59, 3) := by decide +kernel
theorem d_M_begin_44 : decode c_M_begin 44 = .ok (.return_, 1) := by decide +kernel
theorem d_M_draw_0 : decode c_M_draw 0 = .ok (.aload_n 0, 1) := by decide +kernel
theorem d_M_draw_1 : decode c_M_draw 1 = .ok (.iload_n 1, 1) := by decide +kernel
theorem d_M_draw_2 : decode c_M_draw 2 = .ok (.invokevirtual 83, 3) := by decide +kernel
theorem d_M_draw_5 : decode c_M_draw 5 = .ok (.ifCond .eq 18, 3) := by decide +kernel
theorem d_M_draw_8 : decode c_M_draw 8 = .ok (.iload_n 2, 1) := by decide +kernel
theorem d_M_draw_9 : decode c_M_draw 9 = .ok (.ifCond .lt 14, 3) := by decide +kernel
theorem d_M_draw_12 : decode c_M_draw 12 = .ok (.iload_n 2, 1) := by decide +kernel
theorem d_M_draw_13 : decode c_M_draw 13 = .ok (.sipush 999, 3) := by decide +kernel
theorem d_M_draw_16 : decode c_M_draw 16 = .ok (.if_icmp .gt 7, 3) := by decide +kernel
theorem d_M_draw_19 : decode c_M_draw 19 = .ok (.iconst 1, 1) := by decide +kernel
theorem d_M_draw_20 : decode c_M_draw 20 = .ok (.goto 4, 3) := by decide +kernel
theorem d_M_draw_23 : decode c_M_draw 23 = .ok (.iconst 0, 1) := by decide +kernel
theorem d_M_draw_24 : decode c_M_draw 24 = .ok (.istore_n 3, 1) := by decide +kernel
theorem d_M_draw_25 : decode c_M_draw 25 = .ok (.iconst 0, 1) := by decide +kernel
theorem d_M_draw_26 : decode c_M_draw 26 = .ok (.istore 4, 2) := by decide +kernel
theorem d_M_draw_28 : decode c_M_draw 28 = .ok (.iload 4, 2) := by decide +kernel
theorem d_M_draw_30 : decode c_M_draw 30 = .ok (.aload_n 0, 1) := by decide +kernel
theorem d_M_draw_31 : decode c_M_draw 31 = .ok (.getfield 7, 3) := by decide +kernel
theorem d_M_draw_34 : decode c_M_draw 34 = .ok (.if_icmp .ge 36, 3) := by decide +kernel
theorem d_M_draw_37 : decode c_M_draw 37 = .ok (.iload_n 3, 1) := by decide +kernel
theorem d_M_draw_38 : decode c_M_draw 38 = .ok (.ifCond .eq 24, 3) := by decide +kernel
theorem d_M_draw_41 : decode c_M_draw 41 = .ok (.iload 4, 2) := by decide +kernel
theorem d_M_draw_43 : decode c_M_draw 43 = .ok (.iload_n 1, 1) := by decide +kernel
theorem d_M_draw_44 : decode c_M_draw 44 = .ok (.if_icmp .eq 14, 3) := by decide +kernel
theorem d_M_draw_47 : decode c_M_draw 47 = .ok (.aload_n 0, 1) := by decide +kernel
theorem d_M_draw_48 : decode c_M_draw 48 = .ok (.getfield 16, 3) := by decide +kernel
theorem d_M_draw_51 : decode c_M_draw 51 = .ok (.iload 4, 2) := by decide +kernel
theorem d_M_draw_53 : decode c_M_draw 53 = .ok (.iaload, 1) := by decide +kernel
theorem d_M_draw_54 : decode c_M_draw 54 = .ok (.iload_n 2, 1) := by decide +kernel
theorem d_M_draw_55 : decode c_M_draw 55 = .ok (.if_icmp .eq 7, 3) := by decide +kernel
theorem d_M_draw_58 : decode c_M_draw 58 = .ok (.iconst 1, 1) := by decide +kernel
theorem d_M_draw_59 : decode c_M_draw 59 = .ok (.goto 4, 3) := by decide +kernel
theorem d_M_draw_62 : decode c_M_draw 62 = .ok (.iconst 0, 1) := by decide +kernel
theorem d_M_draw_63 : decode c_M_draw 63 = .ok (.istore_n 3, 1) := by decide +kernel
theorem d_M_draw_64 : decode c_M_draw 64 = .ok (.iinc 4 1, 3) := by decide +kernel
theorem d_M_draw_67 : decode c_M_draw 67 = .ok (.goto (-39), 3) := by decide +kernel
theorem d_M_draw_70 : decode c_M_draw 70 = .ok (.aload_n 0, 1) := by decide +kernel
theorem d_M_draw_71 : decode c_M_draw 71 = .ok (.aload_n 0, 1) := by decide +kernel
theorem d_M_draw_72 : decode c_M_draw 72 = .ok (.getfield 47, 3) := by decide +kernel
theorem d_M_draw_75 : decode c_M_draw 75 = .ok (.ifCond .lt 7, 3) := by decide +kernel
theorem d_M_draw_78 : decode c_M_draw 78 = .ok (.iconst 1, 1) := by decide +kernel
theorem d_M_draw_79 : decode c_M_draw 79 = .ok (.goto 12, 3) := by decide +kernel
theorem d_M_draw_82 : decode c_M_draw 82 = .ok (.iload_n 3, 1) := by decide +kernel
theorem d_M_draw_83 : decode c_M_draw 83 = .ok (.ifCond .eq 7, 3) := by decide +kernel
theorem d_M_draw_86 : decode c_M_draw 86 = .ok (.iconst 0, 1) := by decide +kernel
theorem d_M_draw_87 : decode c_M_draw 87 = .ok (.goto 4, 3) := by decide +kernel
theorem d_M_draw_90 : decode c_M_draw 90 = .ok (.iconst 2, 1) := by decide +kernel
theorem d_M_draw_91 : decode c_M_draw 91 = .ok (.invokevirtual 79, 3) := by decide +kernel
theorem d_M_draw_94 : decode c_M_draw 94 = .ok (.ifCond .eq 10, 3) := by decide +kernel
theorem d_M_draw_97 : decode c_M_draw 97 = .ok (.aload_n 0, 1) := by decide +kernel
theorem d_M_draw_98 : decode c_M_draw 98 = .ok (.getfield 16, 3) := by decide +kernel
theorem d_M_draw_101 : decode c_M_draw 101 = .ok (.iload_n 1, 1) := by decide +kernel
theorem d_M_draw_102 : decode c_M_draw 102 = .ok (.iload_n 2, 1) := by decide +kernel
theorem d_M_draw_103 : decode c_M_draw 103 = .ok (.iastore, 1) := by decide +kernel
theorem d_M_draw_104 : decode c_M_draw 104 = .ok (.return_, 1) := by decide +kernel
theorem d_M_continuing_0 : decode c_M_continuing 0 = .ok (.iconst 0, 1) := by decide +kernel
theorem d_M_continuing_1 : decode c_M_continuing 1 = .ok (.istore_n 1, 1) := by decide +kernel
theorem d_M_continuing_2 : decode c_M_continuing 2 = .ok (.iconst 0, 1) := by decide +kernel
theorem d_M_continuing_3 : decode c_M_continuing 3 = .ok (.istore_n 2, 1) := by decide +kernel
theorem d_M_continuing_4 : decode c_M_continuing 4 = .ok (.iload_n 2, 1) := by decide +kernel
theorem d_M_continuing_5 : decode c_M_continuing 5 = .ok (.aload_n 0, 1) := by decide +kernel
theorem d_M_continuing_6 : decode c_M_continuing 6 = .ok (.getfield 7, 3) := by decide +kernel
theorem d_M_continuing_9 : decode c_M_continuing 9 = .ok (.if_icmp .ge 26, 3) := by decide +kernel
theorem d_M_continuing_12 : decode c_M_continuing 12 = .ok (.iload_n 1, 1) := by decide +kernel
theorem d_M_continuing_13 : decode c_M_continuing 13 = .ok (.aload_n 0, 1) := by decide +kernel
theorem d_M_continuing_14 : decode c_M_continuing 14 = .ok (.getfield 20, 3) := by decide +kernel
theorem d_M_continuing_17 : decode c_M_continuing 17 = .ok (.iload_n 2, 1) := by decide +kernel
theorem d_M_continuing_18 : decode c_M_continuing 18 = .ok (.iaload, 1) := by decide +kernel
theorem d_M_continuing_19 : decode c_M_continuing 19 = .ok (.ifCond .ne 7, 3) := by decide +kernel
theorem d_M_continuing_22 : decode c_M_continuing 22 = .ok (.iconst 1, 1) := by decide +kernel
theorem d_M_continuing_23 : decode c_M_continuing 23 = .ok (.goto 4, 3) := by decide +kernel
theorem d_M_continuing_26 : decode c_M_continuing 26 = .ok (.iconst 0, 1) := by decide +kernel
theorem d_M_continuing_27 : decode c_M_continuing 27 = .ok (.iadd, 1) := by decide +kernel
theorem d_M_continuing_28 : decode c_M_continuing 28 = .ok (.istore_n 1, 1) := by decide +kernel
theorem d_M_continuing_29 : decode c_M_continuing 29 = .ok (.iinc 2 1, 3) := by decide +kernel
theorem d_M_continuing_32 : decode c_M_continuing 32 = .ok (.goto (-28), 3) := by decide +kernel
theorem d_M_continuing_35 : decode c_M_continuing 35 = .ok (.iload_n 1, 1) := by decide +kernel
theorem d_M_continuing_36 : decode c_M_continuing 36 = .ok (.ireturn, 1) := by decide +kernel
theorem d_M_withdraw_0 : decode c_M_withdraw 0 = .ok (.aload_n 0, 1) := by decide +kernel
theorem d_M_withdraw_1 : decode c_M_withdraw 1 = .ok (.iload_n 1, 1) := by decide +kernel
theorem d_M_withdraw_2 : decode c_M_withdraw 2 = .ok (.invokevirtual 83, 3) := by decide +kernel
theorem d_M_withdraw_5 : decode c_M_withdraw 5 = .ok (.ifCond .eq 41, 3) := by decide +kernel
theorem d_M_withdraw_8 : decode c_M_withdraw 8 = .ok (.aload_n 0, 1) := by decide +kernel
theorem d_M_withdraw_9 : decode c_M_withdraw 9 = .ok (.getfield 20, 3) := by decide +kernel
theorem d_M_withdraw_12 : decode c_M_withdraw 12 = .ok (.aload_n 0, 1) := by decide +kernel
theorem d_M_withdraw_13 : decode c_M_withdraw 13 = .ok (.iload_n 1, 1) := by decide +kernel
theorem d_M_withdraw_14 : decode c_M_withdraw 14 = .ok (.invokevirtual 83, 3) := by decide +kernel
theorem d_M_withdraw_17 : decode c_M_withdraw 17 = .ok (.ifCond .eq 7, 3) := by decide +kernel
theorem d_M_withdraw_20 : decode c_M_withdraw 20 = .ok (.iload_n 1, 1) := by decide +kernel
theorem d_M_withdraw_21 : decode c_M_withdraw 21 = .ok (.goto 4, 3) := by decide +kernel
theorem d_M_withdraw_24 : decode c_M_withdraw 24 = .ok (.iconst 0, 1) := by decide +kernel
theorem d_M_withdraw_25 : decode c_M_withdraw 25 = .ok (.iaload, 1) := by decide +kernel
theorem d_M_withdraw_26 : decode c_M_withdraw 26 = .ok (.ifCond .ne 20, 3) := by decide +kernel
theorem d_M_withdraw_29 : decode c_M_withdraw 29 = .ok (.aload_n 0, 1) := by decide +kernel
theorem d_M_withdraw_30 : decode c_M_withdraw 30 = .ok (.invokevirtual 86, 3) := by decide +kernel
theorem d_M_withdraw_33 : decode c_M_withdraw 33 = .ok (.aload_n 0, 1) := by decide +kernel
theorem d_M_withdraw_34 : decode c_M_withdraw 34 = .ok (.getfield 13, 3) := by decide +kernel
theorem d_M_withdraw_37 : decode c_M_withdraw 37 = .ok (.iconst 1, 1) := by decide +kernel
theorem d_M_withdraw_38 : decode c_M_withdraw 38 = .ok (.iadd, 1) := by decide +kernel
theorem d_M_withdraw_39 : decode c_M_withdraw 39 = .ok (.if_icmp .le 7, 3) := by decide +kernel
theorem d_M_withdraw_42 : decode c_M_withdraw 42 = .ok (.iconst 1, 1) := by decide +kernel
theorem d_M_withdraw_43 : decode c_M_withdraw 43 = .ok (.goto 4, 3) := by decide +kernel
theorem d_M_withdraw_46 : decode c_M_withdraw 46 = .ok (.iconst 0, 1) := by decide +kernel
theorem d_M_withdraw_47 : decode c_M_withdraw 47 = .ok (.istore_n 2, 1) := by decide +kernel
theorem d_M_withdraw_48 : decode c_M_withdraw 48 = .ok (.aload_n 0, 1) := by decide +kernel
theorem d_M_withdraw_49 : decode c_M_withdraw 49 = .ok (.aload_n 0, 1) := by decide +kernel
theorem d_M_withdraw_50 : decode c_M_withdraw 50 = .ok (.getfield 47, 3) := by decide +kernel
theorem d_M_withdraw_53 : decode c_M_withdraw 53 = .ok (.ifCond .lt 7, 3) := by decide +kernel
theorem d_M_withdraw_56 : decode c_M_withdraw 56 = .ok (.iconst 1, 1) := by decide +kernel
theorem d_M_withdraw_57 : decode c_M_withdraw 57 = .ok (.goto 12, 3) := by decide +kernel
theorem d_M_withdraw_60 : decode c_M_withdraw 60 = .ok (.iload_n 2, 1) := by decide +kernel
theorem d_M_withdraw_61 : decode c_M_withdraw 61 = .ok (.ifCond .eq 7, 3) := by decide +kernel
theorem d_M_withdraw_64 : decode c_M_withdraw 64 = .ok (.iconst 0, 1) := by decide +kernel
theorem d_M_withdraw_65 : decode c_M_withdraw 65 = .ok (.goto 4, 3) := by decide +kernel
theorem d_M_withdraw_68 : decode c_M_withdraw 68 = .ok (.iconst 2, 1) := by decide +kernel
theorem d_M_withdraw_69 : decode c_M_withdraw 69 = .ok (.invokevirtual 79, 3) := by decide +kernel
theorem d_M_withdraw_72 : decode c_M_withdraw 72 = .ok (.ifCond .eq 8, 3) := by decide +kernel
theorem d_M_withdraw_75 : decode c_M_withdraw 75 = .ok (.aload_n 0, 1) := by decide +kernel
theorem d_M_withdraw_76 : decode c_M_withdraw 76 = .ok (.iload_n 1, 1) := by decide +kernel
theorem d_M_withdraw_77 : decode c_M_withdraw 77 = .ok (.invokevirtual 90, 3) := by decide +kernel
theorem d_M_withdraw_80 : decode c_M_withdraw 80 = .ok (.return_, 1) := by decide +kernel
theorem d_M_exclude_0 : decode c_M_exclude 0 = .ok (.aload_n 0, 1) := by decide +kernel
theorem d_M_exclude_1 : decode c_M_exclude 1 = .ok (.dup, 1) := by decide +kernel
theorem d_M_exclude_2 : decode c_M_exclude 2 = .ok (.getfield 69, 3) := by decide +kernel
theorem d_M_exclude_5 : decode c_M_exclude 5 = .ok (.iconst 1, 1) := by decide +kernel
theorem d_M_exclude_6 : decode c_M_exclude 6 = .ok (.iadd, 1) := by decide +kernel
theorem d_M_exclude_7 : decode c_M_exclude 7 = .ok (.putfield 69, 3) := by decide +kernel
theorem d_M_exclude_10 : decode c_M_exclude 10 = .ok (.aload_n 0, 1) := by decide +kernel
theorem d_M_exclude_11 : decode c_M_exclude 11 = .ok (.getfield 20, 3) := by decide +kernel
theorem d_M_exclude_14 : decode c_M_exclude 14 = .ok (.iload_n 1, 1) := by decide +kernel
theorem d_M_exclude_15 : decode c_M_exclude 15 = .ok (.aload_n 0, 1) := by decide +kernel
theorem d_M_exclude_16 : decode c_M_exclude 16 = .ok (.getfield 69, 3) := by decide +kernel
theorem d_M_exclude_19 : decode c_M_exclude 19 = .ok (.ineg, 1) := by decide +kernel
theorem d_M_exclude_20 : decode c_M_exclude 20 = .ok (.iastore, 1) := by decide +kernel
theorem d_M_exclude_21 : decode c_M_exclude 21 = .ok (.return_, 1) := by decide +kernel
theorem d_M_rank_0 : decode c_M_rank 0 = .ok (.lload_n 0, 1) := by decide +kernel
theorem d_M_rank_1 : decode c_M_rank 1 = .ok (.iconst 4, 1) := by decide +kernel
theorem d_M_rank_2 : decode c_M_rank 2 = .ok (.iload_n 2, 1) := by decide +kernel
theorem d_M_rank_3 : decode c_M_rank 3 = .ok (.imul, 1) := by decide +kernel
theorem d_M_rank_4 : decode c_M_rank 4 = .ok (.lushr, 1) := by decide +kernel
theorem d_M_rank_5 : decode c_M_rank 5 = .ok (.ldc2_w 94, 3) := by decide +kernel
theorem d_M_rank_8 : decode c_M_rank 8 = .ok (.land, 1) := by decide +kernel
theorem d_M_rank_9 : decode c_M_rank 9 = .ok (.l2i, 1) := by decide +kernel
theorem d_M_rank_10 : decode c_M_rank 10 = .ok (.iconst 1, 1) := by decide +kernel
theorem d_M_rank_11 : decode c_M_rank 11 = .ok (.isub, 1) := by decide +kernel
theorem d_M_rank_12 : decode c_M_rank 12 = .ok (.ireturn, 1) := by decide +kernel
theorem d_M_lay_0 : decode c_M_lay 0 = .ok (.iconst 0, 1) := by decide +kernel
theorem d_M_lay_1 : decode c_M_lay 1 = .ok (.istore 4, 2) := by decide +kernel
theorem d_M_lay_3 : decode c_M_lay 3 = .ok (.iload_n 3, 1) := by decide +kernel
theorem d_M_lay_4 : decode c_M_lay 4 = .ok (.iconst 1, 1) := by decide +kernel
theorem d_M_lay_5 : decode c_M_lay 5 = .ok (.if_icmp .lt 22, 3) := by decide +kernel
theorem d_M_lay_8 : decode c_M_lay 8 = .ok (.aload_n 0, 1) := by decide +kernel
theorem d_M_lay_9 : decode c_M_lay 9 = .ok (.getfield 72, 3) := by decide +kernel
theorem d_M_lay_12 : decode c_M_lay 12 = .ok (.i2l, 1) := by decide +kernel
theorem d_M_lay_13 : decode c_M_lay 13 = .ok (.iload_n 3, 1) := by decide +kernel
theorem d_M_lay_14 : decode c_M_lay 14 = .ok (.i2l, 1) := by decide +kernel
theorem d_M_lay_15 : decode c_M_lay 15 = .ok (.ladd, 1) := by decide +kernel
theorem d_M_lay_16 : decode c_M_lay 16 = .ok (.ldc2_w 96, 3) := by decide +kernel
theorem d_M_lay_19 : decode c_M_lay 19 = .ok (.lcmp, 1) := by decide +kernel
theorem d_M_lay_20 : decode c_M_lay 20 = .ok (.ifCond .gt 7, 3) := by decide +kernel
theorem d_M_lay_23 : decode c_M_lay 23 = .ok (.iconst 1, 1) := by decide +kernel
theorem d_M_lay_24 : decode c_M_lay 24 = .ok (.goto 4, 3) := by decide +kernel
theorem d_M_lay_27 : decode c_M_lay 27 = .ok (.iconst 0, 1) := by decide +kernel
theorem d_M_lay_28 : decode c_M_lay 28 = .ok (.istore 5, 2) := by decide +kernel
theorem d_M_lay_30 : decode c_M_lay 30 = .ok (.iload 4, 2) := by decide +kernel
theorem d_M_lay_32 : decode c_M_lay 32 = .ok (.bipush 16, 2) := by decide +kernel
theorem d_M_lay_34 : decode c_M_lay 34 = .ok (.if_icmp .ge 93, 3) := by decide +kernel
theorem d_M_lay_37 : decode c_M_lay 37 = .ok (.lload_n 1, 1) := by decide +kernel
theorem d_M_lay_38 : decode c_M_lay 38 = .ok (.iload 4, 2) := by decide +kernel
theorem d_M_lay_40 : decode c_M_lay 40 = .ok (.invokestatic 98, 3) := by decide +kernel
theorem d_M_lay_43 : decode c_M_lay 43 = .ok (.ifCond .lt 84, 3) := by decide +kernel
theorem d_M_lay_46 : decode c_M_lay 46 = .ok (.iload 5, 2) := by decide +kernel
theorem d_M_lay_48 : decode c_M_lay 48 = .ok (.ifCond .eq 27, 3) := by decide +kernel
theorem d_M_lay_51 : decode c_M_lay 51 = .ok (.iload 4, 2) := by decide +kernel
theorem d_M_lay_53 : decode c_M_lay 53 = .ok (.bipush 7, 2) := by decide +kernel
theorem d_M_lay_55 : decode c_M_lay 55 = .ok (.if_icmp .ge 20, 3) := by decide +kernel
theorem d_M_lay_58 : decode c_M_lay 58 = .ok (.lload_n 1, 1) := by decide +kernel
theorem d_M_lay_59 : decode c_M_lay 59 = .ok (.iload 4, 2) := by decide +kernel
theorem d_M_lay_61 : decode c_M_lay 61 = .ok (.invokestatic 98, 3) := by decide +kernel
theorem d_M_lay_64 : decode c_M_lay 64 = .ok (.aload_n 0, 1) := by decide +kernel
theorem d_M_lay_65 : decode c_M_lay 65 = .ok (.getfield 7, 3) := by decide +kernel
theorem d_M_lay_68 : decode c_M_lay 68 = .ok (.if_icmp .ge 7, 3) := by decide +kernel
theorem d_M_lay_71 : decode c_M_lay 71 = .ok (.iconst 1, 1) := by decide +kernel
theorem d_M_lay_72 : decode c_M_lay 72 = .ok (.goto 4, 3) := by decide +kernel
theorem d_M_lay_75 : decode c_M_lay 75 = .ok (.iconst 0, 1) := by decide +kernel
theorem d_M_lay_76 : decode c_M_lay 76 = .ok (.istore 5, 2) := by decide +kernel
theorem d_M_lay_78 : decode c_M_lay 78 = .ok (.iconst 0, 1) := by decide +kernel
theorem d_M_lay_79 : decode c_M_lay 79 = .ok (.istore 6, 2) := by decide +kernel
theorem d_M_lay_81 : decode c_M_lay 81 = .ok (.iload 6, 2) := by decide +kernel
theorem d_M_lay_83 : decode c_M_lay 83 = .ok (.iload 4, 2) := by decide +kernel
theorem d_M_lay_85 : decode c_M_lay 85 = .ok (.if_icmp .ge 36, 3) := by decide +kernel
theorem d_M_lay_88 : decode c_M_lay 88 = .ok (.iload 5, 2) := by decide +kernel
theorem d_M_lay_90 : decode c_M_lay 90 = .ok (.ifCond .eq 22, 3) := by decide +kernel
theorem d_M_lay_93 : decode c_M_lay 93 = .ok (.lload_n 1, 1) := by decide +kernel
theorem d_M_lay_94 : decode c_M_lay 94 = .ok (.iload 6, 2) := by decide +kernel
theorem d_M_lay_96 : decode c_M_lay 96 = .ok (.invokestatic 98, 3) := by decide +kernel
theorem d_M_lay_99 : decode c_M_lay 99 = .ok (.lload_n 1, 1) := by decide +kernel
theorem d_M_lay_100 : decode c_M_lay 100 = .ok (.iload 4, 2) := by decide +kernel
theorem d_M_lay_102 : decode c_M_lay 102 = .ok (.invokestatic 98, 3) := by decide +kernel
theorem d_M_lay_105 : decode c_M_lay 105 = .ok (.if_icmp .eq 7, 3) := by decide +kernel
theorem d_M_lay_108 : decode c_M_lay 108 = .ok (.iconst 1, 1) := by decide +kernel
theorem d_M_lay_109 : decode c_M_lay 109 = .ok (.goto 4, 3) := by decide +kernel
theorem d_M_lay_112 : decode c_M_lay 112 = .ok (.iconst 0, 1) := by decide +kernel
theorem d_M_lay_113 : decode c_M_lay 113 = .ok (.istore 5, 2) := by decide +kernel
theorem d_M_lay_115 : decode c_M_lay 115 = .ok (.iinc 6 1, 3) := by decide +kernel
theorem d_M_lay_118 : decode c_M_lay 118 = .ok (.goto (-37), 3) := by decide +kernel
theorem d_M_lay_121 : decode c_M_lay 121 = .ok (.iinc 4 1, 3) := by decide +kernel
theorem d_M_lay_124 : decode c_M_lay 124 = .ok (.goto (-94), 3) := by decide +kernel
theorem d_M_lay_127 : decode c_M_lay 127 = .ok (.aload_n 0, 1) := by decide +kernel
theorem d_M_lay_128 : decode c_M_lay 128 = .ok (.aload_n 0, 1) := by decide +kernel
theorem d_M_lay_129 : decode c_M_lay 129 = .ok (.getfield 47, 3) := by decide +kernel
theorem d_M_lay_132 : decode c_M_lay 132 = .ok (.ifCond .lt 7, 3) := by decide +kernel
theorem d_M_lay_135 : decode c_M_lay 135 = .ok (.iconst 1, 1) := by decide +kernel
theorem d_M_lay_136 : decode c_M_lay 136 = .ok (.goto 18, 3) := by decide +kernel
theorem d_M_lay_139 : decode c_M_lay 139 = .ok (.iload 5, 2) := by decide +kernel
theorem d_M_lay_141 : decode c_M_lay 141 = .ok (.ifCond .eq 12, 3) := by decide +kernel
theorem d_M_lay_144 : decode c_M_lay 144 = .ok (.iload 4, 2) := by decide +kernel
theorem d_M_lay_146 : decode c_M_lay 146 = .ok (.ifCond .le 7, 3) := by decide +kernel
theorem d_M_lay_149 : decode c_M_lay 149 = .ok (.iconst 0, 1) := by decide +kernel
theorem d_M_lay_150 : decode c_M_lay 150 = .ok (.goto 4, 3) := by decide +kernel
theorem d_M_lay_153 : decode c_M_lay 153 = .ok (.iconst 2, 1) := by decide +kernel
theorem d_M_lay_154 : decode c_M_lay 154 = .ok (.invokevirtual 79, 3) := by decide +kernel
theorem d_M_lay_157 : decode c_M_lay 157 = .ok (.ifCond .ne 5, 3) := by decide +kernel
theorem d_M_lay_160 : decode c_M_lay 160 = .ok (.iconst 0, 1) := by decide +kernel
theorem d_M_lay_161 : decode c_M_lay 161 = .ok (.ireturn, 1) := by decide +kernel
theorem d_M_lay_162 : decode c_M_lay 162 = .ok (.aload_n 0, 1) := by decide +kernel
theorem d_M_lay_163 : decode c_M_lay 163 = .ok (.getfield 72, 3) := by decide +kernel
theorem d_M_lay_166 : decode c_M_lay 166 = .ok (.istore 6, 2) := by decide +kernel
theorem d_M_lay_168 : decode c_M_lay 168 = .ok (.iload 6, 2) := by decide +kernel
theorem d_M_lay_170 : decode c_M_lay 170 = .ok (.aload_n 0, 1) := by decide +kernel
theorem d_M_lay_171 : decode c_M_lay 171 = .ok (.getfield 72, 3) := by decide +kernel
theorem d_M_lay_174 : decode c_M_lay 174 = .ok (.iload_n 3, 1) := by decide +kernel
theorem d_M_lay_175 : decode c_M_lay 175 = .ok (.iadd, 1) := by decide +kernel
theorem d_M_lay_176 : decode c_M_lay 176 = .ok (.if_icmp .ge 53, 3) := by decide +kernel
theorem d_M_lay_179 : decode c_M_lay 179 = .ok (.aload_n 0, 1) := by decide +kernel
theorem d_M_lay_180 : decode c_M_lay 180 = .ok (.getfield 26, 3) := by decide +kernel
theorem d_M_lay_183 : decode c_M_lay 183 = .ok (.iload 6, 2) := by decide +kernel
theorem d_M_lay_185 : decode c_M_lay 185 = .ok (.iload 4, 2) := by decide +kernel
theorem d_M_lay_187 : decode c_M_lay 187 = .ok (.iastore, 1) := by decide +kernel
theorem d_M_lay_188 : decode c_M_lay 188 = .ok (.iconst 0, 1) := by decide +kernel
theorem d_M_lay_189 : decode c_M_lay 189 = .ok (.istore 7, 2) := by decide +kernel
theorem d_M_lay_191 : decode c_M_lay 191 = .ok (.iload 7, 2) := by decide +kernel
theorem d_M_lay_193 : decode c_M_lay 193 = .ok (.iload 4, 2) := by decide +kernel
theorem d_M_lay_195 : decode c_M_lay 195 = .ok (.if_icmp .ge 28, 3) := by decide +kernel
theorem d_M_lay_198 : decode c_M_lay 198 = .ok (.aload_n 0, 1) := by decide +kernel
theorem d_M_lay_199 : decode c_M_lay 199 = .ok (.getfield 23, 3) := by decide +kernel
theorem d_M_lay_202 : decode c_M_lay 202 = .ok (.bipush 7, 2) := by decide +kernel
theorem d_M_lay_204 : decode c_M_lay 204 = .ok (.iload 6, 2) := by decide +kernel
theorem d_M_lay_206 : decode c_M_lay 206 = .ok (.imul, 1) := by decide +kernel
theorem d_M_lay_207 : decode c_M_lay 207 = .ok (.iload 7, 2) := by decide +kernel
theorem d_M_lay_209 : decode c_M_lay 209 = .ok (.iadd, 1) := by decide +kernel
theorem d_M_lay_210 : decode c_M_lay 210 = .ok (.lload_n 1, 1) := by decide +kernel
theorem d_M_lay_211 : decode c_M_lay 211 = .ok (.iload 7, 2) := by decide +kernel
theorem d_M_lay_213 : decode c_M_lay 213 = .ok (.invokestatic 98, 3) := by decide +kernel
theorem d_M_lay_216 : decode c_M_lay 216 = .ok (.iastore, 1) := by decide +kernel
theorem d_M_lay_217 : decode c_M_lay 217 = .ok (.iinc 7 1, 3) := by decide +kernel
theorem d_M_lay_220 : decode c_M_lay 220 = .ok (.goto (-29), 3) := by decide +kernel
theorem d_M_lay_223 : decode c_M_lay 223 = .ok (.iinc 6 1, 3) := by decide +kernel
theorem d_M_lay_226 : decode c_M_lay 226 = .ok (.goto (-58), 3) := by decide +kernel
theorem d_M_lay_229 : decode c_M_lay 229 = .ok (.aload_n 0, 1) := by decide +kernel
theorem d_M_lay_230 : decode c_M_lay 230 = .ok (.dup, 1) := by decide +kernel
theorem d_M_lay_231 : decode c_M_lay 231 = .ok (.getfield 72, 3) := by decide +kernel
theorem d_M_lay_234 : decode c_M_lay 234 = .ok (.iload_n 3, 1) := by decide +kernel
theorem d_M_lay_235 : decode c_M_lay 235 = .ok (.iadd, 1) := by decide +kernel
theorem d_M_lay_236 : decode c_M_lay 236 = .ok (.putfield 72, 3) := by decide +kernel
theorem d_M_lay_239 : decode c_M_lay 239 = .ok (.aload_n 0, 1) := by decide +kernel
theorem d_M_lay_240 : decode c_M_lay 240 = .ok (.getfield 72, 3) := by decide +kernel
theorem d_M_lay_243 : decode c_M_lay 243 = .ok (.ireturn, 1) := by decide +kernel
theorem d_M_common_0 : decode c_M_common 0 = .ok (.lload_n 0, 1) := by decide +kernel
theorem d_M_common_1 : decode c_M_common 1 = .ok (.lstore 4, 2) := by decide +kernel
theorem d_M_common_3 : decode c_M_common 3 = .ok (.lload_n 2, 1) := by decide +kernel
theorem d_M_common_4 : decode c_M_common 4 = .ok (.lstore 6, 2) := by decide +kernel
theorem d_M_common_6 : decode c_M_common 6 = .ok (.lload 6, 2) := by decide +kernel
theorem d_M_common_8 : decode c_M_common 8 = .ok (.lconst 0, 1) := by decide +kernel
theorem d_M_common_9 : decode c_M_common 9 = .ok (.lcmp, 1) := by decide +kernel
theorem d_M_common_10 : decode c_M_common 10 = .ok (.ifCond .eq 21, 3) := by decide +kernel
theorem d_M_common_13 : decode c_M_common 13 = .ok (.lload 4, 2) := by decide +kernel
theorem d_M_common_15 : decode c_M_common 15 = .ok (.lload 6, 2) := by decide +kernel
theorem d_M_common_17 : decode c_M_common 17 = .ok (.lrem, 1) := by decide +kernel
theorem d_M_common_18 : decode c_M_common 18 = .ok (.lstore 8, 2) := by decide +kernel
theorem d_M_common_20 : decode c_M_common 20 = .ok (.lload 6, 2) := by decide +kernel
theorem d_M_common_22 : decode c_M_common 22 = .ok (.lstore 4, 2) := by decide +kernel
theorem d_M_common_24 : decode c_M_common 24 = .ok (.lload 8, 2) := by decide +kernel
theorem d_M_common_26 : decode c_M_common 26 = .ok (.lstore 6, 2) := by decide +kernel
theorem d_M_common_28 : decode c_M_common 28 = .ok (.goto (-22), 3) := by decide +kernel
theorem d_M_common_31 : decode c_M_common 31 = .ok (.lload 4, 2) := by decide +kernel
theorem d_M_common_33 : decode c_M_common 33 = .ok (.lreturn, 1) := by decide +kernel
theorem d_M_quota_0 : decode c_M_quota 0 = .ok (.aload_n 0, 1) := by decide +kernel
theorem d_M_quota_1 : decode c_M_quota 1 = .ok (.getfield 72, 3) := by decide +kernel
theorem d_M_quota_4 : decode c_M_quota 4 = .ok (.i2l, 1) := by decide +kernel
theorem d_M_quota_5 : decode c_M_quota 5 = .ok (.aload_n 0, 1) := by decide +kernel
theorem d_M_quota_6 : decode c_M_quota 6 = .ok (.getfield 43, 3) := by decide +kernel
theorem d_M_quota_9 : decode c_M_quota 9 = .ok (.aload_n 0, 1) := by decide +kernel
theorem d_M_quota_10 : decode c_M_quota 10 = .ok (.getfield 13, 3) := by decide +kernel
theorem d_M_quota_13 : decode c_M_quota 13 = .ok (.iconst 1, 1) := by decide +kernel
theorem d_M_quota_14 : decode c_M_quota 14 = .ok (.iadd, 1) := by decide +kernel
theorem d_M_quota_15 : decode c_M_quota 15 = .ok (.i2l, 1) := by decide +kernel
theorem d_M_quota_16 : decode c_M_quota 16 = .ok (.ldiv, 1) := by decide +kernel
theorem d_M_quota_17 : decode c_M_quota 17 = .ok (.lmul, 1) := by decide +kernel
theorem d_M_quota_18 : decode c_M_quota 18 = .ok (.lreturn, 1) := by decide +kernel
theorem d_M_lessen_0 : decode c_M_lessen 0 = .ok (.aload_n 0, 1) := by decide +kernel
theorem d_M_lessen_1 : decode c_M_lessen 1 = .ok (.getfield 43, 3) := by decide +kernel
theorem d_M_lessen_4 : decode c_M_lessen 4 = .ok (.aload_n 0, 1) := by decide +kernel
theorem d_M_lessen_5 : decode c_M_lessen 5 = .ok (.getfield 13, 3) := by decide +kernel
theorem d_M_lessen_8 : decode c_M_lessen 8 = .ok (.iconst 1, 1) := by decide +kernel
theorem d_M_lessen_9 : decode c_M_lessen 9 = .ok (.iadd, 1) := by decide +kernel
theorem d_M_lessen_10 : decode c_M_lessen 10 = .ok (.i2l, 1) := by decide +kernel
theorem d_M_lessen_11 : decode c_M_lessen 11 = .ok (.ldiv, 1) := by decide +kernel
theorem d_M_lessen_12 : decode c_M_lessen 12 = .ok (.lstore_n 1, 1) := by decide +kernel
theorem d_M_lessen_13 : decode c_M_lessen 13 = .ok (.iconst 0, 1) := by decide +kernel
theorem d_M_lessen_14 : decode c_M_lessen 14 = .ok (.istore_n 3, 1) := by decide +kernel
theorem d_M_lessen_15 : decode c_M_lessen 15 = .ok (.iload_n 3, 1) := by decide +kernel
theorem d_M_lessen_16 : decode c_M_lessen 16 = .ok (.aload_n 0, 1) := by decide +kernel
theorem d_M_lessen_17 : decode c_M_lessen 17 = .ok (.getfield 72, 3) := by decide +kernel
theorem d_M_lessen_20 : decode c_M_lessen 20 = .ok (.if_icmp .ge 20, 3) := by decide +kernel
theorem d_M_lessen_23 : decode c_M_lessen 23 = .ok (.lload_n 1, 1) := by decide +kernel
theorem d_M_lessen_24 : decode c_M_lessen 24 = .ok (.aload_n 0, 1) := by decide +kernel
theorem d_M_lessen_25 : decode c_M_lessen 25 = .ok (.getfield 35, 3) := by decide +kernel
theorem d_M_lessen_28 : decode c_M_lessen 28 = .ok (.iload_n 3, 1) := by decide +kernel
theorem d_M_lessen_29 : decode c_M_lessen 29 = .ok (.laload, 1) := by decide +kernel
theorem d_M_lessen_30 : decode c_M_lessen 30 = .ok (.invokestatic 102, 3) := by decide +kernel
theorem d_M_lessen_33 : decode c_M_lessen 33 = .ok (.lstore_n 1, 1) := by decide +kernel
theorem d_M_lessen_34 : decode c_M_lessen 34 = .ok (.iinc 3 1, 3) := by decide +kernel
theorem d_M_lessen_37 : decode c_M_lessen 37 = .ok (.goto (-22), 3) := by decide +kernel
theorem d_M_lessen_40 : decode c_M_lessen 40 = .ok (.aload_n 0, 1) := by decide +kernel
theorem d_M_lessen_41 : decode c_M_lessen 41 = .ok (.aload_n 0, 1) := by decide +kernel
theorem d_M_lessen_42 : decode c_M_lessen 42 = .ok (.getfield 43, 3) := by decide +kernel
theorem d_M_lessen_45 : decode c_M_lessen 45 = .ok (.lload_n 1, 1) := by decide +kernel
theorem d_M_lessen_46 : decode c_M_lessen 46 = .ok (.ldiv, 1) := by decide +kernel
theorem d_M_lessen_47 : decode c_M_lessen 47 = .ok (.putfield 43, 3) := by decide +kernel
theorem d_M_lessen_50 : decode c_M_lessen 50 = .ok (.iconst 0, 1) := by decide +kernel
theorem d_M_lessen_51 : decode c_M_lessen 51 = .ok (.istore_n 3, 1) := by decide +kernel
theorem d_M_lessen_52 : decode c_M_lessen 52 = .ok (.iload_n 3, 1) := by decide +kernel
theorem d_M_lessen_53 : decode c_M_lessen 53 = .ok (.aload_n 0, 1) := by decide +kernel
theorem d_M_lessen_54 : decode c_M_lessen 54 = .ok (.getfield 72, 3) := by decide +kernel
theorem d_M_lessen_57 : decode c_M_lessen 57 = .ok (.if_icmp .ge 23, 3) := by decide +kernel
theorem d_M_lessen_60 : decode c_M_lessen 60 = .ok (.aload_n 0, 1) := by decide +kernel
theorem d_M_lessen_61 : decode c_M_lessen 61 = .ok (.getfield 35, 3) := by decide +kernel
theorem d_M_lessen_64 : decode c_M_lessen 64 = .ok (.iload_n 3, 1) := by decide +kernel
theorem d_M_lessen_65 : decode c_M_lessen 65 = .ok (.aload_n 0, 1) := by decide +kernel
theorem d_M_lessen_66 : decode c_M_lessen 66 = .ok (.getfield 35, 3) := by decide +kernel
theorem d_M_lessen_69 : decode c_M_lessen 69 = .ok (.iload_n 3, 1) := by decide +kernel
theorem d_M_lessen_70 : decode c_M_lessen 70 = .ok (.laload, 1) := by decide +kernel
theorem d_M_lessen_71 : decode c_M_lessen 71 = .ok (.lload_n 1, 1) := by decide +kernel
theorem d_M_lessen_72 : decode c_M_lessen 72 = .ok (.ldiv, 1) := by decide +kernel
theorem d_M_lessen_73 : decode c_M_lessen 73 = .ok (.lastore, 1) := by decide +kernel
theorem d_M_lessen_74 : decode c_M_lessen 74 = .ok (.iinc 3 1, 3) := by decide +kernel
theorem d_M_lessen_77 : decode c_M_lessen 77 = .ok (.goto (-25), 3) := by decide +kernel
theorem d_M_lessen_80 : decode c_M_lessen 80 = .ok (.return_, 1) := by decide +kernel
theorem d_M_sumOf_0 : decode c_M_sumOf 0 = .ok (.iload_n 1, 1) := by decide +kernel
theorem d_M_sumOf_1 : decode c_M_sumOf 1 = .ok (.bipush 12, 2) := by decide +kernel
theorem d_M_sumOf_3 : decode c_M_sumOf 3 = .ok (.if_icmp .ge 19, 3) := by decide +kernel
theorem d_M_sumOf_6 : decode c_M_sumOf 6 = .ok (.aload_n 0, 1) := by decide +kernel
theorem d_M_sumOf_7 : decode c_M_sumOf 7 = .ok (.getfield 39, 3) := by decide +kernel
theorem d_M_sumOf_10 : decode c_M_sumOf 10 = .ok (.iload_n 1, 1) := by decide +kernel
theorem d_M_sumOf_11 : decode c_M_sumOf 11 = .ok (.baload, 1) := by decide +kernel
theorem d_M_sumOf_12 : decode c_M_sumOf 12 = .ok (.ifCond .eq 10, 3) := by decide +kernel
theorem d_M_sumOf_15 : decode c_M_sumOf 15 = .ok (.aload_n 0, 1) := by decide +kernel
theorem d_M_sumOf_16 : decode c_M_sumOf 16 = .ok (.invokevirtual 106, 3) := by decide +kernel
theorem d_M_sumOf_19 : decode c_M_sumOf 19 = .ok (.goto 4, 3) := by decide +kernel
theorem d_M_sumOf_22 : decode c_M_sumOf 22 = .ok (.lconst 0, 1) := by decide +kernel
theorem d_M_sumOf_23 : decode c_M_sumOf 23 = .ok (.lstore_n 2, 1) := by decide +kernel
theorem d_M_sumOf_24 : decode c_M_sumOf 24 = .ok (.iconst 0, 1) := by decide +kernel
theorem d_M_sumOf_25 : decode c_M_sumOf 25 = .ok (.istore 4, 2) := by decide +kernel
theorem d_M_sumOf_27 : decode c_M_sumOf 27 = .ok (.iload 4, 2) := by decide +kernel
theorem d_M_sumOf_29 : decode c_M_sumOf 29 = .ok (.aload_n 0, 1) := by decide +kernel
theorem d_M_sumOf_30 : decode c_M_sumOf 30 = .ok (.getfield 72, 3) := by decide +kernel
theorem d_M_sumOf_33 : decode c_M_sumOf 33 = .ok (.if_icmp .ge 34, 3) := by decide +kernel
theorem d_M_sumOf_36 : decode c_M_sumOf 36 = .ok (.lload_n 2, 1) := by decide +kernel
theorem d_M_sumOf_37 : decode c_M_sumOf 37 = .ok (.aload_n 0, 1) := by decide +kernel
theorem d_M_sumOf_38 : decode c_M_sumOf 38 = .ok (.getfield 32, 3) := by decide +kernel
theorem d_M_sumOf_41 : decode c_M_sumOf 41 = .ok (.iload 4, 2) := by decide +kernel
theorem d_M_sumOf_43 : decode c_M_sumOf 43 = .ok (.iaload, 1) := by decide +kernel
theorem d_M_sumOf_44 : decode c_M_sumOf 44 = .ok (.iload_n 1, 1) := by decide +kernel
theorem d_M_sumOf_45 : decode c_M_sumOf 45 = .ok (.if_icmp .ne 13, 3) := by decide +kernel
theorem d_M_sumOf_48 : decode c_M_sumOf 48 = .ok (.aload_n 0, 1) := by decide +kernel
theorem d_M_sumOf_49 : decode c_M_sumOf 49 = .ok (.getfield 35, 3) := by decide +kernel
theorem d_M_sumOf_52 : decode c_M_sumOf 52 = .ok (.iload 4, 2) := by decide +kernel
theorem d_M_sumOf_54 : decode c_M_sumOf 54 = .ok (.laload, 1) := by decide +kernel
theorem d_M_sumOf_55 : decode c_M_sumOf 55 = .ok (.goto 4, 3) := by decide +kernel
theorem d_M_sumOf_58 : decode c_M_sumOf 58 = .ok (.lconst 0, 1) := by decide +kernel
theorem d_M_sumOf_59 : decode c_M_sumOf 59 = .ok (.ladd, 1) := by decide +kernel
theorem d_M_sumOf_60 : decode c_M_sumOf 60 = .ok (.lstore_n 2, 1) := by decide +kernel
theorem d_M_sumOf_61 : decode c_M_sumOf 61 = .ok (.iinc 4 1, 3) := by decide +kernel
theorem d_M_sumOf_64 : decode c_M_sumOf 64 = .ok (.goto (-37), 3) := by decide +kernel
theorem d_M_sumOf_67 : decode c_M_sumOf 67 = .ok (.lload_n 2, 1) := by decide +kernel
theorem d_M_sumOf_68 : decode c_M_sumOf 68 = .ok (.lreturn, 1) := by decide +kernel
theorem d_M_goOn_0 : decode c_M_goOn 0 = .ok (.iload_n 2, 1) := by decide +kernel
theorem d_M_goOn_1 : decode c_M_goOn 1 = .ok (.istore_n 3, 1) := by decide +kernel
theorem d_M_goOn_2 : decode c_M_goOn 2 = .ok (.iload_n 3, 1) := by decide +kernel
theorem d_M_goOn_3 : decode c_M_goOn 3 = .ok (.aload_n 0, 1) := by decide +kernel
theorem d_M_goOn_4 : decode c_M_goOn 4 = .ok (.getfield 26, 3) := by decide +kernel
theorem d_M_goOn_7 : decode c_M_goOn 7 = .ok (.iload_n 1, 1) := by decide +kernel
theorem d_M_goOn_8 : decode c_M_goOn 8 = .ok (.iaload, 1) := by decide +kernel
theorem d_M_goOn_9 : decode c_M_goOn 9 = .ok (.if_icmp .ge 28, 3) := by decide +kernel
theorem d_M_goOn_12 : decode c_M_goOn 12 = .ok (.aload_n 0, 1) := by decide +kernel
theorem d_M_goOn_13 : decode c_M_goOn 13 = .ok (.getfield 20, 3) := by decide +kernel
theorem d_M_goOn_16 : decode c_M_goOn 16 = .ok (.aload_n 0, 1) := by decide +kernel
theorem d_M_goOn_17 : decode c_M_goOn 17 = .ok (.getfield 23, 3) := by decide +kernel
theorem d_M_goOn_20 : decode c_M_goOn 20 = .ok (.bipush 7, 2) := by decide +kernel
theorem d_M_goOn_22 : decode c_M_goOn 22 = .ok (.iload_n 1, 1) := by decide +kernel
theorem d_M_goOn_23 : decode c_M_goOn 23 = .ok (.imul, 1) := by decide +kernel
theorem d_M_goOn_24 : decode c_M_goOn 24 = .ok (.iload_n 3, 1) := by decide +kernel
theorem d_M_goOn_25 : decode c_M_goOn 25 = .ok (.iadd, 1) := by decide +kernel
theorem d_M_goOn_26 : decode c_M_goOn 26 = .ok (.iaload, 1) := by decide +kernel
theorem d_M_goOn_27 : decode c_M_goOn 27 = .ok (.iaload, 1) := by decide +kernel
theorem d_M_goOn_28 : decode c_M_goOn 28 = .ok (.ifCond .eq 9, 3) := by decide +kernel
theorem d_M_goOn_31 : decode c_M_goOn 31 = .ok (.iinc 3 1, 3) := by decide +kernel
theorem d_M_goOn_34 : decode c_M_goOn 34 = .ok (.goto (-32), 3) := by decide +kernel
theorem d_M_goOn_37 : decode c_M_goOn 37 = .ok (.aload_n 0, 1) := by decide +kernel
theorem d_M_goOn_38 : decode c_M_goOn 38 = .ok (.getfield 29, 3) := by decide +kernel
theorem d_M_goOn_41 : decode c_M_goOn 41 = .ok (.iload_n 1, 1) := by decide +kernel
theorem d_M_goOn_42 : decode c_M_goOn 42 = .ok (.iload_n 3, 1) := by decide +kernel
theorem d_M_goOn_43 : decode c_M_goOn 43 = .ok (.iastore, 1) := by decide +kernel
theorem d_M_goOn_44 : decode c_M_goOn 44 = .ok (.aload_n 0, 1) := by decide +kernel
theorem d_M_goOn_45 : decode c_M_goOn 45 = .ok (.getfield 32, 3) := by decide +kernel
theorem d_M_goOn_48 : decode c_M_goOn 48 = .ok (.iload_n 1, 1) := by decide +kernel
theorem d_M_goOn_49 : decode c_M_goOn 49 = .ok (.iload_n 3, 1) := by decide +kernel
theorem d_M_goOn_50 : decode c_M_goOn 50 = .ok (.aload_n 0, 1) := by decide +kernel
theorem d_M_goOn_51 : decode c_M_goOn 51 = .ok (.getfield 26, 3) := by decide +kernel
theorem d_M_goOn_54 : decode c_M_goOn 54 = .ok (.iload_n 1, 1) := by decide +kernel
theorem d_M_goOn_55 : decode c_M_goOn 55 = .ok (.iaload, 1) := by decide +kernel
theorem d_M_goOn_56 : decode c_M_goOn 56 = .ok (.if_icmp .ge 17, 3) := by decide +kernel
theorem d_M_goOn_59 : decode c_M_goOn 59 = .ok (.aload_n 0, 1) := by decide +kernel
theorem d_M_goOn_60 : decode c_M_goOn 60 = .ok (.getfield 23, 3) := by decide +kernel
theorem d_M_goOn_63 : decode c_M_goOn 63 = .ok (.bipush 7, 2) := by decide +kernel
theorem d_M_goOn_65 : decode c_M_goOn 65 = .ok (.iload_n 1, 1) := by decide +kernel
theorem d_M_goOn_66 : decode c_M_goOn 66 = .ok (.imul, 1) := by decide +kernel
theorem d_M_goOn_67 : decode c_M_goOn 67 = .ok (.iload_n 3, 1) := by decide +kernel
theorem d_M_goOn_68 : decode c_M_goOn 68 = .ok (.iadd, 1) := by decide +kernel
theorem d_M_goOn_69 : decode c_M_goOn 69 = .ok (.iaload, 1) := by decide +kernel
theorem d_M_goOn_70 : decode c_M_goOn 70 = .ok (.goto 5, 3) := by decide +kernel
theorem d_M_goOn_73 : decode c_M_goOn 73 = .ok (.bipush 12, 2) := by decide +kernel
theorem d_M_goOn_75 : decode c_M_goOn 75 = .ok (.iastore, 1) := by decide +kernel
theorem d_M_goOn_76 : decode c_M_goOn 76 = .ok (.aload_n 0, 1) := by decide +kernel
theorem d_M_goOn_77 : decode c_M_goOn 77 = .ok (.getfield 56, 3) := by decide +kernel
theorem d_M_goOn_80 : decode c_M_goOn 80 = .ok (.bipush 13, 2) := by decide +kernel
theorem d_M_goOn_82 : decode c_M_goOn 82 = .ok (.aload_n 0, 1) := by decide +kernel
theorem d_M_goOn_83 : decode c_M_goOn 83 = .ok (.getfield 47, 3) := by decide +kernel
theorem d_M_goOn_86 : decode c_M_goOn 86 = .ok (.imul, 1) := by decide +kernel
theorem d_M_goOn_87 : decode c_M_goOn 87 = .ok (.aload_n 0, 1) := by decide +kernel
theorem d_M_goOn_88 : decode c_M_goOn 88 = .ok (.getfield 32, 3) := by decide +kernel
theorem d_M_goOn_91 : decode c_M_goOn 91 = .ok (.iload_n 1, 1) := by decide +kernel
theorem d_M_goOn_92 : decode c_M_goOn 92 = .ok (.iaload, 1) := by decide +kernel
theorem d_M_goOn_93 : decode c_M_goOn 93 = .ok (.iadd, 1) := by decide +kernel
theorem d_M_goOn_94 : decode c_M_goOn 94 = .ok (.dup2, 1) := by decide +kernel
theorem d_M_goOn_95 : decode c_M_goOn 95 = .ok (.iaload, 1) := by decide +kernel
theorem d_M_goOn_96 : decode c_M_goOn 96 = .ok (.iconst 1, 1) := by decide +kernel
theorem d_M_goOn_97 : decode c_M_goOn 97 = .ok (.iadd, 1) := by decide +kernel
theorem d_M_goOn_98 : decode c_M_goOn 98 = .ok (.iastore, 1) := by decide +kernel
theorem d_M_goOn_99 : decode c_M_goOn 99 = .ok (.return_, 1) := by decide +kernel
theorem d_M_beginStage_0 : decode c_M_beginStage 0 = .ok (.aload_n 0, 1) := by decide +kernel
theorem d_M_beginStage_1 : decode c_M_beginStage 1 = .ok (.dup, 1) := by decide +kernel
theorem d_M_beginStage_2 : decode c_M_beginStage 2 = .ok (.getfield 47, 3) := by decide +kernel
theorem d_M_beginStage_5 : decode c_M_beginStage 5 = .ok (.iconst 1, 1) := by decide +kernel
theorem d_M_beginStage_6 : decode c_M_beginStage 6 = .ok (.iadd, 1) := by decide +kernel
theorem d_M_beginStage_7 : decode c_M_beginStage 7 = .ok (.putfield 47, 3) := by decide +kernel
theorem d_M_beginStage_10 : decode c_M_beginStage 10 = .ok (.iconst 0, 1) := by decide +kernel
theorem d_M_beginStage_11 : decode c_M_beginStage 11 = .ok (.istore_n 1, 1) := by decide +kernel
theorem d_M_beginStage_12 : decode c_M_beginStage 12 = .ok (.iload_n 1, 1) := by decide +kernel
theorem d_M_beginStage_13 : decode c_M_beginStage 13 = .ok (.bipush 13, 2) := by decide +kernel
theorem d_M_beginStage_15 : decode c_M_beginStage 15 = .ok (.if_icmp .ge 24, 3) := by decide +kernel
theorem d_M_beginStage_18 : decode c_M_beginStage 18 = .ok (.aload_n 0, 1) := by decide +kernel
theorem d_M_beginStage_19 : decode c_M_beginStage 19 = .ok (.getfield 56, 3) := by decide +kernel
theorem d_M_beginStage_22 : decode c_M_beginStage 22 = .ok (.bipush 13, 2) := by decide +kernel
theorem d_M_beginStage_24 : decode c_M_beginStage 24 = .ok (.aload_n 0, 1) := by decide +kernel
theorem d_M_beginStage_25 : decode c_M_beginStage 25 = .ok (.getfield 47, 3) := by decide +kernel
theorem d_M_beginStage_28 : decode c_M_beginStage 28 = .ok (.imul, 1) := by decide +kernel
theorem d_M_beginStage_29 : decode c_M_beginStage 29 = .ok (.iload_n 1, 1) := by decide +kernel
theorem d_M_beginStage_30 : decode c_M_beginStage 30 = .ok (.iadd, 1) := by decide +kernel
theorem d_M_beginStage_31 : decode c_M_beginStage 31 = .ok (.iconst 0, 1) := by decide +kernel
theorem d_M_beginStage_32 : decode c_M_beginStage 32 = .ok (.iastore, 1) := by decide +kernel
theorem d_M_beginStage_33 : decode c_M_beginStage 33 = .ok (.iinc 1 1, 3) := by decide +kernel
theorem d_M_beginStage_36 : decode c_M_beginStage 36 = .ok (.goto (-24), 3) := by decide +kernel
theorem d_M_beginStage_39 : decode c_M_beginStage 39 = .ok (.return_, 1) := by decide +kernel
theorem d_M_at_0 : decode c_M_at 0 = .ok (.aload_n 0, 1) := by decide +kernel
theorem d_M_at_1 : decode c_M_at 1 = .ok (.getfield 50, 3) := by decide +kernel
theorem d_M_at_4 : decode c_M_at 4 = .ok (.bipush 13, 2) := by decide +kernel
theorem d_M_at_6 : decode c_M_at 6 = .ok (.iload_n 1, 1) := by decide +kernel
theorem d_M_at_7 : decode c_M_at 7 = .ok (.imul, 1) := by decide +kernel
theorem d_M_at_8 : decode c_M_at 8 = .ok (.iload_n 2, 1) := by decide +kernel
theorem d_M_at_9 : decode c_M_at 9 = .ok (.iadd, 1) := by decide +kernel
theorem d_M_at_10 : decode c_M_at 10 = .ok (.laload, 1) := by decide +kernel
theorem d_M_at_11 : decode c_M_at 11 = .ok (.lreturn, 1) := by decide +kernel
theorem d_M_isAhead_0 : decode c_M_isAhead 0 = .ok (.aload_n 0, 1) := by decide +kernel
theorem d_M_isAhead_1 : decode c_M_isAhead 1 = .ok (.getfield 47, 3) := by decide +kernel
theorem d_M_isAhead_4 : decode c_M_isAhead 4 = .ok (.istore_n 3, 1) := by decide +kernel
theorem d_M_isAhead_5 : decode c_M_isAhead 5 = .ok (.iload_n 3, 1) := by decide +kernel
theorem d_M_isAhead_6 : decode c_M_isAhead 6 = .ok (.ifCond .lt 47, 3) := by decide +kernel
theorem d_M_isAhead_9 : decode c_M_isAhead 9 = .ok (.aload_n 0, 1) := by decide +kernel
theorem d_M_isAhead_10 : decode c_M_isAhead 10 = .ok (.iload_n 3, 1) := by decide +kernel
theorem d_M_isAhead_11 : decode c_M_isAhead 11 = .ok (.iload_n 1, 1) := by decide +kernel
theorem d_M_isAhead_12 : decode c_M_isAhead 12 = .ok (.invokevirtual 110, 3) := by decide +kernel
theorem d_M_isAhead_15 : decode c_M_isAhead 15 = .ok (.aload_n 0, 1) := by decide +kernel
theorem d_M_isAhead_16 : decode c_M_isAhead 16 = .ok (.iload_n 3, 1) := by decide +kernel
theorem d_M_isAhead_17 : decode c_M_isAhead 17 = .ok (.iload_n 2, 1) := by decide +kernel
theorem d_M_isAhead_18 : decode c_M_isAhead 18 = .ok (.invokevirtual 110, 3) := by decide +kernel
theorem d_M_isAhead_21 : decode c_M_isAhead 21 = .ok (.lcmp, 1) := by decide +kernel
theorem d_M_isAhead_22 : decode c_M_isAhead 22 = .ok (.ifCond .eq 25, 3) := by decide +kernel
theorem d_M_isAhead_25 : decode c_M_isAhead 25 = .ok (.aload_n 0, 1) := by decide +kernel
theorem d_M_isAhead_26 : decode c_M_isAhead 26 = .ok (.iload_n 3, 1) := by decide +kernel
theorem d_M_isAhead_27 : decode c_M_isAhead 27 = .ok (.iload_n 1, 1) := by decide +kernel
theorem d_M_isAhead_28 : decode c_M_isAhead 28 = .ok (.invokevirtual 110, 3) := by decide +kernel
theorem d_M_isAhead_31 : decode c_M_isAhead 31 = .ok (.aload_n 0, 1) := by decide +kernel
theorem d_M_isAhead_32 : decode c_M_isAhead 32 = .ok (.iload_n 3, 1) := by decide +kernel
theorem d_M_isAhead_33 : decode c_M_isAhead 33 = .ok (.iload_n 2, 1) := by decide +kernel
theorem d_M_isAhead_34 : decode c_M_isAhead 34 = .ok (.invokevirtual 110, 3) := by decide +kernel
theorem d_M_isAhead_37 : decode c_M_isAhead 37 = .ok (.lcmp, 1) := by decide +kernel
theorem d_M_isAhead_38 : decode c_M_isAhead 38 = .ok (.ifCond .le 7, 3) := by decide +kernel
theorem d_M_isAhead_41 : decode c_M_isAhead 41 = .ok (.iconst 1, 1) := by decide +kernel
theorem d_M_isAhead_42 : decode c_M_isAhead 42 = .ok (.goto 4, 3) := by decide +kernel
theorem d_M_isAhead_45 : decode c_M_isAhead 45 = .ok (.iconst 0, 1) := by decide +kernel
theorem d_M_isAhead_46 : decode c_M_isAhead 46 = .ok (.ireturn, 1) := by decide +kernel
theorem d_M_isAhead_47 : decode c_M_isAhead 47 = .ok (.iinc 3 (-1), 3) := by decide +kernel
theorem d_M_isAhead_50 : decode c_M_isAhead 50 = .ok (.goto (-45), 3) := by decide +kernel
theorem d_M_isAhead_53 : decode c_M_isAhead 53 = .ok (.aload_n 0, 1) := by decide +kernel
theorem d_M_isAhead_54 : decode c_M_isAhead 54 = .ok (.getfield 16, 3) := by decide +kernel
theorem d_M_isAhead_57 : decode c_M_isAhead 57 = .ok (.iload_n 1, 1) := by decide +kernel
theorem d_M_isAhead_58 : decode c_M_isAhead 58 = .ok (.iaload, 1) := by decide +kernel
theorem d_M_isAhead_59 : decode c_M_isAhead 59 = .ok (.aload_n 0, 1) := by decide +kernel
theorem d_M_isAhead_60 : decode c_M_isAhead 60 = .ok (.getfield 16, 3) := by decide +kernel
theorem d_M_isAhead_63 : decode c_M_isAhead 63 = .ok (.iload_n 2, 1) := by decide +kernel
theorem d_M_isAhead_64 : decode c_M_isAhead 64 = .ok (.iaload, 1) := by decide +kernel
theorem d_M_isAhead_65 : decode c_M_isAhead 65 = .ok (.if_icmp .ge 7, 3) := by decide +kernel
theorem d_M_isAhead_68 : decode c_M_isAhead 68 = .ok (.iconst 1, 1) := by decide +kernel
theorem d_M_isAhead_69 : decode c_M_isAhead 69 = .ok (.goto 4, 3) := by decide +kernel
theorem d_M_isAhead_72 : decode c_M_isAhead 72 = .ok (.iconst 0, 1) := by decide +kernel
theorem d_M_isAhead_73 : decode c_M_isAhead 73 = .ok (.ireturn, 1) := by decide +kernel
theorem d_M_first_0 : decode c_M_first 0 = .ok (.iconst (-1), 1) := by decide +kernel
theorem d_M_first_1 : decode c_M_first 1 = .ok (.istore_n 3, 1) := by decide +kernel
theorem d_M_first_2 : decode c_M_first 2 = .ok (.iconst 0, 1) := by decide +kernel
theorem d_M_first_3 : decode c_M_first 3 = .ok (.istore 4, 2) := by decide +kernel
theorem d_M_first_5 : decode c_M_first 5 = .ok (.iload 4, 2) := by decide +kernel
theorem d_M_first_7 : decode c_M_first 7 = .ok (.aload_n 0, 1) := by decide +kernel
theorem d_M_first_8 : decode c_M_first 8 = .ok (.getfield 7, 3) := by decide +kernel
theorem d_M_first_11 : decode c_M_first 11 = .ok (.if_icmp .ge 87, 3) := by decide +kernel
theorem d_M_first_14 : decode c_M_first 14 = .ok (.iload_n 1, 1) := by decide +kernel
theorem d_M_first_15 : decode c_M_first 15 = .ok (.ifCond .eq 16, 3) := by decide +kernel
theorem d_M_first_18 : decode c_M_first 18 = .ok (.aload_n 0, 1) := by decide +kernel
theorem d_M_first_19 : decode c_M_first 19 = .ok (.getfield 20, 3) := by decide +kernel
theorem d_M_first_22 : decode c_M_first 22 = .ok (.iload 4, 2) := by decide +kernel
theorem d_M_first_24 : decode c_M_first 24 = .ok (.iaload, 1) := by decide +kernel
theorem d_M_first_25 : decode c_M_first 25 = .ok (.ifCond .ne 42, 3) := by decide +kernel
theorem d_M_first_28 : decode c_M_first 28 = .ok (.goto 13, 3) := by decide +kernel
theorem d_M_first_31 : decode c_M_first 31 = .ok (.aload_n 0, 1) := by decide +kernel
theorem d_M_first_32 : decode c_M_first 32 = .ok (.getfield 20, 3) := by decide +kernel
theorem d_M_first_35 : decode c_M_first 35 = .ok (.iload 4, 2) := by decide +kernel
theorem d_M_first_37 : decode c_M_first 37 = .ok (.iaload, 1) := by decide +kernel
theorem d_M_first_38 : decode c_M_first 38 = .ok (.ifCond .le 29, 3) := by decide +kernel
theorem d_M_first_41 : decode c_M_first 41 = .ok (.iload_n 2, 1) := by decide +kernel
theorem d_M_first_42 : decode c_M_first 42 = .ok (.ifCond .eq 21, 3) := by decide +kernel
theorem d_M_first_45 : decode c_M_first 45 = .ok (.aload_n 0, 1) := by decide +kernel
theorem d_M_first_46 : decode c_M_first 46 = .ok (.aload_n 0, 1) := by decide +kernel
theorem d_M_first_47 : decode c_M_first 47 = .ok (.getfield 47, 3) := by decide +kernel
theorem d_M_first_50 : decode c_M_first 50 = .ok (.iload 4, 2) := by decide +kernel
theorem d_M_first_52 : decode c_M_first 52 = .ok (.invokevirtual 110, 3) := by decide +kernel
theorem d_M_first_55 : decode c_M_first 55 = .ok (.aload_n 0, 1) := by decide +kernel
theorem d_M_first_56 : decode c_M_first 56 = .ok (.invokevirtual 106, 3) := by decide +kernel
theorem d_M_first_59 : decode c_M_first 59 = .ok (.lcmp, 1) := by decide +kernel
theorem d_M_first_60 : decode c_M_first 60 = .ok (.ifCond .le 7, 3) := by decide +kernel
theorem d_M_first_63 : decode c_M_first 63 = .ok (.iconst 1, 1) := by decide +kernel
theorem d_M_first_64 : decode c_M_first 64 = .ok (.goto 4, 3) := by decide +kernel
theorem d_M_first_67 : decode c_M_first 67 = .ok (.iconst 0, 1) := by decide +kernel
theorem d_M_first_68 : decode c_M_first 68 = .ok (.istore 5, 2) := by decide +kernel
theorem d_M_first_70 : decode c_M_first 70 = .ok (.iload 5, 2) := by decide +kernel
theorem d_M_first_72 : decode c_M_first 72 = .ok (.ifCond .eq 20, 3) := by decide +kernel
theorem d_M_first_75 : decode c_M_first 75 = .ok (.iload_n 3, 1) := by decide +kernel
theorem d_M_first_76 : decode c_M_first 76 = .ok (.ifCond .lt 13, 3) := by decide +kernel
theorem d_M_first_79 : decode c_M_first 79 = .ok (.aload_n 0, 1) := by decide +kernel
theorem d_M_first_80 : decode c_M_first 80 = .ok (.iload 4, 2) := by decide +kernel
theorem d_M_first_82 : decode c_M_first 82 = .ok (.iload_n 3, 1) := by decide +kernel
theorem d_M_first_83 : decode c_M_first 83 = .ok (.invokevirtual 114, 3) := by decide +kernel
theorem d_M_first_86 : decode c_M_first 86 = .ok (.ifCond .eq 6, 3) := by decide +kernel
theorem d_M_first_89 : decode c_M_first 89 = .ok (.iload 4, 2) := by decide +kernel
theorem d_M_first_91 : decode c_M_first 91 = .ok (.istore_n 3, 1) := by decide +kernel
theorem d_M_first_92 : decode c_M_first 92 = .ok (.iinc 4 1, 3) := by decide +kernel
theorem d_M_first_95 : decode c_M_first 95 = .ok (.goto (-90), 3) := by decide +kernel
theorem d_M_first_98 : decode c_M_first 98 = .ok (.iload_n 3, 1) := by decide +kernel
theorem d_M_first_99 : decode c_M_first 99 = .ok (.ireturn, 1) := by decide +kernel
theorem d_M_last_0 : decode c_M_last 0 = .ok (.iconst (-1), 1) := by decide +kernel
theorem d_M_last_1 : decode c_M_last 1 = .ok (.istore_n 1, 1) := by decide +kernel
theorem d_M_last_2 : decode c_M_last 2 = .ok (.iconst 0, 1) := by decide +kernel
theorem d_M_last_3 : decode c_M_last 3 = .ok (.istore_n 2, 1) := by decide +kernel
theorem d_M_last_4 : decode c_M_last 4 = .ok (.iload_n 2, 1) := by decide +kernel
theorem d_M_last_5 : decode c_M_last 5 = .ok (.aload_n 0, 1) := by decide +kernel
theorem d_M_last_6 : decode c_M_last 6 = .ok (.getfield 7, 3) := by decide +kernel
theorem d_M_last_9 : decode c_M_last 9 = .ok (.if_icmp .ge 33, 3) := by decide +kernel
theorem d_M_last_12 : decode c_M_last 12 = .ok (.aload_n 0, 1) := by decide +kernel
theorem d_M_last_13 : decode c_M_last 13 = .ok (.getfield 20, 3) := by decide +kernel
theorem d_M_last_16 : decode c_M_last 16 = .ok (.iload_n 2, 1) := by decide +kernel
theorem d_M_last_17 : decode c_M_last 17 = .ok (.iaload, 1) := by decide +kernel
theorem d_M_last_18 : decode c_M_last 18 = .ok (.ifCond .ne 18, 3) := by decide +kernel
theorem d_M_last_21 : decode c_M_last 21 = .ok (.iload_n 1, 1) := by decide +kernel
theorem d_M_last_22 : decode c_M_last 22 = .ok (.ifCond .lt 12, 3) := by decide +kernel
theorem d_M_last_25 : decode c_M_last 25 = .ok (.aload_n 0, 1) := by decide +kernel
theorem d_M_last_26 : decode c_M_last 26 = .ok (.iload_n 1, 1) := by decide +kernel
theorem d_M_last_27 : decode c_M_last 27 = .ok (.iload_n 2, 1) := by decide +kernel
theorem d_M_last_28 : decode c_M_last 28 = .ok (.invokevirtual 114, 3) := by decide +kernel
theorem d_M_last_31 : decode c_M_last 31 = .ok (.ifCond .eq 5, 3) := by decide +kernel
theorem d_M_last_34 : decode c_M_last 34 = .ok (.iload_n 2, 1) := by decide +kernel
theorem d_M_last_35 : decode c_M_last 35 = .ok (.istore_n 1, 1) := by decide +kernel
theorem d_M_last_36 : decode c_M_last 36 = .ok (.iinc 2 1, 3) := by decide +kernel
theorem d_M_last_39 : decode c_M_last 39 = .ok (.goto (-35), 3) := by decide +kernel
theorem d_M_last_42 : decode c_M_last 42 = .ok (.iload_n 1, 1) := by decide +kernel
theorem d_M_last_43 : decode c_M_last 43 = .ok (.ireturn, 1) := by decide +kernel
theorem d_M_elect_0 : decode c_M_elect 0 = .ok (.aload_n 0, 1) := by decide +kernel
theorem d_M_elect_1 : decode c_M_elect 1 = .ok (.dup, 1) := by decide +kernel
theorem d_M_elect_2 : decode c_M_elect 2 = .ok (.getfield 66, 3) := by decide +kernel
theorem d_M_elect_5 : decode c_M_elect 5 = .ok (.iconst 1, 1) := by decide +kernel
theorem d_M_elect_6 : decode c_M_elect 6 = .ok (.iadd, 1) := by decide +kernel
theorem d_M_elect_7 : decode c_M_elect 7 = .ok (.putfield 66, 3) := by decide +kernel
theorem d_M_elect_10 : decode c_M_elect 10 = .ok (.aload_n 0, 1) := by decide +kernel
theorem d_M_elect_11 : decode c_M_elect 11 = .ok (.getfield 20, 3) := by decide +kernel
theorem d_M_elect_14 : decode c_M_elect 14 = .ok (.iload_n 1, 1) := by decide +kernel
theorem d_M_elect_15 : decode c_M_elect 15 = .ok (.aload_n 0, 1) := by decide +kernel
theorem d_M_elect_16 : decode c_M_elect 16 = .ok (.getfield 66, 3) := by decide +kernel
theorem d_M_elect_19 : decode c_M_elect 19 = .ok (.iastore, 1) := by decide +kernel
theorem d_M_elect_20 : decode c_M_elect 20 = .ok (.return_, 1) := by decide +kernel
theorem d_M_endStage_0 : decode c_M_endStage 0 = .ok (.aload_n 0, 1) := by decide +kernel
theorem d_M_endStage_1 : decode c_M_endStage 1 = .ok (.invokevirtual 118, 3) := by decide +kernel
theorem d_M_endStage_4 : decode c_M_endStage 4 = .ok (.aload_n 0, 1) := by decide +kernel
theorem d_M_endStage_5 : decode c_M_endStage 5 = .ok (.getfield 53, 3) := by decide +kernel
theorem d_M_endStage_8 : decode c_M_endStage 8 = .ok (.aload_n 0, 1) := by decide +kernel
theorem d_M_endStage_9 : decode c_M_endStage 9 = .ok (.getfield 47, 3) := by decide +kernel
theorem d_M_endStage_12 : decode c_M_endStage 12 = .ok (.aload_n 0, 1) := by decide +kernel
theorem d_M_endStage_13 : decode c_M_endStage 13 = .ok (.getfield 43, 3) := by decide +kernel
theorem d_M_endStage_16 : decode c_M_endStage 16 = .ok (.lastore, 1) := by decide +kernel
theorem d_M_endStage_17 : decode c_M_endStage 17 = .ok (.iconst 0, 1) := by decide +kernel
theorem d_M_endStage_18 : decode c_M_endStage 18 = .ok (.istore_n 1, 1) := by decide +kernel
theorem d_M_endStage_19 : decode c_M_endStage 19 = .ok (.iload_n 1, 1) := by decide +kernel
theorem d_M_endStage_20 : decode c_M_endStage 20 = .ok (.bipush 13, 2) := by decide +kernel
theorem d_M_endStage_22 : decode c_M_endStage 22 = .ok (.if_icmp .ge 46, 3) := by decide +kernel
theorem d_M_endStage_25 : decode c_M_endStage 25 = .ok (.aload_n 0, 1) := by decide +kernel
theorem d_M_endStage_26 : decode c_M_endStage 26 = .ok (.getfield 50, 3) := by decide +kernel
theorem d_M_endStage_29 : decode c_M_endStage 29 = .ok (.bipush 13, 2) := by decide +kernel
theorem d_M_endStage_31 : decode c_M_endStage 31 = .ok (.aload_n 0, 1) := by decide +kernel
theorem d_M_endStage_32 : decode c_M_endStage 32 = .ok (.getfield 47, 3) := by decide +kernel
theorem d_M_endStage_35 : decode c_M_endStage 35 = .ok (.imul, 1) := by decide +kernel
theorem d_M_endStage_36 : decode c_M_endStage 36 = .ok (.iload_n 1, 1) := by decide +kernel
theorem d_M_endStage_37 : decode c_M_endStage 37 = .ok (.iadd, 1) := by decide +kernel
theorem d_M_endStage_38 : decode c_M_endStage 38 = .ok (.iload_n 1, 1) := by decide +kernel
theorem d_M_endStage_39 : decode c_M_endStage 39 = .ok (.aload_n 0, 1) := by decide +kernel
theorem d_M_endStage_40 : decode c_M_endStage 40 = .ok (.getfield 7, 3) := by decide +kernel
theorem d_M_endStage_43 : decode c_M_endStage 43 = .ok (.if_icmp .lt 9, 3) := by decide +kernel
theorem d_M_endStage_46 : decode c_M_endStage 46 = .ok (.iload_n 1, 1) := by decide +kernel
theorem d_M_endStage_47 : decode c_M_endStage 47 = .ok (.bipush 12, 2) := by decide +kernel
theorem d_M_endStage_49 : decode c_M_endStage 49 = .ok (.if_icmp .ne 11, 3) := by decide +kernel
theorem d_M_endStage_52 : decode c_M_endStage 52 = .ok (.aload_n 0, 1) := by decide +kernel
theorem d_M_endStage_53 : decode c_M_endStage 53 = .ok (.iload_n 1, 1) := by decide +kernel
theorem d_M_endStage_54 : decode c_M_endStage 54 = .ok (.invokevirtual 121, 3) := by decide +kernel
theorem d_M_endStage_57 : decode c_M_endStage 57 = .ok (.goto 4, 3) := by decide +kernel
theorem d_M_endStage_60 : decode c_M_endStage 60 = .ok (.lconst 0, 1) := by decide +kernel
theorem d_M_endStage_61 : decode c_M_endStage 61 = .ok (.lastore, 1) := by decide +kernel
theorem d_M_endStage_62 : decode c_M_endStage 62 = .ok (.iinc 1 1, 3) := by decide +kernel
theorem d_M_endStage_65 : decode c_M_endStage 65 = .ok (.goto (-46), 3) := by decide +kernel
theorem d_M_endStage_68 : decode c_M_endStage 68 = .ok (.aload_n 0, 1) := by decide +kernel
theorem d_M_endStage_69 : decode c_M_endStage 69 = .ok (.iconst 1, 1) := by decide +kernel
theorem d_M_endStage_70 : decode c_M_endStage 70 = .ok (.iconst 1, 1) := by decide +kernel
theorem d_M_endStage_71 : decode c_M_endStage 71 = .ok (.invokevirtual 125, 3) := by decide +kernel
theorem d_M_endStage_74 : decode c_M_endStage 74 = .ok (.istore_n 1, 1) := by decide +kernel
theorem d_M_endStage_75 : decode c_M_endStage 75 = .ok (.iload_n 1, 1) := by decide +kernel
theorem d_M_endStage_76 : decode c_M_endStage 76 = .ok (.ifCond .lt 18, 3) := by decide +kernel
theorem d_M_endStage_79 : decode c_M_endStage 79 = .ok (.aload_n 0, 1) := by decide +kernel
theorem d_M_endStage_80 : decode c_M_endStage 80 = .ok (.iload_n 1, 1) := by decide +kernel
theorem d_M_endStage_81 : decode c_M_endStage 81 = .ok (.invokevirtual 129, 3) := by decide +kernel
theorem d_M_endStage_84 : decode c_M_endStage 84 = .ok (.aload_n 0, 1) := by decide +kernel
theorem d_M_endStage_85 : decode c_M_endStage 85 = .ok (.iconst 1, 1) := by decide +kernel
theorem d_M_endStage_86 : decode c_M_endStage 86 = .ok (.iconst 1, 1) := by decide +kernel
theorem d_M_endStage_87 : decode c_M_endStage 87 = .ok (.invokevirtual 125, 3) := by decide +kernel
theorem d_M_endStage_90 : decode c_M_endStage 90 = .ok (.istore_n 1, 1) := by decide +kernel
theorem d_M_endStage_91 : decode c_M_endStage 91 = .ok (.goto (-16), 3) := by decide +kernel
theorem d_M_endStage_94 : decode c_M_endStage 94 = .ok (.aload_n 0, 1) := by decide +kernel
theorem d_M_endStage_95 : decode c_M_endStage 95 = .ok (.getfield 66, 3) := by decide +kernel
theorem d_M_endStage_98 : decode c_M_endStage 98 = .ok (.aload_n 0, 1) := by decide +kernel
theorem d_M_endStage_99 : decode c_M_endStage 99 = .ok (.getfield 13, 3) := by decide +kernel
theorem d_M_endStage_102 : decode c_M_endStage 102 = .ok (.if_icmp .ge 45, 3) := by decide +kernel
theorem d_M_endStage_105 : decode c_M_endStage 105 = .ok (.aload_n 0, 1) := by decide +kernel
theorem d_M_endStage_106 : decode c_M_endStage 106 = .ok (.getfield 66, 3) := by decide +kernel
theorem d_M_endStage_109 : decode c_M_endStage 109 = .ok (.aload_n 0, 1) := by decide +kernel
theorem d_M_endStage_110 : decode c_M_endStage 110 = .ok (.invokevirtual 86, 3) := by decide +kernel
theorem d_M_endStage_113 : decode c_M_endStage 113 = .ok (.iadd, 1) := by decide +kernel
theorem d_M_endStage_114 : decode c_M_endStage 114 = .ok (.aload_n 0, 1) := by decide +kernel
theorem d_M_endStage_115 : decode c_M_endStage 115 = .ok (.getfield 13, 3) := by decide +kernel
theorem d_M_endStage_118 : decode c_M_endStage 118 = .ok (.if_icmp .gt 29, 3) := by decide +kernel
theorem d_M_endStage_121 : decode c_M_endStage 121 = .ok (.aload_n 0, 1) := by decide +kernel
theorem d_M_endStage_122 : decode c_M_endStage 122 = .ok (.iconst 1, 1) := by decide +kernel
theorem d_M_endStage_123 : decode c_M_endStage 123 = .ok (.iconst 0, 1) := by decide +kernel
theorem d_M_endStage_124 : decode c_M_endStage 124 = .ok (.invokevirtual 125, 3) := by decide +kernel
theorem d_M_endStage_127 : decode c_M_endStage 127 = .ok (.istore_n 1, 1) := by decide +kernel
theorem d_M_endStage_128 : decode c_M_endStage 128 = .ok (.iload_n 1, 1) := by decide +kernel
theorem d_M_endStage_129 : decode c_M_endStage 129 = .ok (.ifCond .lt 18, 3) := by decide +kernel
theorem d_M_endStage_132 : decode c_M_endStage 132 = .ok (.aload_n 0, 1) := by decide +kernel
theorem d_M_endStage_133 : decode c_M_endStage 133 = .ok (.iload_n 1, 1) := by decide +kernel
theorem d_M_endStage_134 : decode c_M_endStage 134 = .ok (.invokevirtual 129, 3) := by decide +kernel
theorem d_M_endStage_137 : decode c_M_endStage 137 = .ok (.aload_n 0, 1) := by decide +kernel
theorem d_M_endStage_138 : decode c_M_endStage 138 = .ok (.iconst 1, 1) := by decide +kernel
theorem d_M_endStage_139 : decode c_M_endStage 139 = .ok (.iconst 0, 1) := by decide +kernel
theorem d_M_endStage_140 : decode c_M_endStage 140 = .ok (.invokevirtual 125, 3) := by decide +kernel
theorem d_M_endStage_143 : decode c_M_endStage 143 = .ok (.istore_n 1, 1) := by decide +kernel
theorem d_M_endStage_144 : decode c_M_endStage 144 = .ok (.goto (-16), 3) := by decide +kernel
theorem d_M_endStage_147 : decode c_M_endStage 147 = .ok (.aload_n 0, 1) := by decide +kernel
theorem d_M_endStage_148 : decode c_M_endStage 148 = .ok (.aload_n 0, 1) := by decide +kernel
theorem d_M_endStage_149 : decode c_M_endStage 149 = .ok (.getfield 66, 3) := by decide +kernel
theorem d_M_endStage_152 : decode c_M_endStage 152 = .ok (.aload_n 0, 1) := by decide +kernel
theorem d_M_endStage_153 : decode c_M_endStage 153 = .ok (.getfield 13, 3) := by decide +kernel
theorem d_M_endStage_156 : decode c_M_endStage 156 = .ok (.if_icmp .ge 10, 3) := by decide +kernel
theorem d_M_endStage_159 : decode c_M_endStage 159 = .ok (.aload_n 0, 1) := by decide +kernel
theorem d_M_endStage_160 : decode c_M_endStage 160 = .ok (.invokevirtual 86, 3) := by decide +kernel
theorem d_M_endStage_163 : decode c_M_endStage 163 = .ok (.ifCond .ne 7, 3) := by decide +kernel
theorem d_M_endStage_166 : decode c_M_endStage 166 = .ok (.iconst 1, 1) := by decide +kernel
theorem d_M_endStage_167 : decode c_M_endStage 167 = .ok (.goto 4, 3) := by decide +kernel
theorem d_M_endStage_170 : decode c_M_endStage 170 = .ok (.iconst 0, 1) := by decide +kernel
theorem d_M_endStage_171 : decode c_M_endStage 171 = .ok (.putfield 75, 3) := by decide +kernel
theorem d_M_endStage_174 : decode c_M_endStage 174 = .ok (.return_, 1) := by decide +kernel
theorem d_M_open_0 : decode c_M_open 0 = .ok (.aload_n 0, 1) := by decide +kernel
theorem d_M_open_1 : decode c_M_open 1 = .ok (.aload_n 0, 1) := by decide +kernel
theorem d_M_open_2 : decode c_M_open 2 = .ok (.getfield 47, 3) := by decide +kernel
theorem d_M_open_5 : decode c_M_open 5 = .ok (.ifCond .ge 10, 3) := by decide +kernel
theorem d_M_open_8 : decode c_M_open 8 = .ok (.aload_n 0, 1) := by decide +kernel
theorem d_M_open_9 : decode c_M_open 9 = .ok (.getfield 72, 3) := by decide +kernel
theorem d_M_open_12 : decode c_M_open 12 = .ok (.ifCond .ne 7, 3) := by decide +kernel
theorem d_M_open_15 : decode c_M_open 15 = .ok (.iconst 1, 1) := by decide +kernel
theorem d_M_open_16 : decode c_M_open 16 = .ok (.goto 4, 3) := by decide +kernel
theorem d_M_open_19 : decode c_M_open 19 = .ok (.iconst 0, 1) := by decide +kernel
theorem d_M_open_20 : decode c_M_open 20 = .ok (.invokevirtual 79, 3) := by decide +kernel
theorem d_M_open_23 : decode c_M_open 23 = .ok (.ifCond .ne 5, 3) := by decide +kernel
theorem d_M_open_26 : decode c_M_open 26 = .ok (.iconst 0, 1) := by decide +kernel
theorem d_M_open_27 : decode c_M_open 27 = .ok (.ireturn, 1) := by decide +kernel
theorem d_M_open_28 : decode c_M_open 28 = .ok (.aload_n 0, 1) := by decide +kernel
theorem d_M_open_29 : decode c_M_open 29 = .ok (.invokevirtual 132, 3) := by decide +kernel
theorem d_M_open_32 : decode c_M_open 32 = .ok (.aload_n 0, 1) := by decide +kernel
theorem d_M_open_33 : decode c_M_open 33 = .ok (.aload_n 0, 1) := by decide +kernel
theorem d_M_open_34 : decode c_M_open 34 = .ok (.getfield 13, 3) := by decide +kernel
theorem d_M_open_37 : decode c_M_open 37 = .ok (.iconst 1, 1) := by decide +kernel
theorem d_M_open_38 : decode c_M_open 38 = .ok (.iadd, 1) := by decide +kernel
theorem d_M_open_39 : decode c_M_open 39 = .ok (.i2l, 1) := by decide +kernel
theorem d_M_open_40 : decode c_M_open 40 = .ok (.putfield 43, 3) := by decide +kernel
theorem d_M_open_43 : decode c_M_open 43 = .ok (.iconst 0, 1) := by decide +kernel
theorem d_M_open_44 : decode c_M_open 44 = .ok (.istore_n 1, 1) := by decide +kernel
theorem d_M_open_45 : decode c_M_open 45 = .ok (.iload_n 1, 1) := by decide +kernel
theorem d_M_open_46 : decode c_M_open 46 = .ok (.aload_n 0, 1) := by decide +kernel
theorem d_M_open_47 : decode c_M_open 47 = .ok (.getfield 72, 3) := by decide +kernel
theorem d_M_open_50 : decode c_M_open 50 = .ok (.if_icmp .ge 25, 3) := by decide +kernel
theorem d_M_open_53 : decode c_M_open 53 = .ok (.aload_n 0, 1) := by decide +kernel
theorem d_M_open_54 : decode c_M_open 54 = .ok (.getfield 35, 3) := by decide +kernel
theorem d_M_open_57 : decode c_M_open 57 = .ok (.iload_n 1, 1) := by decide +kernel
theorem d_M_open_58 : decode c_M_open 58 = .ok (.aload_n 0, 1) := by decide +kernel
theorem d_M_open_59 : decode c_M_open 59 = .ok (.getfield 43, 3) := by decide +kernel
theorem d_M_open_62 : decode c_M_open 62 = .ok (.lastore, 1) := by decide +kernel
theorem d_M_open_63 : decode c_M_open 63 = .ok (.aload_n 0, 1) := by decide +kernel
theorem d_M_open_64 : decode c_M_open 64 = .ok (.iload_n 1, 1) := by decide +kernel
theorem d_M_open_65 : decode c_M_open 65 = .ok (.iconst 0, 1) := by decide +kernel
theorem d_M_open_66 : decode c_M_open 66 = .ok (.invokevirtual 135, 3) := by decide +kernel
theorem d_M_open_69 : decode c_M_open 69 = .ok (.iinc 1 1, 3) := by decide +kernel
theorem d_M_open_72 : decode c_M_open 72 = .ok (.goto (-27), 3) := by decide +kernel
theorem d_M_open_75 : decode c_M_open 75 = .ok (.aload_n 0, 1) := by decide +kernel
theorem d_M_open_76 : decode c_M_open 76 = .ok (.invokevirtual 138, 3) := by decide +kernel
theorem d_M_open_79 : decode c_M_open 79 = .ok (.aload_n 0, 1) := by decide +kernel
theorem d_M_open_80 : decode c_M_open 80 = .ok (.getfield 72, 3) := by decide +kernel
theorem d_M_open_83 : decode c_M_open 83 = .ok (.aload_n 0, 1) := by decide +kernel
theorem d_M_open_84 : decode c_M_open 84 = .ok (.getfield 72, 3) := by decide +kernel
theorem d_M_open_87 : decode c_M_open 87 = .ok (.i2l, 1) := by decide +kernel
theorem d_M_open_88 : decode c_M_open 88 = .ok (.aload_n 0, 1) := by decide +kernel
theorem d_M_open_89 : decode c_M_open 89 = .ok (.getfield 13, 3) := by decide +kernel
theorem d_M_open_92 : decode c_M_open 92 = .ok (.iconst 1, 1) := by decide +kernel
theorem d_M_open_93 : decode c_M_open 93 = .ok (.iadd, 1) := by decide +kernel
theorem d_M_open_94 : decode c_M_open 94 = .ok (.i2l, 1) := by decide +kernel
theorem d_M_open_95 : decode c_M_open 95 = .ok (.invokestatic 102, 3) := by decide +kernel
theorem d_M_open_98 : decode c_M_open 98 = .ok (.l2i, 1) := by decide +kernel
theorem d_M_open_99 : decode c_M_open 99 = .ok (.idiv, 1) := by decide +kernel
theorem d_M_open_100 : decode c_M_open 100 = .ok (.ireturn, 1) := by decide +kernel
theorem d_M_step_0 : decode c_M_step 0 = .ok (.aload_n 0, 1) := by decide +kernel
theorem d_M_step_1 : decode c_M_step 1 = .ok (.aload_n 0, 1) := by decide +kernel
theorem d_M_step_2 : decode c_M_step 2 = .ok (.getfield 47, 3) := by decide +kernel
theorem d_M_step_5 : decode c_M_step 5 = .ok (.ifCond .lt 10, 3) := by decide +kernel
theorem d_M_step_8 : decode c_M_step 8 = .ok (.aload_n 0, 1) := by decide +kernel
theorem d_M_step_9 : decode c_M_step 9 = .ok (.getfield 75, 3) := by decide +kernel
theorem d_M_step_12 : decode c_M_step 12 = .ok (.ifCond .eq 7, 3) := by decide +kernel
theorem d_M_step_15 : decode c_M_step 15 = .ok (.iconst 1, 1) := by decide +kernel
theorem d_M_step_16 : decode c_M_step 16 = .ok (.goto 4, 3) := by decide +kernel
theorem d_M_step_19 : decode c_M_step 19 = .ok (.iconst 0, 1) := by decide +kernel
theorem d_M_step_20 : decode c_M_step 20 = .ok (.invokevirtual 79, 3) := by decide +kernel
theorem d_M_step_23 : decode c_M_step 23 = .ok (.ifCond .ne 5, 3) := by decide +kernel
theorem d_M_step_26 : decode c_M_step 26 = .ok (.iconst 0, 1) := by decide +kernel
theorem d_M_step_27 : decode c_M_step 27 = .ok (.ireturn, 1) := by decide +kernel
theorem d_M_step_28 : decode c_M_step 28 = .ok (.aload_n 0, 1) := by decide +kernel
theorem d_M_step_29 : decode c_M_step 29 = .ok (.iconst 0, 1) := by decide +kernel
theorem d_M_step_30 : decode c_M_step 30 = .ok (.iconst 1, 1) := by decide +kernel
theorem d_M_step_31 : decode c_M_step 31 = .ok (.invokevirtual 125, 3) := by decide +kernel
theorem d_M_step_34 : decode c_M_step 34 = .ok (.istore_n 1, 1) := by decide +kernel
theorem d_M_step_35 : decode c_M_step 35 = .ok (.iload_n 1, 1) := by decide +kernel
theorem d_M_step_36 : decode c_M_step 36 = .ok (.ifCond .lt 7, 3) := by decide +kernel
theorem d_M_step_39 : decode c_M_step 39 = .ok (.iconst 1, 1) := by decide +kernel
theorem d_M_step_40 : decode c_M_step 40 = .ok (.goto 4, 3) := by decide +kernel
theorem d_M_step_43 : decode c_M_step 43 = .ok (.iconst 0, 1) := by decide +kernel
theorem d_M_step_44 : decode c_M_step 44 = .ok (.istore_n 2, 1) := by decide +kernel
theorem d_M_step_45 : decode c_M_step 45 = .ok (.iload_n 2, 1) := by decide +kernel
theorem d_M_step_46 : decode c_M_step 46 = .ok (.ifCond .eq 11, 3) := by decide +kernel
theorem d_M_step_49 : decode c_M_step 49 = .ok (.aload_n 0, 1) := by decide +kernel
theorem d_M_step_50 : decode c_M_step 50 = .ok (.iload_n 1, 1) := by decide +kernel
theorem d_M_step_51 : decode c_M_step 51 = .ok (.invokevirtual 141, 3) := by decide +kernel
theorem d_M_step_54 : decode c_M_step 54 = .ok (.goto 8, 3) := by decide +kernel
theorem d_M_step_57 : decode c_M_step 57 = .ok (.aload_n 0, 1) := by decide +kernel
theorem d_M_step_58 : decode c_M_step 58 = .ok (.invokevirtual 144, 3) := by decide +kernel
theorem d_M_step_61 : decode c_M_step 61 = .ok (.istore_n 1, 1) := by decide +kernel
theorem d_M_step_62 : decode c_M_step 62 = .ok (.aload_n 0, 1) := by decide +kernel
theorem d_M_step_63 : decode c_M_step 63 = .ok (.invokevirtual 132, 3) := by decide +kernel
theorem d_M_step_66 : decode c_M_step 66 = .ok (.iload_n 2, 1) := by decide +kernel
theorem d_M_step_67 : decode c_M_step 67 = .ok (.ifCond .ne 8, 3) := by decide +kernel
theorem d_M_step_70 : decode c_M_step 70 = .ok (.aload_n 0, 1) := by decide +kernel
theorem d_M_step_71 : decode c_M_step 71 = .ok (.iload_n 1, 1) := by decide +kernel
theorem d_M_step_72 : decode c_M_step 72 = .ok (.invokevirtual 90, 3) := by decide +kernel
theorem d_M_step_75 : decode c_M_step 75 = .ok (.iconst 0, 1) := by decide +kernel
theorem d_M_step_76 : decode c_M_step 76 = .ok (.istore_n 3, 1) := by decide +kernel
theorem d_M_step_77 : decode c_M_step 77 = .ok (.iload_n 3, 1) := by decide +kernel
theorem d_M_step_78 : decode c_M_step 78 = .ok (.aload_n 0, 1) := by decide +kernel
theorem d_M_step_79 : decode c_M_step 79 = .ok (.getfield 72, 3) := by decide +kernel
theorem d_M_step_82 : decode c_M_step 82 = .ok (.if_icmp .ge 32, 3) := by decide +kernel
theorem d_M_step_85 : decode c_M_step 85 = .ok (.aload_n 0, 1) := by decide +kernel
theorem d_M_step_86 : decode c_M_step 86 = .ok (.getfield 32, 3) := by decide +kernel
theorem d_M_step_89 : decode c_M_step 89 = .ok (.iload_n 3, 1) := by decide +kernel
theorem d_M_step_90 : decode c_M_step 90 = .ok (.iaload, 1) := by decide +kernel
theorem d_M_step_91 : decode c_M_step 91 = .ok (.iload_n 1, 1) := by decide +kernel
theorem d_M_step_92 : decode c_M_step 92 = .ok (.if_icmp .ne 16, 3) := by decide +kernel
theorem d_M_step_95 : decode c_M_step 95 = .ok (.aload_n 0, 1) := by decide +kernel
theorem d_M_step_96 : decode c_M_step 96 = .ok (.iload_n 3, 1) := by decide +kernel
theorem d_M_step_97 : decode c_M_step 97 = .ok (.aload_n 0, 1) := by decide +kernel
theorem d_M_step_98 : decode c_M_step 98 = .ok (.getfield 29, 3) := by decide +kernel
theorem d_M_step_101 : decode c_M_step 101 = .ok (.iload_n 3, 1) := by decide +kernel
theorem d_M_step_102 : decode c_M_step 102 = .ok (.iaload, 1) := by decide +kernel
theorem d_M_step_103 : decode c_M_step 103 = .ok (.iconst 1, 1) := by decide +kernel
theorem d_M_step_104 : decode c_M_step 104 = .ok (.iadd, 1) := by decide +kernel
theorem d_M_step_105 : decode c_M_step 105 = .ok (.invokevirtual 135, 3) := by decide +kernel
theorem d_M_step_108 : decode c_M_step 108 = .ok (.iinc 3 1, 3) := by decide +kernel
theorem d_M_step_111 : decode c_M_step 111 = .ok (.goto (-34), 3) := by decide +kernel
theorem d_M_step_114 : decode c_M_step 114 = .ok (.aload_n 0, 1) := by decide +kernel
theorem d_M_step_115 : decode c_M_step 115 = .ok (.invokevirtual 138, 3) := by decide +kernel
theorem d_M_step_118 : decode c_M_step 118 = .ok (.iload_n 2, 1) := by decide +kernel
theorem d_M_step_119 : decode c_M_step 119 = .ok (.ifCond .eq 7, 3) := by decide +kernel
theorem d_M_step_122 : decode c_M_step 122 = .ok (.iload_n 1, 1) := by decide +kernel
theorem d_M_step_123 : decode c_M_step 123 = .ok (.goto 7, 3) := by decide +kernel
theorem d_M_step_126 : decode c_M_step 126 = .ok (.iload_n 1, 1) := by decide +kernel
theorem d_M_step_127 : decode c_M_step 127 = .ok (.bipush 16, 2) := by decide +kernel
theorem d_M_step_129 : decode c_M_step 129 = .ok (.iadd, 1) := by decide +kernel
theorem d_M_step_130 : decode c_M_step 130 = .ok (.ireturn, 1) := by decide +kernel
theorem d_M_pass_0 : decode c_M_pass 0 = .ok (.aload_n 0, 1) := by decide +kernel
theorem d_M_pass_1 : decode c_M_pass 1 = .ok (.aload_n 0, 1) := by decide +kernel
theorem d_M_pass_2 : decode c_M_pass 2 = .ok (.getfield 47, 3) := by decide +kernel
theorem d_M_pass_5 : decode c_M_pass 5 = .ok (.iload_n 1, 1) := by decide +kernel
theorem d_M_pass_6 : decode c_M_pass 6 = .ok (.invokevirtual 110, 3) := by decide +kernel
theorem d_M_pass_9 : decode c_M_pass 9 = .ok (.lstore_n 2, 1) := by decide +kernel
theorem d_M_pass_10 : decode c_M_pass 10 = .ok (.lload_n 2, 1) := by decide +kernel
theorem d_M_pass_11 : decode c_M_pass 11 = .ok (.aload_n 0, 1) := by decide +kernel
theorem d_M_pass_12 : decode c_M_pass 12 = .ok (.invokevirtual 106, 3) := by decide +kernel
theorem d_M_pass_15 : decode c_M_pass 15 = .ok (.lsub, 1) := by decide +kernel
theorem d_M_pass_16 : decode c_M_pass 16 = .ok (.lstore 4, 2) := by decide +kernel
theorem d_M_pass_18 : decode c_M_pass 18 = .ok (.lload_n 2, 1) := by decide +kernel
theorem d_M_pass_19 : decode c_M_pass 19 = .ok (.lload 4, 2) := by decide +kernel
theorem d_M_pass_21 : decode c_M_pass 21 = .ok (.invokestatic 102, 3) := by decide +kernel
theorem d_M_pass_24 : decode c_M_pass 24 = .ok (.lstore 6, 2) := by decide +kernel
theorem d_M_pass_26 : decode c_M_pass 26 = .ok (.lload_n 2, 1) := by decide +kernel
theorem d_M_pass_27 : decode c_M_pass 27 = .ok (.lload 6, 2) := by decide +kernel
theorem d_M_pass_29 : decode c_M_pass 29 = .ok (.ldiv, 1) := by decide +kernel
theorem d_M_pass_30 : decode c_M_pass 30 = .ok (.lstore 8, 2) := by decide +kernel
theorem d_M_pass_32 : decode c_M_pass 32 = .ok (.iconst 0, 1) := by decide +kernel
theorem d_M_pass_33 : decode c_M_pass 33 = .ok (.istore 10, 2) := by decide +kernel
theorem d_M_pass_35 : decode c_M_pass 35 = .ok (.iload 10, 2) := by decide +kernel
theorem d_M_pass_37 : decode c_M_pass 37 = .ok (.aload_n 0, 1) := by decide +kernel
theorem d_M_pass_38 : decode c_M_pass 38 = .ok (.getfield 72, 3) := by decide +kernel
theorem d_M_pass_41 : decode c_M_pass 41 = .ok (.if_icmp .ge 40, 3) := by decide +kernel
theorem d_M_pass_44 : decode c_M_pass 44 = .ok (.aload_n 0, 1) := by decide +kernel
theorem d_M_pass_45 : decode c_M_pass 45 = .ok (.getfield 35, 3) := by decide +kernel
theorem d_M_pass_48 : decode c_M_pass 48 = .ok (.iload 10, 2) := by decide +kernel
theorem d_M_pass_50 : decode c_M_pass 50 = .ok (.dup2, 1) := by decide +kernel
theorem d_M_pass_51 : decode c_M_pass 51 = .ok (.laload, 1) := by decide +kernel
theorem d_M_pass_52 : decode c_M_pass 52 = .ok (.aload_n 0, 1) := by decide +kernel
theorem d_M_pass_53 : decode c_M_pass 53 = .ok (.getfield 32, 3) := by decide +kernel
theorem d_M_pass_56 : decode c_M_pass 56 = .ok (.iload 10, 2) := by decide +kernel
theorem d_M_pass_58 : decode c_M_pass 58 = .ok (.iaload, 1) := by decide +kernel
theorem d_M_pass_59 : decode c_M_pass 59 = .ok (.iload_n 1, 1) := by decide +kernel
theorem d_M_pass_60 : decode c_M_pass 60 = .ok (.if_icmp .ne 11, 3) := by decide +kernel
theorem d_M_pass_63 : decode c_M_pass 63 = .ok (.lload 4, 2) := by decide +kernel
theorem d_M_pass_65 : decode c_M_pass 65 = .ok (.lload 6, 2) := by decide +kernel
theorem d_M_pass_67 : decode c_M_pass 67 = .ok (.ldiv, 1) := by decide +kernel
theorem d_M_pass_68 : decode c_M_pass 68 = .ok (.goto 5, 3) := by decide +kernel
theorem d_M_pass_71 : decode c_M_pass 71 = .ok (.lload 8, 2) := by decide +kernel
theorem d_M_pass_73 : decode c_M_pass 73 = .ok (.lmul, 1) := by decide +kernel
theorem d_M_pass_74 : decode c_M_pass 74 = .ok (.lastore, 1) := by decide +kernel
theorem d_M_pass_75 : decode c_M_pass 75 = .ok (.iinc 10 1, 3) := by decide +kernel
theorem d_M_pass_78 : decode c_M_pass 78 = .ok (.goto (-43), 3) := by decide +kernel
theorem d_M_pass_81 : decode c_M_pass 81 = .ok (.aload_n 0, 1) := by decide +kernel
theorem d_M_pass_82 : decode c_M_pass 82 = .ok (.dup, 1) := by decide +kernel
theorem d_M_pass_83 : decode c_M_pass 83 = .ok (.getfield 43, 3) := by decide +kernel
theorem d_M_pass_86 : decode c_M_pass 86 = .ok (.lload 8, 2) := by decide +kernel
theorem d_M_pass_88 : decode c_M_pass 88 = .ok (.lmul, 1) := by decide +kernel
theorem d_M_pass_89 : decode c_M_pass 89 = .ok (.putfield 43, 3) := by decide +kernel
theorem d_M_pass_92 : decode c_M_pass 92 = .ok (.aload_n 0, 1) := by decide +kernel
theorem d_M_pass_93 : decode c_M_pass 93 = .ok (.getfield 39, 3) := by decide +kernel
theorem d_M_pass_96 : decode c_M_pass 96 = .ok (.iload_n 1, 1) := by decide +kernel
theorem d_M_pass_97 : decode c_M_pass 97 = .ok (.iconst 1, 1) := by decide +kernel
theorem d_M_pass_98 : decode c_M_pass 98 = .ok (.bastore, 1) := by decide +kernel
theorem d_M_pass_99 : decode c_M_pass 99 = .ok (.return_, 1) := by decide +kernel
theorem d_M_over_0 : decode c_M_over 0 = .ok (.aload_n 0, 1) := by decide +kernel
theorem d_M_over_1 : decode c_M_over 1 = .ok (.iconst 0, 1) := by decide +kernel
theorem d_M_over_2 : decode c_M_over 2 = .ok (.putfield 63, 3) := by decide +kernel
theorem d_M_over_5 : decode c_M_over 5 = .ok (.aload_n 0, 1) := by decide +kernel
theorem d_M_over_6 : decode c_M_over 6 = .ok (.getfield 75, 3) := by decide +kernel
theorem d_M_over_9 : decode c_M_over 9 = .ok (.ireturn, 1) := by decide +kernel
theorem d_M_state_0 : decode c_M_state 0 = .ok (.aload_n 0, 1) := by decide +kernel
theorem d_M_state_1 : decode c_M_state 1 = .ok (.iconst 0, 1) := by decide +kernel
theorem d_M_state_2 : decode c_M_state 2 = .ok (.putfield 63, 3) := by decide +kernel
theorem d_M_state_5 : decode c_M_state 5 = .ok (.iload_n 1, 1) := by decide +kernel
theorem d_M_state_6 : decode c_M_state 6 = .ok (.tableswitch 116 0 7 #[46, 51, 56, 61, 96, 101, 106, 111], 46) := by decide +kernel
theorem d_M_state_52 : decode c_M_state 52 = .ok (.aload_n 0, 1) := by decide +kernel
theorem d_M_state_53 : decode c_M_state 53 = .ok (.getfield 7, 3) := by decide +kernel
theorem d_M_state_56 : decode c_M_state 56 = .ok (.ireturn, 1) := by decide +kernel
theorem d_M_state_57 : decode c_M_state 57 = .ok (.aload_n 0, 1) := by decide +kernel
theorem d_M_state_58 : decode c_M_state 58 = .ok (.getfield 13, 3) := by decide +kernel
theorem d_M_state_61 : decode c_M_state 61 = .ok (.ireturn, 1) := by decide +kernel
theorem d_M_state_62 : decode c_M_state 62 = .ok (.aload_n 0, 1) := by decide +kernel
theorem d_M_state_63 : decode c_M_state 63 = .ok (.getfield 72, 3) := by decide +kernel
theorem d_M_state_66 : decode c_M_state 66 = .ok (.ireturn, 1) := by decide +kernel
theorem d_M_state_67 : decode c_M_state 67 = .ok (.aload_n 0, 1) := by decide +kernel
theorem d_M_state_68 : decode c_M_state 68 = .ok (.getfield 47, 3) := by decide +kernel
theorem d_M_state_71 : decode c_M_state 71 = .ok (.ifCond .ge 7, 3) := by decide +kernel
theorem d_M_state_74 : decode c_M_state 74 = .ok (.iconst 0, 1) := by decide +kernel
theorem d_M_state_75 : decode c_M_state 75 = .ok (.goto 26, 3) := by decide +kernel
theorem d_M_state_78 : decode c_M_state 78 = .ok (.aload_n 0, 1) := by decide +kernel
theorem d_M_state_79 : decode c_M_state 79 = .ok (.getfield 13, 3) := by decide +kernel
theorem d_M_state_82 : decode c_M_state 82 = .ok (.iconst 1, 1) := by decide +kernel
theorem d_M_state_83 : decode c_M_state 83 = .ok (.iadd, 1) := by decide +kernel
theorem d_M_state_84 : decode c_M_state 84 = .ok (.aload_n 0, 1) := by decide +kernel
theorem d_M_state_85 : decode c_M_state 85 = .ok (.getfield 72, 3) := by decide +kernel
theorem d_M_state_88 : decode c_M_state 88 = .ok (.i2l, 1) := by decide +kernel
theorem d_M_state_89 : decode c_M_state 89 = .ok (.aload_n 0, 1) := by decide +kernel
theorem d_M_state_90 : decode c_M_state 90 = .ok (.getfield 13, 3) := by decide +kernel
theorem d_M_state_93 : decode c_M_state 93 = .ok (.iconst 1, 1) := by decide +kernel
theorem d_M_state_94 : decode c_M_state 94 = .ok (.iadd, 1) := by decide +kernel
theorem d_M_state_95 : decode c_M_state 95 = .ok (.i2l, 1) := by decide +kernel
theorem d_M_state_96 : decode c_M_state 96 = .ok (.invokestatic 102, 3) := by decide +kernel
theorem d_M_state_99 : decode c_M_state 99 = .ok (.l2i, 1) := by decide +kernel
theorem d_M_state_100 : decode c_M_state 100 = .ok (.idiv, 1) := by decide +kernel
theorem d_M_state_101 : decode c_M_state 101 = .ok (.ireturn, 1) := by decide +kernel
theorem d_M_state_102 : decode c_M_state 102 = .ok (.aload_n 0, 1) := by decide +kernel
theorem d_M_state_103 : decode c_M_state 103 = .ok (.getfield 47, 3) := by decide +kernel
theorem d_M_state_106 : decode c_M_state 106 = .ok (.ireturn, 1) := by decide +kernel
theorem d_M_state_107 : decode c_M_state 107 = .ok (.aload_n 0, 1) := by decide +kernel
theorem d_M_state_108 : decode c_M_state 108 = .ok (.getfield 66, 3) := by decide +kernel
theorem d_M_state_111 : decode c_M_state 111 = .ok (.ireturn, 1) := by decide +kernel
theorem d_M_state_112 : decode c_M_state 112 = .ok (.aload_n 0, 1) := by decide +kernel
theorem d_M_state_113 : decode c_M_state 113 = .ok (.getfield 69, 3) := by decide +kernel
theorem d_M_state_116 : decode c_M_state 116 = .ok (.ireturn, 1) := by decide +kernel
theorem d_M_state_117 : decode c_M_state 117 = .ok (.aload_n 0, 1) := by decide +kernel
theorem d_M_state_118 : decode c_M_state 118 = .ok (.invokevirtual 86, 3) := by decide +kernel
theorem d_M_state_121 : decode c_M_state 121 = .ok (.ireturn, 1) := by decide +kernel
theorem d_M_state_122 : decode c_M_state 122 = .ok (.iconst (-1), 1) := by decide +kernel
theorem d_M_state_123 : decode c_M_state 123 = .ok (.ireturn, 1) := by decide +kernel
theorem d_M_status_0 : decode c_M_status 0 = .ok (.aload_n 0, 1) := by decide +kernel
theorem d_M_status_1 : decode c_M_status 1 = .ok (.aload_n 0, 1) := by decide +kernel
theorem d_M_status_2 : decode c_M_status 2 = .ok (.iload_n 1, 1) := by decide +kernel
theorem d_M_status_3 : decode c_M_status 3 = .ok (.invokevirtual 83, 3) := by decide +kernel
theorem d_M_status_6 : decode c_M_status 6 = .ok (.ifCond .eq 7, 3) := by decide +kernel
theorem d_M_status_9 : decode c_M_status 9 = .ok (.iconst 0, 1) := by decide +kernel
theorem d_M_status_10 : decode c_M_status 10 = .ok (.goto 4, 3) := by decide +kernel
theorem d_M_status_13 : decode c_M_status 13 = .ok (.iconst 1, 1) := by decide +kernel
theorem d_M_status_14 : decode c_M_status 14 = .ok (.invokevirtual 79, 3) := by decide +kernel
theorem d_M_status_17 : decode c_M_status 17 = .ok (.ifCond .eq 12, 3) := by decide +kernel
theorem d_M_status_20 : decode c_M_status 20 = .ok (.aload_n 0, 1) := by decide +kernel
theorem d_M_status_21 : decode c_M_status 21 = .ok (.getfield 20, 3) := by decide +kernel
theorem d_M_status_24 : decode c_M_status 24 = .ok (.iload_n 1, 1) := by decide +kernel
theorem d_M_status_25 : decode c_M_status 25 = .ok (.iaload, 1) := by decide +kernel
theorem d_M_status_26 : decode c_M_status 26 = .ok (.goto 4, 3) := by decide +kernel
theorem d_M_status_29 : decode c_M_status 29 = .ok (.iconst 0, 1) := by decide +kernel
theorem d_M_status_30 : decode c_M_status 30 = .ok (.ireturn, 1) := by decide +kernel
theorem d_M_columnOf_0 : decode c_M_columnOf 0 = .ok (.iload_n 1, 1) := by decide +kernel
theorem d_M_columnOf_1 : decode c_M_columnOf 1 = .ok (.aload_n 0, 1) := by decide +kernel
theorem d_M_columnOf_2 : decode c_M_columnOf 2 = .ok (.getfield 7, 3) := by decide +kernel
theorem d_M_columnOf_5 : decode c_M_columnOf 5 = .ok (.if_icmp .ne 8, 3) := by decide +kernel
theorem d_M_columnOf_8 : decode c_M_columnOf 8 = .ok (.bipush 12, 2) := by decide +kernel
theorem d_M_columnOf_10 : decode c_M_columnOf 10 = .ok (.goto 16, 3) := by decide +kernel
theorem d_M_columnOf_13 : decode c_M_columnOf 13 = .ok (.aload_n 0, 1) := by decide +kernel
theorem d_M_columnOf_14 : decode c_M_columnOf 14 = .ok (.iload_n 1, 1) := by decide +kernel
theorem d_M_columnOf_15 : decode c_M_columnOf 15 = .ok (.invokevirtual 83, 3) := by decide +kernel
theorem d_M_columnOf_18 : decode c_M_columnOf 18 = .ok (.ifCond .eq 7, 3) := by decide +kernel
theorem d_M_columnOf_21 : decode c_M_columnOf 21 = .ok (.iload_n 1, 1) := by decide +kernel
theorem d_M_columnOf_22 : decode c_M_columnOf 22 = .ok (.goto 4, 3) := by decide +kernel
theorem d_M_columnOf_25 : decode c_M_columnOf 25 = .ok (.iconst (-1), 1) := by decide +kernel
theorem d_M_columnOf_26 : decode c_M_columnOf 26 = .ok (.ireturn, 1) := by decide +kernel
theorem d_M_total_0 : decode c_M_total 0 = .ok (.aload_n 0, 1) := by decide +kernel
theorem d_M_total_1 : decode c_M_total 1 = .ok (.iload_n 1, 1) := by decide +kernel
theorem d_M_total_2 : decode c_M_total 2 = .ok (.ifCond .lt 23, 3) := by decide +kernel
theorem d_M_total_5 : decode c_M_total 5 = .ok (.iload_n 1, 1) := by decide +kernel
theorem d_M_total_6 : decode c_M_total 6 = .ok (.aload_n 0, 1) := by decide +kernel
theorem d_M_total_7 : decode c_M_total 7 = .ok (.getfield 47, 3) := by decide +kernel
theorem d_M_total_10 : decode c_M_total 10 = .ok (.if_icmp .gt 15, 3) := by decide +kernel
theorem d_M_total_13 : decode c_M_total 13 = .ok (.aload_n 0, 1) := by decide +kernel
theorem d_M_total_14 : decode c_M_total 14 = .ok (.iload_n 2, 1) := by decide +kernel
theorem d_M_total_15 : decode c_M_total 15 = .ok (.invokevirtual 147, 3) := by decide +kernel
theorem d_M_total_18 : decode c_M_total 18 = .ok (.ifCond .lt 7, 3) := by decide +kernel
theorem d_M_total_21 : decode c_M_total 21 = .ok (.iconst 0, 1) := by decide +kernel
theorem d_M_total_22 : decode c_M_total 22 = .ok (.goto 4, 3) := by decide +kernel
theorem d_M_total_25 : decode c_M_total 25 = .ok (.iconst 1, 1) := by decide +kernel
theorem d_M_total_26 : decode c_M_total 26 = .ok (.invokevirtual 79, 3) := by decide +kernel
theorem d_M_total_29 : decode c_M_total 29 = .ok (.ifCond .ne 5, 3) := by decide +kernel
theorem d_M_total_32 : decode c_M_total 32 = .ok (.lconst 0, 1) := by decide +kernel
theorem d_M_total_33 : decode c_M_total 33 = .ok (.lreturn, 1) := by decide +kernel
theorem d_M_total_34 : decode c_M_total 34 = .ok (.aload_n 0, 1) := by decide +kernel
theorem d_M_total_35 : decode c_M_total 35 = .ok (.iload_n 1, 1) := by decide +kernel
theorem d_M_total_36 : decode c_M_total 36 = .ok (.aload_n 0, 1) := by decide +kernel
theorem d_M_total_37 : decode c_M_total 37 = .ok (.iload_n 2, 1) := by decide +kernel
theorem d_M_total_38 : decode c_M_total 38 = .ok (.invokevirtual 147, 3) := by decide +kernel
theorem d_M_total_41 : decode c_M_total 41 = .ok (.invokevirtual 110, 3) := by decide +kernel
theorem d_M_total_44 : decode c_M_total 44 = .ok (.lstore 4, 2) := by decide +kernel
theorem d_M_total_46 : decode c_M_total 46 = .ok (.aload_n 0, 1) := by decide +kernel
theorem d_M_total_47 : decode c_M_total 47 = .ok (.getfield 53, 3) := by decide +kernel
theorem d_M_total_50 : decode c_M_total 50 = .ok (.iload_n 1, 1) := by decide +kernel
theorem d_M_total_51 : decode c_M_total 51 = .ok (.laload, 1) := by decide +kernel
theorem d_M_total_52 : decode c_M_total 52 = .ok (.lload 4, 2) := by decide +kernel
theorem d_M_total_54 : decode c_M_total 54 = .ok (.invokestatic 102, 3) := by decide +kernel
theorem d_M_total_57 : decode c_M_total 57 = .ok (.lstore 6, 2) := by decide +kernel
theorem d_M_total_59 : decode c_M_total 59 = .ok (.iload_n 3, 1) := by decide +kernel
theorem d_M_total_60 : decode c_M_total 60 = .ok (.ifCond .eq 12, 3) := by decide +kernel
theorem d_M_total_63 : decode c_M_total 63 = .ok (.aload_n 0, 1) := by decide +kernel
theorem d_M_total_64 : decode c_M_total 64 = .ok (.getfield 53, 3) := by decide +kernel
theorem d_M_total_67 : decode c_M_total 67 = .ok (.iload_n 1, 1) := by decide +kernel
theorem d_M_total_68 : decode c_M_total 68 = .ok (.laload, 1) := by decide +kernel
theorem d_M_total_69 : decode c_M_total 69 = .ok (.goto 5, 3) := by decide +kernel
theorem d_M_total_72 : decode c_M_total 72 = .ok (.lload 4, 2) := by decide +kernel
theorem d_M_total_74 : decode c_M_total 74 = .ok (.lload 6, 2) := by decide +kernel
theorem d_M_total_76 : decode c_M_total 76 = .ok (.ldiv, 1) := by decide +kernel
theorem d_M_total_77 : decode c_M_total 77 = .ok (.lreturn, 1) := by decide +kernel
theorem d_M_papers_0 : decode c_M_papers 0 = .ok (.aload_n 0, 1) := by decide +kernel
theorem d_M_papers_1 : decode c_M_papers 1 = .ok (.aload_n 0, 1) := by decide +kernel
theorem d_M_papers_2 : decode c_M_papers 2 = .ok (.iload_n 1, 1) := by decide +kernel
theorem d_M_papers_3 : decode c_M_papers 3 = .ok (.invokevirtual 147, 3) := by decide +kernel
theorem d_M_papers_6 : decode c_M_papers 6 = .ok (.ifCond .lt 7, 3) := by decide +kernel
theorem d_M_papers_9 : decode c_M_papers 9 = .ok (.iconst 0, 1) := by decide +kernel
theorem d_M_papers_10 : decode c_M_papers 10 = .ok (.goto 4, 3) := by decide +kernel
theorem d_M_papers_13 : decode c_M_papers 13 = .ok (.iconst 1, 1) := by decide +kernel
theorem d_M_papers_14 : decode c_M_papers 14 = .ok (.invokevirtual 79, 3) := by decide +kernel
theorem d_M_papers_17 : decode c_M_papers 17 = .ok (.ifCond .eq 10, 3) := by decide +kernel
theorem d_M_papers_20 : decode c_M_papers 20 = .ok (.aload_n 0, 1) := by decide +kernel
theorem d_M_papers_21 : decode c_M_papers 21 = .ok (.getfield 47, 3) := by decide +kernel
theorem d_M_papers_24 : decode c_M_papers 24 = .ok (.ifCond .ge 5, 3) := by decide +kernel
theorem d_M_papers_27 : decode c_M_papers 27 = .ok (.iconst 0, 1) := by decide +kernel
theorem d_M_papers_28 : decode c_M_papers 28 = .ok (.ireturn, 1) := by decide +kernel
theorem d_M_papers_29 : decode c_M_papers 29 = .ok (.iconst 0, 1) := by decide +kernel
theorem d_M_papers_30 : decode c_M_papers 30 = .ok (.istore_n 2, 1) := by decide +kernel
theorem d_M_papers_31 : decode c_M_papers 31 = .ok (.iconst 0, 1) := by decide +kernel
theorem d_M_papers_32 : decode c_M_papers 32 = .ok (.istore_n 3, 1) := by decide +kernel
theorem d_M_papers_33 : decode c_M_papers 33 = .ok (.iload_n 3, 1) := by decide +kernel
theorem d_M_papers_34 : decode c_M_papers 34 = .ok (.aload_n 0, 1) := by decide +kernel
theorem d_M_papers_35 : decode c_M_papers 35 = .ok (.getfield 72, 3) := by decide +kernel
theorem d_M_papers_38 : decode c_M_papers 38 = .ok (.if_icmp .ge 31, 3) := by decide +kernel
theorem d_M_papers_41 : decode c_M_papers 41 = .ok (.iload_n 2, 1) := by decide +kernel
theorem d_M_papers_42 : decode c_M_papers 42 = .ok (.aload_n 0, 1) := by decide +kernel
theorem d_M_papers_43 : decode c_M_papers 43 = .ok (.getfield 32, 3) := by decide +kernel
theorem d_M_papers_46 : decode c_M_papers 46 = .ok (.iload_n 3, 1) := by decide +kernel
theorem d_M_papers_47 : decode c_M_papers 47 = .ok (.iaload, 1) := by decide +kernel
theorem d_M_papers_48 : decode c_M_papers 48 = .ok (.aload_n 0, 1) := by decide +kernel
theorem d_M_papers_49 : decode c_M_papers 49 = .ok (.iload_n 1, 1) := by decide +kernel
theorem d_M_papers_50 : decode c_M_papers 50 = .ok (.invokevirtual 147, 3) := by decide +kernel
theorem d_M_papers_53 : decode c_M_papers 53 = .ok (.if_icmp .ne 7, 3) := by decide +kernel
theorem d_M_papers_56 : decode c_M_papers 56 = .ok (.iconst 1, 1) := by decide +kernel
theorem d_M_papers_57 : decode c_M_papers 57 = .ok (.goto 4, 3) := by decide +kernel
theorem d_M_papers_60 : decode c_M_papers 60 = .ok (.iconst 0, 1) := by decide +kernel
theorem d_M_papers_61 : decode c_M_papers 61 = .ok (.iadd, 1) := by decide +kernel
theorem d_M_papers_62 : decode c_M_papers 62 = .ok (.istore_n 2, 1) := by decide +kernel
theorem d_M_papers_63 : decode c_M_papers 63 = .ok (.iinc 3 1, 3) := by decide +kernel
theorem d_M_papers_66 : decode c_M_papers 66 = .ok (.goto (-33), 3) := by decide +kernel
theorem d_M_papers_69 : decode c_M_papers 69 = .ok (.iload_n 2, 1) := by decide +kernel
theorem d_M_papers_70 : decode c_M_papers 70 = .ok (.ireturn, 1) := by decide +kernel
theorem d_M_moved_0 : decode c_M_moved 0 = .ok (.aload_n 0, 1) := by decide +kernel
theorem d_M_moved_1 : decode c_M_moved 1 = .ok (.iload_n 1, 1) := by decide +kernel
theorem d_M_moved_2 : decode c_M_moved 2 = .ok (.ifCond .lt 23, 3) := by decide +kernel
theorem d_M_moved_5 : decode c_M_moved 5 = .ok (.iload_n 1, 1) := by decide +kernel
theorem d_M_moved_6 : decode c_M_moved 6 = .ok (.aload_n 0, 1) := by decide +kernel
theorem d_M_moved_7 : decode c_M_moved 7 = .ok (.getfield 47, 3) := by decide +kernel
theorem d_M_moved_10 : decode c_M_moved 10 = .ok (.if_icmp .gt 15, 3) := by decide +kernel
theorem d_M_moved_13 : decode c_M_moved 13 = .ok (.aload_n 0, 1) := by decide +kernel
theorem d_M_moved_14 : decode c_M_moved 14 = .ok (.iload_n 2, 1) := by decide +kernel
theorem d_M_moved_15 : decode c_M_moved 15 = .ok (.invokevirtual 147, 3) := by decide +kernel
theorem d_M_moved_18 : decode c_M_moved 18 = .ok (.ifCond .lt 7, 3) := by decide +kernel
theorem d_M_moved_21 : decode c_M_moved 21 = .ok (.iconst 0, 1) := by decide +kernel
theorem d_M_moved_22 : decode c_M_moved 22 = .ok (.goto 4, 3) := by decide +kernel
theorem d_M_moved_25 : decode c_M_moved 25 = .ok (.iconst 1, 1) := by decide +kernel
theorem d_M_moved_26 : decode c_M_moved 26 = .ok (.invokevirtual 79, 3) := by decide +kernel
theorem d_M_moved_29 : decode c_M_moved 29 = .ok (.ifCond .ne 5, 3) := by decide +kernel
theorem d_M_moved_32 : decode c_M_moved 32 = .ok (.iconst 0, 1) := by decide +kernel
theorem d_M_moved_33 : decode c_M_moved 33 = .ok (.ireturn, 1) := by decide +kernel
theorem d_M_moved_34 : decode c_M_moved 34 = .ok (.aload_n 0, 1) := by decide +kernel
theorem d_M_moved_35 : decode c_M_moved 35 = .ok (.getfield 56, 3) := by decide +kernel
theorem d_M_moved_38 : decode c_M_moved 38 = .ok (.bipush 13, 2) := by decide +kernel
theorem d_M_moved_40 : decode c_M_moved 40 = .ok (.iload_n 1, 1) := by decide +kernel
theorem d_M_moved_41 : decode c_M_moved 41 = .ok (.imul, 1) := by decide +kernel
theorem d_M_moved_42 : decode c_M_moved 42 = .ok (.aload_n 0, 1) := by decide +kernel
theorem d_M_moved_43 : decode c_M_moved 43 = .ok (.iload_n 2, 1) := by decide +kernel
theorem d_M_moved_44 : decode c_M_moved 44 = .ok (.invokevirtual 147, 3) := by decide +kernel
theorem d_M_moved_47 : decode c_M_moved 47 = .ok (.iadd, 1) := by decide +kernel
theorem d_M_moved_48 : decode c_M_moved 48 = .ok (.iaload, 1) := by decide +kernel
theorem d_M_moved_49 : decode c_M_moved 49 = .ok (.ireturn, 1) := by decide +kernel
