theorem d_L_begin_0 : decode c_L_begin 0 = .ok (.aload_n 0, 1) := by decide +kernel
theorem d_L_begin_1 : decode c_L_begin 1 = .ok (.iload_n 1, 1) := by decide +kernel
theorem d_L_begin_2 : decode c_L_begin 2 = .ok (.iload_n 2, 1) := by decide +kernel
theorem d_L_begin_3 : decode c_L_begin 3 = .ok (.invokevirtual 7, 3) := by decide +kernel
theorem d_L_begin_6 : decode c_L_begin 6 = .ok (.goto 6, 3) := by decide +kernel
theorem d_L_begin_9 : decode c_L_begin 9 = .ok (.astore_n 3, 1) := by decide +kernel
theorem d_L_begin_10 : decode c_L_begin 10 = .ok (.iconst 1, 1) := by decide +kernel
theorem d_L_begin_11 : decode c_L_begin 11 = .ok (.ireturn, 1) := by decide +kernel
theorem d_L_begin_12 : decode c_L_begin 12 = .ok (.iconst 0, 1) := by decide +kernel
theorem d_L_begin_13 : decode c_L_begin 13 = .ok (.ireturn, 1) := by decide +kernel
theorem d_L_draw_0 : decode c_L_draw 0 = .ok (.aload_n 0, 1) := by decide +kernel
theorem d_L_draw_1 : decode c_L_draw 1 = .ok (.iload_n 1, 1) := by decide +kernel
theorem d_L_draw_2 : decode c_L_draw 2 = .ok (.iload_n 2, 1) := by decide +kernel
theorem d_L_draw_3 : decode c_L_draw 3 = .ok (.invokevirtual 15, 3) := by decide +kernel
theorem d_L_draw_6 : decode c_L_draw 6 = .ok (.goto 9, 3) := by decide +kernel
theorem d_L_draw_9 : decode c_L_draw 9 = .ok (.astore_n 3, 1) := by decide +kernel
theorem d_L_draw_10 : decode c_L_draw 10 = .ok (.iconst 1, 1) := by decide +kernel
theorem d_L_draw_11 : decode c_L_draw 11 = .ok (.ireturn, 1) := by decide +kernel
theorem d_L_draw_12 : decode c_L_draw 12 = .ok (.astore_n 3, 1) := by decide +kernel
theorem d_L_draw_13 : decode c_L_draw 13 = .ok (.iconst 2, 1) := by decide +kernel
theorem d_L_draw_14 : decode c_L_draw 14 = .ok (.ireturn, 1) := by decide +kernel
theorem d_L_draw_15 : decode c_L_draw 15 = .ok (.iconst 0, 1) := by decide +kernel
theorem d_L_draw_16 : decode c_L_draw 16 = .ok (.ireturn, 1) := by decide +kernel
theorem d_L_withdraw_0 : decode c_L_withdraw 0 = .ok (.aload_n 0, 1) := by decide +kernel
theorem d_L_withdraw_1 : decode c_L_withdraw 1 = .ok (.iload_n 1, 1) := by decide +kernel
theorem d_L_withdraw_2 : decode c_L_withdraw 2 = .ok (.invokevirtual 20, 3) := by decide +kernel
theorem d_L_withdraw_5 : decode c_L_withdraw 5 = .ok (.goto 9, 3) := by decide +kernel
theorem d_L_withdraw_8 : decode c_L_withdraw 8 = .ok (.astore_n 2, 1) := by decide +kernel
theorem d_L_withdraw_9 : decode c_L_withdraw 9 = .ok (.iconst 1, 1) := by decide +kernel
theorem d_L_withdraw_10 : decode c_L_withdraw 10 = .ok (.ireturn, 1) := by decide +kernel
theorem d_L_withdraw_11 : decode c_L_withdraw 11 = .ok (.astore_n 2, 1) := by decide +kernel
theorem d_L_withdraw_12 : decode c_L_withdraw 12 = .ok (.iconst 2, 1) := by decide +kernel
theorem d_L_withdraw_13 : decode c_L_withdraw 13 = .ok (.ireturn, 1) := by decide +kernel
theorem d_L_withdraw_14 : decode c_L_withdraw 14 = .ok (.iconst 0, 1) := by decide +kernel
theorem d_L_withdraw_15 : decode c_L_withdraw 15 = .ok (.ireturn, 1) := by decide +kernel
theorem d_L_lay_0 : decode c_L_lay 0 = .ok (.aload 4, 2) := by decide +kernel
theorem d_L_lay_2 : decode c_L_lay 2 = .ok (.iconst 0, 1) := by decide +kernel
theorem d_L_lay_3 : decode c_L_lay 3 = .ok (.aload_n 0, 1) := by decide +kernel
theorem d_L_lay_4 : decode c_L_lay 4 = .ok (.lload_n 1, 1) := by decide +kernel
theorem d_L_lay_5 : decode c_L_lay 5 = .ok (.iload_n 3, 1) := by decide +kernel
theorem d_L_lay_6 : decode c_L_lay 6 = .ok (.invokevirtual 24, 3) := by decide +kernel
theorem d_L_lay_9 : decode c_L_lay 9 = .ok (.i2l, 1) := by decide +kernel
theorem d_L_lay_10 : decode c_L_lay 10 = .ok (.lastore, 1) := by decide +kernel
theorem d_L_lay_11 : decode c_L_lay 11 = .ok (.goto 11, 3) := by decide +kernel
theorem d_L_lay_14 : decode c_L_lay 14 = .ok (.astore 5, 2) := by decide +kernel
theorem d_L_lay_16 : decode c_L_lay 16 = .ok (.iconst 1, 1) := by decide +kernel
theorem d_L_lay_17 : decode c_L_lay 17 = .ok (.ireturn, 1) := by decide +kernel
theorem d_L_lay_18 : decode c_L_lay 18 = .ok (.astore 5, 2) := by decide +kernel
theorem d_L_lay_20 : decode c_L_lay 20 = .ok (.iconst 2, 1) := by decide +kernel
theorem d_L_lay_21 : decode c_L_lay 21 = .ok (.ireturn, 1) := by decide +kernel
theorem d_L_lay_22 : decode c_L_lay 22 = .ok (.iconst 0, 1) := by decide +kernel
theorem d_L_lay_23 : decode c_L_lay 23 = .ok (.ireturn, 1) := by decide +kernel
theorem d_L_open_0 : decode c_L_open 0 = .ok (.aload_n 1, 1) := by decide +kernel
theorem d_L_open_1 : decode c_L_open 1 = .ok (.iconst 0, 1) := by decide +kernel
theorem d_L_open_2 : decode c_L_open 2 = .ok (.aload_n 0, 1) := by decide +kernel
theorem d_L_open_3 : decode c_L_open 3 = .ok (.invokevirtual 28, 3) := by decide +kernel
theorem d_L_open_6 : decode c_L_open 6 = .ok (.i2l, 1) := by decide +kernel
theorem d_L_open_7 : decode c_L_open 7 = .ok (.lastore, 1) := by decide +kernel
theorem d_L_open_8 : decode c_L_open 8 = .ok (.goto 6, 3) := by decide +kernel
theorem d_L_open_11 : decode c_L_open 11 = .ok (.astore_n 2, 1) := by decide +kernel
theorem d_L_open_12 : decode c_L_open 12 = .ok (.iconst 1, 1) := by decide +kernel
theorem d_L_open_13 : decode c_L_open 13 = .ok (.ireturn, 1) := by decide +kernel
theorem d_L_open_14 : decode c_L_open 14 = .ok (.iconst 0, 1) := by decide +kernel
theorem d_L_open_15 : decode c_L_open 15 = .ok (.ireturn, 1) := by decide +kernel
theorem d_L_step_0 : decode c_L_step 0 = .ok (.aload_n 1, 1) := by decide +kernel
theorem d_L_step_1 : decode c_L_step 1 = .ok (.iconst 0, 1) := by decide +kernel
theorem d_L_step_2 : decode c_L_step 2 = .ok (.aload_n 0, 1) := by decide +kernel
theorem d_L_step_3 : decode c_L_step 3 = .ok (.invokevirtual 32, 3) := by decide +kernel
theorem d_L_step_6 : decode c_L_step 6 = .ok (.i2l, 1) := by decide +kernel
theorem d_L_step_7 : decode c_L_step 7 = .ok (.lastore, 1) := by decide +kernel
theorem d_L_step_8 : decode c_L_step 8 = .ok (.goto 6, 3) := by decide +kernel
theorem d_L_step_11 : decode c_L_step 11 = .ok (.astore_n 2, 1) := by decide +kernel
theorem d_L_step_12 : decode c_L_step 12 = .ok (.iconst 1, 1) := by decide +kernel
theorem d_L_step_13 : decode c_L_step 13 = .ok (.ireturn, 1) := by decide +kernel
theorem d_L_step_14 : decode c_L_step 14 = .ok (.iconst 0, 1) := by decide +kernel
theorem d_L_step_15 : decode c_L_step 15 = .ok (.ireturn, 1) := by decide +kernel
theorem d_L_status_0 : decode c_L_status 0 = .ok (.aload_n 2, 1) := by decide +kernel
theorem d_L_status_1 : decode c_L_status 1 = .ok (.iconst 0, 1) := by decide +kernel
theorem d_L_status_2 : decode c_L_status 2 = .ok (.aload_n 0, 1) := by decide +kernel
theorem d_L_status_3 : decode c_L_status 3 = .ok (.iload_n 1, 1) := by decide +kernel
theorem d_L_status_4 : decode c_L_status 4 = .ok (.invokevirtual 35, 3) := by decide +kernel
theorem d_L_status_7 : decode c_L_status 7 = .ok (.i2l, 1) := by decide +kernel
theorem d_L_status_8 : decode c_L_status 8 = .ok (.lastore, 1) := by decide +kernel
theorem d_L_status_9 : decode c_L_status 9 = .ok (.goto 6, 3) := by decide +kernel
theorem d_L_status_12 : decode c_L_status 12 = .ok (.astore_n 3, 1) := by decide +kernel
theorem d_L_status_13 : decode c_L_status 13 = .ok (.iconst 1, 1) := by decide +kernel
theorem d_L_status_14 : decode c_L_status 14 = .ok (.ireturn, 1) := by decide +kernel
theorem d_L_status_15 : decode c_L_status 15 = .ok (.iconst 0, 1) := by decide +kernel
theorem d_L_status_16 : decode c_L_status 16 = .ok (.ireturn, 1) := by decide +kernel
theorem d_L_total_0 : decode c_L_total 0 = .ok (.aload 4, 2) := by decide +kernel
theorem d_L_total_2 : decode c_L_total 2 = .ok (.iconst 0, 1) := by decide +kernel
theorem d_L_total_3 : decode c_L_total 3 = .ok (.aload_n 0, 1) := by decide +kernel
theorem d_L_total_4 : decode c_L_total 4 = .ok (.iload_n 1, 1) := by decide +kernel
theorem d_L_total_5 : decode c_L_total 5 = .ok (.iload_n 2, 1) := by decide +kernel
theorem d_L_total_6 : decode c_L_total 6 = .ok (.iload_n 3, 1) := by decide +kernel
theorem d_L_total_7 : decode c_L_total 7 = .ok (.invokevirtual 41, 3) := by decide +kernel
theorem d_L_total_10 : decode c_L_total 10 = .ok (.lastore, 1) := by decide +kernel
theorem d_L_total_11 : decode c_L_total 11 = .ok (.goto 7, 3) := by decide +kernel
theorem d_L_total_14 : decode c_L_total 14 = .ok (.astore 5, 2) := by decide +kernel
theorem d_L_total_16 : decode c_L_total 16 = .ok (.iconst 1, 1) := by decide +kernel
theorem d_L_total_17 : decode c_L_total 17 = .ok (.ireturn, 1) := by decide +kernel
theorem d_L_total_18 : decode c_L_total 18 = .ok (.iconst 0, 1) := by decide +kernel
theorem d_L_total_19 : decode c_L_total 19 = .ok (.ireturn, 1) := by decide +kernel
theorem d_L_papers_0 : decode c_L_papers 0 = .ok (.aload_n 2, 1) := by decide +kernel
theorem d_L_papers_1 : decode c_L_papers 1 = .ok (.iconst 0, 1) := by decide +kernel
theorem d_L_papers_2 : decode c_L_papers 2 = .ok (.aload_n 0, 1) := by decide +kernel
theorem d_L_papers_3 : decode c_L_papers 3 = .ok (.iload_n 1, 1) := by decide +kernel
theorem d_L_papers_4 : decode c_L_papers 4 = .ok (.invokevirtual 45, 3) := by decide +kernel
theorem d_L_papers_7 : decode c_L_papers 7 = .ok (.i2l, 1) := by decide +kernel
theorem d_L_papers_8 : decode c_L_papers 8 = .ok (.lastore, 1) := by decide +kernel
theorem d_L_papers_9 : decode c_L_papers 9 = .ok (.goto 6, 3) := by decide +kernel
theorem d_L_papers_12 : decode c_L_papers 12 = .ok (.astore_n 3, 1) := by decide +kernel
theorem d_L_papers_13 : decode c_L_papers 13 = .ok (.iconst 1, 1) := by decide +kernel
theorem d_L_papers_14 : decode c_L_papers 14 = .ok (.ireturn, 1) := by decide +kernel
theorem d_L_papers_15 : decode c_L_papers 15 = .ok (.iconst 0, 1) := by decide +kernel
theorem d_L_papers_16 : decode c_L_papers 16 = .ok (.ireturn, 1) := by decide +kernel
theorem d_L_moved_0 : decode c_L_moved 0 = .ok (.aload_n 3, 1) := by decide +kernel
theorem d_L_moved_1 : decode c_L_moved 1 = .ok (.iconst 0, 1) := by decide +kernel
theorem d_L_moved_2 : decode c_L_moved 2 = .ok (.aload_n 0, 1) := by decide +kernel
theorem d_L_moved_3 : decode c_L_moved 3 = .ok (.iload_n 1, 1) := by decide +kernel
theorem d_L_moved_4 : decode c_L_moved 4 = .ok (.iload_n 2, 1) := by decide +kernel
theorem d_L_moved_5 : decode c_L_moved 5 = .ok (.invokevirtual 48, 3) := by decide +kernel
theorem d_L_moved_8 : decode c_L_moved 8 = .ok (.i2l, 1) := by decide +kernel
theorem d_L_moved_9 : decode c_L_moved 9 = .ok (.lastore, 1) := by decide +kernel
theorem d_L_moved_10 : decode c_L_moved 10 = .ok (.goto 7, 3) := by decide +kernel
theorem d_L_moved_13 : decode c_L_moved 13 = .ok (.astore 4, 2) := by decide +kernel
theorem d_L_moved_15 : decode c_L_moved 15 = .ok (.iconst 1, 1) := by decide +kernel
theorem d_L_moved_16 : decode c_L_moved 16 = .ok (.ireturn, 1) := by decide +kernel
theorem d_L_moved_17 : decode c_L_moved 17 = .ok (.iconst 0, 1) := by decide +kernel
theorem d_L_moved_18 : decode c_L_moved 18 = .ok (.ireturn, 1) := by decide +kernel
theorem d_L_law_0 : decode c_L_law 0 = .ok (.new 8, 3) := by decide +kernel
theorem d_L_law_3 : decode c_L_law 3 = .ok (.dup, 1) := by decide +kernel
theorem d_L_law_4 : decode c_L_law 4 = .ok (.invokespecial 52, 3) := by decide +kernel
theorem d_L_law_7 : decode c_L_law 7 = .ok (.astore_n 1, 1) := by decide +kernel
theorem d_L_law_8 : decode c_L_law 8 = .ok (.new 53, 3) := by decide +kernel
theorem d_L_law_11 : decode c_L_law 11 = .ok (.dup, 1) := by decide +kernel
theorem d_L_law_12 : decode c_L_law 12 = .ok (.invokespecial 55, 3) := by decide +kernel
theorem d_L_law_15 : decode c_L_law 15 = .ok (.astore_n 2, 1) := by decide +kernel
theorem d_L_law_16 : decode c_L_law 16 = .ok (.iconst 1, 1) := by decide +kernel
theorem d_L_law_17 : decode c_L_law 17 = .ok (.newarray .long, 2) := by decide +kernel
theorem d_L_law_19 : decode c_L_law 19 = .ok (.astore_n 3, 1) := by decide +kernel
theorem d_L_law_20 : decode c_L_law 20 = .ok (.iconst 0, 1) := by decide +kernel
theorem d_L_law_21 : decode c_L_law 21 = .ok (.istore 4, 2) := by decide +kernel
theorem d_L_law_23 : decode c_L_law 23 = .ok (.iload 4, 2) := by decide +kernel
theorem d_L_law_25 : decode c_L_law 25 = .ok (.aload_n 0, 1) := by decide +kernel
theorem d_L_law_26 : decode c_L_law 26 = .ok (.arraylength, 1) := by decide +kernel
theorem d_L_law_27 : decode c_L_law 27 = .ok (.iconst 4, 1) := by decide +kernel
theorem d_L_law_28 : decode c_L_law 28 = .ok (.isub, 1) := by decide +kernel
theorem d_L_law_29 : decode c_L_law 29 = .ok (.if_icmp .gt 710, 3) := by decide +kernel
theorem d_L_law_32 : decode c_L_law 32 = .ok (.aload_n 0, 1) := by decide +kernel
theorem d_L_law_33 : decode c_L_law 33 = .ok (.iload 4, 2) := by decide +kernel
theorem d_L_law_35 : decode c_L_law 35 = .ok (.iaload, 1) := by decide +kernel
theorem d_L_law_36 : decode c_L_law 36 = .ok (.bipush 15, 2) := by decide +kernel
theorem d_L_law_38 : decode c_L_law 38 = .ok (.iand, 1) := by decide +kernel
theorem d_L_law_39 : decode c_L_law 39 = .ok (.tableswitch 694 0 11 #[61, 109, 157, 193, 293, 337, 381, 394, 419, 475, 570, 626], 61) := by decide +kernel
theorem d_L_law_100 : decode c_L_law 100 = .ok (.aload_n 1, 1) := by decide +kernel
theorem d_L_law_101 : decode c_L_law 101 = .ok (.aload_n 0, 1) := by decide +kernel
theorem d_L_law_102 : decode c_L_law 102 = .ok (.iload 4, 2) := by decide +kernel
theorem d_L_law_104 : decode c_L_law 104 = .ok (.iconst 1, 1) := by decide +kernel
theorem d_L_law_105 : decode c_L_law 105 = .ok (.iadd, 1) := by decide +kernel
theorem d_L_law_106 : decode c_L_law 106 = .ok (.iaload, 1) := by decide +kernel
theorem d_L_law_107 : decode c_L_law 107 = .ok (.aload_n 0, 1) := by decide +kernel
theorem d_L_law_108 : decode c_L_law 108 = .ok (.iload 4, 2) := by decide +kernel
theorem d_L_law_110 : decode c_L_law 110 = .ok (.iconst 2, 1) := by decide +kernel
theorem d_L_law_111 : decode c_L_law 111 = .ok (.iadd, 1) := by decide +kernel
theorem d_L_law_112 : decode c_L_law 112 = .ok (.iaload, 1) := by decide +kernel
theorem d_L_law_113 : decode c_L_law 113 = .ok (.invokestatic 56, 3) := by decide +kernel
theorem d_L_law_116 : decode c_L_law 116 = .ok (.istore 5, 2) := by decide +kernel
theorem d_L_law_118 : decode c_L_law 118 = .ok (.aload_n 2, 1) := by decide +kernel
theorem d_L_law_119 : decode c_L_law 119 = .ok (.aload_n 0, 1) := by decide +kernel
theorem d_L_law_120 : decode c_L_law 120 = .ok (.iload 4, 2) := by decide +kernel
theorem d_L_law_122 : decode c_L_law 122 = .ok (.iconst 1, 1) := by decide +kernel
theorem d_L_law_123 : decode c_L_law 123 = .ok (.iadd, 1) := by decide +kernel
theorem d_L_law_124 : decode c_L_law 124 = .ok (.iaload, 1) := by decide +kernel
theorem d_L_law_125 : decode c_L_law 125 = .ok (.aload_n 0, 1) := by decide +kernel
theorem d_L_law_126 : decode c_L_law 126 = .ok (.iload 4, 2) := by decide +kernel
theorem d_L_law_128 : decode c_L_law 128 = .ok (.iconst 2, 1) := by decide +kernel
theorem d_L_law_129 : decode c_L_law 129 = .ok (.iadd, 1) := by decide +kernel
theorem d_L_law_130 : decode c_L_law 130 = .ok (.iaload, 1) := by decide +kernel
theorem d_L_law_131 : decode c_L_law 131 = .ok (.invokevirtual 61, 3) := by decide +kernel
theorem d_L_law_134 : decode c_L_law 134 = .ok (.aload_n 2, 1) := by decide +kernel
theorem d_L_law_135 : decode c_L_law 135 = .ok (.invokevirtual 62, 3) := by decide +kernel
theorem d_L_law_138 : decode c_L_law 138 = .ok (.iload 5, 2) := by decide +kernel
theorem d_L_law_140 : decode c_L_law 140 = .ok (.if_icmp .eq 5, 3) := by decide +kernel
theorem d_L_law_143 : decode c_L_law 143 = .ok (.iconst 0, 1) := by decide +kernel
theorem d_L_law_144 : decode c_L_law 144 = .ok (.ireturn, 1) := by decide +kernel
theorem d_L_law_145 : decode c_L_law 145 = .ok (.goto 588, 3) := by decide +kernel
theorem d_L_law_148 : decode c_L_law 148 = .ok (.aload_n 1, 1) := by decide +kernel
theorem d_L_law_149 : decode c_L_law 149 = .ok (.aload_n 0, 1) := by decide +kernel
theorem d_L_law_150 : decode c_L_law 150 = .ok (.iload 4, 2) := by decide +kernel
theorem d_L_law_152 : decode c_L_law 152 = .ok (.iconst 1, 1) := by decide +kernel
theorem d_L_law_153 : decode c_L_law 153 = .ok (.iadd, 1) := by decide +kernel
theorem d_L_law_154 : decode c_L_law 154 = .ok (.iaload, 1) := by decide +kernel
theorem d_L_law_155 : decode c_L_law 155 = .ok (.aload_n 0, 1) := by decide +kernel
theorem d_L_law_156 : decode c_L_law 156 = .ok (.iload 4, 2) := by decide +kernel
theorem d_L_law_158 : decode c_L_law 158 = .ok (.iconst 2, 1) := by decide +kernel
theorem d_L_law_159 : decode c_L_law 159 = .ok (.iadd, 1) := by decide +kernel
theorem d_L_law_160 : decode c_L_law 160 = .ok (.iaload, 1) := by decide +kernel
theorem d_L_law_161 : decode c_L_law 161 = .ok (.invokestatic 65, 3) := by decide +kernel
theorem d_L_law_164 : decode c_L_law 164 = .ok (.istore 5, 2) := by decide +kernel
theorem d_L_law_166 : decode c_L_law 166 = .ok (.aload_n 2, 1) := by decide +kernel
theorem d_L_law_167 : decode c_L_law 167 = .ok (.aload_n 0, 1) := by decide +kernel
theorem d_L_law_168 : decode c_L_law 168 = .ok (.iload 4, 2) := by decide +kernel
theorem d_L_law_170 : decode c_L_law 170 = .ok (.iconst 1, 1) := by decide +kernel
theorem d_L_law_171 : decode c_L_law 171 = .ok (.iadd, 1) := by decide +kernel
theorem d_L_law_172 : decode c_L_law 172 = .ok (.iaload, 1) := by decide +kernel
theorem d_L_law_173 : decode c_L_law 173 = .ok (.aload_n 0, 1) := by decide +kernel
theorem d_L_law_174 : decode c_L_law 174 = .ok (.iload 4, 2) := by decide +kernel
theorem d_L_law_176 : decode c_L_law 176 = .ok (.iconst 2, 1) := by decide +kernel
theorem d_L_law_177 : decode c_L_law 177 = .ok (.iadd, 1) := by decide +kernel
theorem d_L_law_178 : decode c_L_law 178 = .ok (.iaload, 1) := by decide +kernel
theorem d_L_law_179 : decode c_L_law 179 = .ok (.invokevirtual 67, 3) := by decide +kernel
theorem d_L_law_182 : decode c_L_law 182 = .ok (.aload_n 2, 1) := by decide +kernel
theorem d_L_law_183 : decode c_L_law 183 = .ok (.invokevirtual 62, 3) := by decide +kernel
theorem d_L_law_186 : decode c_L_law 186 = .ok (.iload 5, 2) := by decide +kernel
theorem d_L_law_188 : decode c_L_law 188 = .ok (.if_icmp .eq 5, 3) := by decide +kernel
theorem d_L_law_191 : decode c_L_law 191 = .ok (.iconst 0, 1) := by decide +kernel
theorem d_L_law_192 : decode c_L_law 192 = .ok (.ireturn, 1) := by decide +kernel
theorem d_L_law_193 : decode c_L_law 193 = .ok (.goto 540, 3) := by decide +kernel
theorem d_L_law_196 : decode c_L_law 196 = .ok (.aload_n 1, 1) := by decide +kernel
theorem d_L_law_197 : decode c_L_law 197 = .ok (.aload_n 0, 1) := by decide +kernel
theorem d_L_law_198 : decode c_L_law 198 = .ok (.iload 4, 2) := by decide +kernel
theorem d_L_law_200 : decode c_L_law 200 = .ok (.iconst 1, 1) := by decide +kernel
theorem d_L_law_201 : decode c_L_law 201 = .ok (.iadd, 1) := by decide +kernel
theorem d_L_law_202 : decode c_L_law 202 = .ok (.iaload, 1) := by decide +kernel
theorem d_L_law_203 : decode c_L_law 203 = .ok (.invokestatic 68, 3) := by decide +kernel
theorem d_L_law_206 : decode c_L_law 206 = .ok (.istore 5, 2) := by decide +kernel
theorem d_L_law_208 : decode c_L_law 208 = .ok (.aload_n 2, 1) := by decide +kernel
theorem d_L_law_209 : decode c_L_law 209 = .ok (.aload_n 0, 1) := by decide +kernel
theorem d_L_law_210 : decode c_L_law 210 = .ok (.iload 4, 2) := by decide +kernel
theorem d_L_law_212 : decode c_L_law 212 = .ok (.iconst 1, 1) := by decide +kernel
theorem d_L_law_213 : decode c_L_law 213 = .ok (.iadd, 1) := by decide +kernel
theorem d_L_law_214 : decode c_L_law 214 = .ok (.iaload, 1) := by decide +kernel
theorem d_L_law_215 : decode c_L_law 215 = .ok (.invokevirtual 71, 3) := by decide +kernel
theorem d_L_law_218 : decode c_L_law 218 = .ok (.aload_n 2, 1) := by decide +kernel
theorem d_L_law_219 : decode c_L_law 219 = .ok (.invokevirtual 62, 3) := by decide +kernel
theorem d_L_law_222 : decode c_L_law 222 = .ok (.iload 5, 2) := by decide +kernel
theorem d_L_law_224 : decode c_L_law 224 = .ok (.if_icmp .eq 5, 3) := by decide +kernel
theorem d_L_law_227 : decode c_L_law 227 = .ok (.iconst 0, 1) := by decide +kernel
theorem d_L_law_228 : decode c_L_law 228 = .ok (.ireturn, 1) := by decide +kernel
theorem d_L_law_229 : decode c_L_law 229 = .ok (.goto 504, 3) := by decide +kernel
theorem d_L_law_232 : decode c_L_law 232 = .ok (.aload_n 1, 1) := by decide +kernel
theorem d_L_law_233 : decode c_L_law 233 = .ok (.aload_n 0, 1) := by decide +kernel
theorem d_L_law_234 : decode c_L_law 234 = .ok (.iload 4, 2) := by decide +kernel
theorem d_L_law_236 : decode c_L_law 236 = .ok (.iconst 1, 1) := by decide +kernel
theorem d_L_law_237 : decode c_L_law 237 = .ok (.iadd, 1) := by decide +kernel
theorem d_L_law_238 : decode c_L_law 238 = .ok (.iaload, 1) := by decide +kernel
theorem d_L_law_239 : decode c_L_law 239 = .ok (.i2l, 1) := by decide +kernel
theorem d_L_law_240 : decode c_L_law 240 = .ok (.bipush 32, 2) := by decide +kernel
theorem d_L_law_242 : decode c_L_law 242 = .ok (.lshl, 1) := by decide +kernel
theorem d_L_law_243 : decode c_L_law 243 = .ok (.aload_n 0, 1) := by decide +kernel
theorem d_L_law_244 : decode c_L_law 244 = .ok (.iload 4, 2) := by decide +kernel
theorem d_L_law_246 : decode c_L_law 246 = .ok (.iconst 2, 1) := by decide +kernel
theorem d_L_law_247 : decode c_L_law 247 = .ok (.iadd, 1) := by decide +kernel
theorem d_L_law_248 : decode c_L_law 248 = .ok (.iaload, 1) := by decide +kernel
theorem d_L_law_249 : decode c_L_law 249 = .ok (.i2l, 1) := by decide +kernel
theorem d_L_law_250 : decode c_L_law 250 = .ok (.ldc2_w 72, 3) := by decide +kernel
theorem d_L_law_253 : decode c_L_law 253 = .ok (.land, 1) := by decide +kernel
theorem d_L_law_254 : decode c_L_law 254 = .ok (.lor, 1) := by decide +kernel
theorem d_L_law_255 : decode c_L_law 255 = .ok (.aload_n 0, 1) := by decide +kernel
theorem d_L_law_256 : decode c_L_law 256 = .ok (.iload 4, 2) := by decide +kernel
theorem d_L_law_258 : decode c_L_law 258 = .ok (.iconst 3, 1) := by decide +kernel
theorem d_L_law_259 : decode c_L_law 259 = .ok (.iadd, 1) := by decide +kernel
theorem d_L_law_260 : decode c_L_law 260 = .ok (.iaload, 1) := by decide +kernel
theorem d_L_law_261 : decode c_L_law 261 = .ok (.aload_n 3, 1) := by decide +kernel
theorem d_L_law_262 : decode c_L_law 262 = .ok (.invokestatic 74, 3) := by decide +kernel
theorem d_L_law_265 : decode c_L_law 265 = .ok (.istore 5, 2) := by decide +kernel
theorem d_L_law_267 : decode c_L_law 267 = .ok (.aload_n 2, 1) := by decide +kernel
theorem d_L_law_268 : decode c_L_law 268 = .ok (.aload_n 0, 1) := by decide +kernel
theorem d_L_law_269 : decode c_L_law 269 = .ok (.iload 4, 2) := by decide +kernel
theorem d_L_law_271 : decode c_L_law 271 = .ok (.iconst 1, 1) := by decide +kernel
theorem d_L_law_272 : decode c_L_law 272 = .ok (.iadd, 1) := by decide +kernel
theorem d_L_law_273 : decode c_L_law 273 = .ok (.iaload, 1) := by decide +kernel
theorem d_L_law_274 : decode c_L_law 274 = .ok (.i2l, 1) := by decide +kernel
theorem d_L_law_275 : decode c_L_law 275 = .ok (.bipush 32, 2) := by decide +kernel
theorem d_L_law_277 : decode c_L_law 277 = .ok (.lshl, 1) := by decide +kernel
theorem d_L_law_278 : decode c_L_law 278 = .ok (.aload_n 0, 1) := by decide +kernel
theorem d_L_law_279 : decode c_L_law 279 = .ok (.iload 4, 2) := by decide +kernel
theorem d_L_law_281 : decode c_L_law 281 = .ok (.iconst 2, 1) := by decide +kernel
theorem d_L_law_282 : decode c_L_law 282 = .ok (.iadd, 1) := by decide +kernel
theorem d_L_law_283 : decode c_L_law 283 = .ok (.iaload, 1) := by decide +kernel
theorem d_L_law_284 : decode c_L_law 284 = .ok (.i2l, 1) := by decide +kernel
theorem d_L_law_285 : decode c_L_law 285 = .ok (.ldc2_w 72, 3) := by decide +kernel
theorem d_L_law_288 : decode c_L_law 288 = .ok (.land, 1) := by decide +kernel
theorem d_L_law_289 : decode c_L_law 289 = .ok (.lor, 1) := by decide +kernel
theorem d_L_law_290 : decode c_L_law 290 = .ok (.aload_n 0, 1) := by decide +kernel
theorem d_L_law_291 : decode c_L_law 291 = .ok (.iload 4, 2) := by decide +kernel
theorem d_L_law_293 : decode c_L_law 293 = .ok (.iconst 3, 1) := by decide +kernel
theorem d_L_law_294 : decode c_L_law 294 = .ok (.iadd, 1) := by decide +kernel
theorem d_L_law_295 : decode c_L_law 295 = .ok (.iaload, 1) := by decide +kernel
theorem d_L_law_296 : decode c_L_law 296 = .ok (.invokevirtual 77, 3) := by decide +kernel
theorem d_L_law_299 : decode c_L_law 299 = .ok (.istore 6, 2) := by decide +kernel
theorem d_L_law_301 : decode c_L_law 301 = .ok (.aload_n 2, 1) := by decide +kernel
theorem d_L_law_302 : decode c_L_law 302 = .ok (.invokevirtual 62, 3) := by decide +kernel
theorem d_L_law_305 : decode c_L_law 305 = .ok (.iload 5, 2) := by decide +kernel
theorem d_L_law_307 : decode c_L_law 307 = .ok (.if_icmp .eq 5, 3) := by decide +kernel
theorem d_L_law_310 : decode c_L_law 310 = .ok (.iconst 0, 1) := by decide +kernel
theorem d_L_law_311 : decode c_L_law 311 = .ok (.ireturn, 1) := by decide +kernel
theorem d_L_law_312 : decode c_L_law 312 = .ok (.iload 5, 2) := by decide +kernel
theorem d_L_law_314 : decode c_L_law 314 = .ok (.ifCond .ne 15, 3) := by decide +kernel
theorem d_L_law_317 : decode c_L_law 317 = .ok (.aload_n 3, 1) := by decide +kernel
theorem d_L_law_318 : decode c_L_law 318 = .ok (.iconst 0, 1) := by decide +kernel
theorem d_L_law_319 : decode c_L_law 319 = .ok (.laload, 1) := by decide +kernel
theorem d_L_law_320 : decode c_L_law 320 = .ok (.iload 6, 2) := by decide +kernel
theorem d_L_law_322 : decode c_L_law 322 = .ok (.i2l, 1) := by decide +kernel
theorem d_L_law_323 : decode c_L_law 323 = .ok (.lcmp, 1) := by decide +kernel
theorem d_L_law_324 : decode c_L_law 324 = .ok (.ifCond .eq 5, 3) := by decide +kernel
theorem d_L_law_327 : decode c_L_law 327 = .ok (.iconst 0, 1) := by decide +kernel
theorem d_L_law_328 : decode c_L_law 328 = .ok (.ireturn, 1) := by decide +kernel
theorem d_L_law_329 : decode c_L_law 329 = .ok (.goto 404, 3) := by decide +kernel
theorem d_L_law_332 : decode c_L_law 332 = .ok (.aload_n 1, 1) := by decide +kernel
theorem d_L_law_333 : decode c_L_law 333 = .ok (.aload_n 3, 1) := by decide +kernel
theorem d_L_law_334 : decode c_L_law 334 = .ok (.invokestatic 78, 3) := by decide +kernel
theorem d_L_law_337 : decode c_L_law 337 = .ok (.istore 5, 2) := by decide +kernel
theorem d_L_law_339 : decode c_L_law 339 = .ok (.aload_n 2, 1) := by decide +kernel
theorem d_L_law_340 : decode c_L_law 340 = .ok (.invokevirtual 81, 3) := by decide +kernel
theorem d_L_law_343 : decode c_L_law 343 = .ok (.istore 6, 2) := by decide +kernel
theorem d_L_law_345 : decode c_L_law 345 = .ok (.aload_n 2, 1) := by decide +kernel
theorem d_L_law_346 : decode c_L_law 346 = .ok (.invokevirtual 62, 3) := by decide +kernel
theorem d_L_law_349 : decode c_L_law 349 = .ok (.iload 5, 2) := by decide +kernel
theorem d_L_law_351 : decode c_L_law 351 = .ok (.if_icmp .eq 5, 3) := by decide +kernel
theorem d_L_law_354 : decode c_L_law 354 = .ok (.iconst 0, 1) := by decide +kernel
theorem d_L_law_355 : decode c_L_law 355 = .ok (.ireturn, 1) := by decide +kernel
theorem d_L_law_356 : decode c_L_law 356 = .ok (.iload 5, 2) := by decide +kernel
theorem d_L_law_358 : decode c_L_law 358 = .ok (.ifCond .ne 15, 3) := by decide +kernel
theorem d_L_law_361 : decode c_L_law 361 = .ok (.aload_n 3, 1) := by decide +kernel
theorem d_L_law_362 : decode c_L_law 362 = .ok (.iconst 0, 1) := by decide +kernel
theorem d_L_law_363 : decode c_L_law 363 = .ok (.laload, 1) := by decide +kernel
theorem d_L_law_364 : decode c_L_law 364 = .ok (.iload 6, 2) := by decide +kernel
theorem d_L_law_366 : decode c_L_law 366 = .ok (.i2l, 1) := by decide +kernel
theorem d_L_law_367 : decode c_L_law 367 = .ok (.lcmp, 1) := by decide +kernel
theorem d_L_law_368 : decode c_L_law 368 = .ok (.ifCond .eq 5, 3) := by decide +kernel
theorem d_L_law_371 : decode c_L_law 371 = .ok (.iconst 0, 1) := by decide +kernel
theorem d_L_law_372 : decode c_L_law 372 = .ok (.ireturn, 1) := by decide +kernel
theorem d_L_law_373 : decode c_L_law 373 = .ok (.goto 360, 3) := by decide +kernel
theorem d_L_law_376 : decode c_L_law 376 = .ok (.aload_n 1, 1) := by decide +kernel
theorem d_L_law_377 : decode c_L_law 377 = .ok (.aload_n 3, 1) := by decide +kernel
theorem d_L_law_378 : decode c_L_law 378 = .ok (.invokestatic 82, 3) := by decide +kernel
theorem d_L_law_381 : decode c_L_law 381 = .ok (.istore 5, 2) := by decide +kernel
theorem d_L_law_383 : decode c_L_law 383 = .ok (.aload_n 2, 1) := by decide +kernel
theorem d_L_law_384 : decode c_L_law 384 = .ok (.invokevirtual 84, 3) := by decide +kernel
theorem d_L_law_387 : decode c_L_law 387 = .ok (.istore 6, 2) := by decide +kernel
theorem d_L_law_389 : decode c_L_law 389 = .ok (.aload_n 2, 1) := by decide +kernel
theorem d_L_law_390 : decode c_L_law 390 = .ok (.invokevirtual 62, 3) := by decide +kernel
theorem d_L_law_393 : decode c_L_law 393 = .ok (.iload 5, 2) := by decide +kernel
theorem d_L_law_395 : decode c_L_law 395 = .ok (.if_icmp .eq 5, 3) := by decide +kernel
theorem d_L_law_398 : decode c_L_law 398 = .ok (.iconst 0, 1) := by decide +kernel
theorem d_L_law_399 : decode c_L_law 399 = .ok (.ireturn, 1) := by decide +kernel
theorem d_L_law_400 : decode c_L_law 400 = .ok (.iload 5, 2) := by decide +kernel
theorem d_L_law_402 : decode c_L_law 402 = .ok (.ifCond .ne 15, 3) := by decide +kernel
theorem d_L_law_405 : decode c_L_law 405 = .ok (.aload_n 3, 1) := by decide +kernel
theorem d_L_law_406 : decode c_L_law 406 = .ok (.iconst 0, 1) := by decide +kernel
theorem d_L_law_407 : decode c_L_law 407 = .ok (.laload, 1) := by decide +kernel
theorem d_L_law_408 : decode c_L_law 408 = .ok (.iload 6, 2) := by decide +kernel
theorem d_L_law_410 : decode c_L_law 410 = .ok (.i2l, 1) := by decide +kernel
theorem d_L_law_411 : decode c_L_law 411 = .ok (.lcmp, 1) := by decide +kernel
theorem d_L_law_412 : decode c_L_law 412 = .ok (.ifCond .eq 5, 3) := by decide +kernel
theorem d_L_law_415 : decode c_L_law 415 = .ok (.iconst 0, 1) := by decide +kernel
theorem d_L_law_416 : decode c_L_law 416 = .ok (.ireturn, 1) := by decide +kernel
theorem d_L_law_417 : decode c_L_law 417 = .ok (.goto 316, 3) := by decide +kernel
theorem d_L_law_420 : decode c_L_law 420 = .ok (.aload_n 1, 1) := by decide +kernel
theorem d_L_law_421 : decode c_L_law 421 = .ok (.invokevirtual 85, 3) := by decide +kernel
theorem d_L_law_424 : decode c_L_law 424 = .ok (.aload_n 2, 1) := by decide +kernel
theorem d_L_law_425 : decode c_L_law 425 = .ok (.invokevirtual 89, 3) := by decide +kernel
theorem d_L_law_428 : decode c_L_law 428 = .ok (.if_icmp .eq 305, 3) := by decide +kernel
theorem d_L_law_431 : decode c_L_law 431 = .ok (.iconst 0, 1) := by decide +kernel
theorem d_L_law_432 : decode c_L_law 432 = .ok (.ireturn, 1) := by decide +kernel
theorem d_L_law_433 : decode c_L_law 433 = .ok (.aload_n 1, 1) := by decide +kernel
theorem d_L_law_434 : decode c_L_law 434 = .ok (.aload_n 0, 1) := by decide +kernel
theorem d_L_law_435 : decode c_L_law 435 = .ok (.iload 4, 2) := by decide +kernel
theorem d_L_law_437 : decode c_L_law 437 = .ok (.iconst 1, 1) := by decide +kernel
theorem d_L_law_438 : decode c_L_law 438 = .ok (.iadd, 1) := by decide +kernel
theorem d_L_law_439 : decode c_L_law 439 = .ok (.iaload, 1) := by decide +kernel
theorem d_L_law_440 : decode c_L_law 440 = .ok (.invokevirtual 90, 3) := by decide +kernel
theorem d_L_law_443 : decode c_L_law 443 = .ok (.aload_n 2, 1) := by decide +kernel
theorem d_L_law_444 : decode c_L_law 444 = .ok (.aload_n 0, 1) := by decide +kernel
theorem d_L_law_445 : decode c_L_law 445 = .ok (.iload 4, 2) := by decide +kernel
theorem d_L_law_447 : decode c_L_law 447 = .ok (.iconst 1, 1) := by decide +kernel
theorem d_L_law_448 : decode c_L_law 448 = .ok (.iadd, 1) := by decide +kernel
theorem d_L_law_449 : decode c_L_law 449 = .ok (.iaload, 1) := by decide +kernel
theorem d_L_law_450 : decode c_L_law 450 = .ok (.invokevirtual 93, 3) := by decide +kernel
theorem d_L_law_453 : decode c_L_law 453 = .ok (.if_icmp .eq 280, 3) := by decide +kernel
theorem d_L_law_456 : decode c_L_law 456 = .ok (.iconst 0, 1) := by decide +kernel
theorem d_L_law_457 : decode c_L_law 457 = .ok (.ireturn, 1) := by decide +kernel
theorem d_L_law_458 : decode c_L_law 458 = .ok (.aload_n 1, 1) := by decide +kernel
theorem d_L_law_459 : decode c_L_law 459 = .ok (.aload_n 0, 1) := by decide +kernel
theorem d_L_law_460 : decode c_L_law 460 = .ok (.iload 4, 2) := by decide +kernel
theorem d_L_law_462 : decode c_L_law 462 = .ok (.iconst 1, 1) := by decide +kernel
theorem d_L_law_463 : decode c_L_law 463 = .ok (.iadd, 1) := by decide +kernel
theorem d_L_law_464 : decode c_L_law 464 = .ok (.iaload, 1) := by decide +kernel
theorem d_L_law_465 : decode c_L_law 465 = .ok (.aload_n 3, 1) := by decide +kernel
theorem d_L_law_466 : decode c_L_law 466 = .ok (.invokestatic 94, 3) := by decide +kernel
theorem d_L_law_469 : decode c_L_law 469 = .ok (.istore 5, 2) := by decide +kernel
theorem d_L_law_471 : decode c_L_law 471 = .ok (.aload_n 2, 1) := by decide +kernel
theorem d_L_law_472 : decode c_L_law 472 = .ok (.aload_n 0, 1) := by decide +kernel
theorem d_L_law_473 : decode c_L_law 473 = .ok (.iload 4, 2) := by decide +kernel
theorem d_L_law_475 : decode c_L_law 475 = .ok (.iconst 1, 1) := by decide +kernel
theorem d_L_law_476 : decode c_L_law 476 = .ok (.iadd, 1) := by decide +kernel
theorem d_L_law_477 : decode c_L_law 477 = .ok (.iaload, 1) := by decide +kernel
theorem d_L_law_478 : decode c_L_law 478 = .ok (.invokevirtual 97, 3) := by decide +kernel
theorem d_L_law_481 : decode c_L_law 481 = .ok (.istore 6, 2) := by decide +kernel
theorem d_L_law_483 : decode c_L_law 483 = .ok (.aload_n 2, 1) := by decide +kernel
theorem d_L_law_484 : decode c_L_law 484 = .ok (.invokevirtual 62, 3) := by decide +kernel
theorem d_L_law_487 : decode c_L_law 487 = .ok (.iload 5, 2) := by decide +kernel
theorem d_L_law_489 : decode c_L_law 489 = .ok (.if_icmp .eq 5, 3) := by decide +kernel
theorem d_L_law_492 : decode c_L_law 492 = .ok (.iconst 0, 1) := by decide +kernel
theorem d_L_law_493 : decode c_L_law 493 = .ok (.ireturn, 1) := by decide +kernel
theorem d_L_law_494 : decode c_L_law 494 = .ok (.iload 5, 2) := by decide +kernel
theorem d_L_law_496 : decode c_L_law 496 = .ok (.ifCond .ne 15, 3) := by decide +kernel
theorem d_L_law_499 : decode c_L_law 499 = .ok (.aload_n 3, 1) := by decide +kernel
theorem d_L_law_500 : decode c_L_law 500 = .ok (.iconst 0, 1) := by decide +kernel
theorem d_L_law_501 : decode c_L_law 501 = .ok (.laload, 1) := by decide +kernel
theorem d_L_law_502 : decode c_L_law 502 = .ok (.iload 6, 2) := by decide +kernel
theorem d_L_law_504 : decode c_L_law 504 = .ok (.i2l, 1) := by decide +kernel
theorem d_L_law_505 : decode c_L_law 505 = .ok (.lcmp, 1) := by decide +kernel
theorem d_L_law_506 : decode c_L_law 506 = .ok (.ifCond .eq 5, 3) := by decide +kernel
theorem d_L_law_509 : decode c_L_law 509 = .ok (.iconst 0, 1) := by decide +kernel
theorem d_L_law_510 : decode c_L_law 510 = .ok (.ireturn, 1) := by decide +kernel
theorem d_L_law_511 : decode c_L_law 511 = .ok (.goto 222, 3) := by decide +kernel
theorem d_L_law_514 : decode c_L_law 514 = .ok (.aload_n 1, 1) := by decide +kernel
theorem d_L_law_515 : decode c_L_law 515 = .ok (.aload_n 0, 1) := by decide +kernel
theorem d_L_law_516 : decode c_L_law 516 = .ok (.iload 4, 2) := by decide +kernel
theorem d_L_law_518 : decode c_L_law 518 = .ok (.iconst 1, 1) := by decide +kernel
theorem d_L_law_519 : decode c_L_law 519 = .ok (.iadd, 1) := by decide +kernel
theorem d_L_law_520 : decode c_L_law 520 = .ok (.iaload, 1) := by decide +kernel
theorem d_L_law_521 : decode c_L_law 521 = .ok (.aload_n 0, 1) := by decide +kernel
theorem d_L_law_522 : decode c_L_law 522 = .ok (.iload 4, 2) := by decide +kernel
theorem d_L_law_524 : decode c_L_law 524 = .ok (.iconst 2, 1) := by decide +kernel
theorem d_L_law_525 : decode c_L_law 525 = .ok (.iadd, 1) := by decide +kernel
theorem d_L_law_526 : decode c_L_law 526 = .ok (.iaload, 1) := by decide +kernel
theorem d_L_law_527 : decode c_L_law 527 = .ok (.aload_n 0, 1) := by decide +kernel
theorem d_L_law_528 : decode c_L_law 528 = .ok (.iload 4, 2) := by decide +kernel
theorem d_L_law_530 : decode c_L_law 530 = .ok (.iconst 3, 1) := by decide +kernel
theorem d_L_law_531 : decode c_L_law 531 = .ok (.iadd, 1) := by decide +kernel
theorem d_L_law_532 : decode c_L_law 532 = .ok (.iaload, 1) := by decide +kernel
theorem d_L_law_533 : decode c_L_law 533 = .ok (.ifCond .eq 7, 3) := by decide +kernel
theorem d_L_law_536 : decode c_L_law 536 = .ok (.iconst 1, 1) := by decide +kernel
theorem d_L_law_537 : decode c_L_law 537 = .ok (.goto 4, 3) := by decide +kernel
theorem d_L_law_540 : decode c_L_law 540 = .ok (.iconst 0, 1) := by decide +kernel
theorem d_L_law_541 : decode c_L_law 541 = .ok (.aload_n 3, 1) := by decide +kernel
theorem d_L_law_542 : decode c_L_law 542 = .ok (.invokestatic 98, 3) := by decide +kernel
theorem d_L_law_545 : decode c_L_law 545 = .ok (.istore 5, 2) := by decide +kernel
theorem d_L_law_547 : decode c_L_law 547 = .ok (.aload_n 2, 1) := by decide +kernel
theorem d_L_law_548 : decode c_L_law 548 = .ok (.aload_n 0, 1) := by decide +kernel
theorem d_L_law_549 : decode c_L_law 549 = .ok (.iload 4, 2) := by decide +kernel
theorem d_L_law_551 : decode c_L_law 551 = .ok (.iconst 1, 1) := by decide +kernel
theorem d_L_law_552 : decode c_L_law 552 = .ok (.iadd, 1) := by decide +kernel
theorem d_L_law_553 : decode c_L_law 553 = .ok (.iaload, 1) := by decide +kernel
theorem d_L_law_554 : decode c_L_law 554 = .ok (.aload_n 0, 1) := by decide +kernel
theorem d_L_law_555 : decode c_L_law 555 = .ok (.iload 4, 2) := by decide +kernel
theorem d_L_law_557 : decode c_L_law 557 = .ok (.iconst 2, 1) := by decide +kernel
theorem d_L_law_558 : decode c_L_law 558 = .ok (.iadd, 1) := by decide +kernel
theorem d_L_law_559 : decode c_L_law 559 = .ok (.iaload, 1) := by decide +kernel
theorem d_L_law_560 : decode c_L_law 560 = .ok (.aload_n 0, 1) := by decide +kernel
theorem d_L_law_561 : decode c_L_law 561 = .ok (.iload 4, 2) := by decide +kernel
theorem d_L_law_563 : decode c_L_law 563 = .ok (.iconst 3, 1) := by decide +kernel
theorem d_L_law_564 : decode c_L_law 564 = .ok (.iadd, 1) := by decide +kernel
theorem d_L_law_565 : decode c_L_law 565 = .ok (.iaload, 1) := by decide +kernel
theorem d_L_law_566 : decode c_L_law 566 = .ok (.ifCond .eq 7, 3) := by decide +kernel
theorem d_L_law_569 : decode c_L_law 569 = .ok (.iconst 1, 1) := by decide +kernel
theorem d_L_law_570 : decode c_L_law 570 = .ok (.goto 4, 3) := by decide +kernel
theorem d_L_law_573 : decode c_L_law 573 = .ok (.iconst 0, 1) := by decide +kernel
theorem d_L_law_574 : decode c_L_law 574 = .ok (.invokevirtual 101, 3) := by decide +kernel
theorem d_L_law_577 : decode c_L_law 577 = .ok (.lstore 6, 2) := by decide +kernel
theorem d_L_law_579 : decode c_L_law 579 = .ok (.aload_n 2, 1) := by decide +kernel
theorem d_L_law_580 : decode c_L_law 580 = .ok (.invokevirtual 62, 3) := by decide +kernel
theorem d_L_law_583 : decode c_L_law 583 = .ok (.iload 5, 2) := by decide +kernel
theorem d_L_law_585 : decode c_L_law 585 = .ok (.if_icmp .eq 5, 3) := by decide +kernel
theorem d_L_law_588 : decode c_L_law 588 = .ok (.iconst 0, 1) := by decide +kernel
theorem d_L_law_589 : decode c_L_law 589 = .ok (.ireturn, 1) := by decide +kernel
theorem d_L_law_590 : decode c_L_law 590 = .ok (.iload 5, 2) := by decide +kernel
theorem d_L_law_592 : decode c_L_law 592 = .ok (.ifCond .ne 14, 3) := by decide +kernel
theorem d_L_law_595 : decode c_L_law 595 = .ok (.aload_n 3, 1) := by decide +kernel
theorem d_L_law_596 : decode c_L_law 596 = .ok (.iconst 0, 1) := by decide +kernel
theorem d_L_law_597 : decode c_L_law 597 = .ok (.laload, 1) := by decide +kernel
theorem d_L_law_598 : decode c_L_law 598 = .ok (.lload 6, 2) := by decide +kernel
theorem d_L_law_600 : decode c_L_law 600 = .ok (.lcmp, 1) := by decide +kernel
theorem d_L_law_601 : decode c_L_law 601 = .ok (.ifCond .eq 5, 3) := by decide +kernel
theorem d_L_law_604 : decode c_L_law 604 = .ok (.iconst 0, 1) := by decide +kernel
theorem d_L_law_605 : decode c_L_law 605 = .ok (.ireturn, 1) := by decide +kernel
theorem d_L_law_606 : decode c_L_law 606 = .ok (.goto 127, 3) := by decide +kernel
theorem d_L_law_609 : decode c_L_law 609 = .ok (.aload_n 1, 1) := by decide +kernel
theorem d_L_law_610 : decode c_L_law 610 = .ok (.aload_n 0, 1) := by decide +kernel
theorem d_L_law_611 : decode c_L_law 611 = .ok (.iload 4, 2) := by decide +kernel
theorem d_L_law_613 : decode c_L_law 613 = .ok (.iconst 1, 1) := by decide +kernel
theorem d_L_law_614 : decode c_L_law 614 = .ok (.iadd, 1) := by decide +kernel
theorem d_L_law_615 : decode c_L_law 615 = .ok (.iaload, 1) := by decide +kernel
theorem d_L_law_616 : decode c_L_law 616 = .ok (.aload_n 3, 1) := by decide +kernel
theorem d_L_law_617 : decode c_L_law 617 = .ok (.invokestatic 102, 3) := by decide +kernel
theorem d_L_law_620 : decode c_L_law 620 = .ok (.istore 5, 2) := by decide +kernel
theorem d_L_law_622 : decode c_L_law 622 = .ok (.aload_n 2, 1) := by decide +kernel
theorem d_L_law_623 : decode c_L_law 623 = .ok (.aload_n 0, 1) := by decide +kernel
theorem d_L_law_624 : decode c_L_law 624 = .ok (.iload 4, 2) := by decide +kernel
theorem d_L_law_626 : decode c_L_law 626 = .ok (.iconst 1, 1) := by decide +kernel
theorem d_L_law_627 : decode c_L_law 627 = .ok (.iadd, 1) := by decide +kernel
theorem d_L_law_628 : decode c_L_law 628 = .ok (.iaload, 1) := by decide +kernel
theorem d_L_law_629 : decode c_L_law 629 = .ok (.invokevirtual 104, 3) := by decide +kernel
theorem d_L_law_632 : decode c_L_law 632 = .ok (.istore 6, 2) := by decide +kernel
theorem d_L_law_634 : decode c_L_law 634 = .ok (.aload_n 2, 1) := by decide +kernel
theorem d_L_law_635 : decode c_L_law 635 = .ok (.invokevirtual 62, 3) := by decide +kernel
theorem d_L_law_638 : decode c_L_law 638 = .ok (.iload 5, 2) := by decide +kernel
theorem d_L_law_640 : decode c_L_law 640 = .ok (.if_icmp .eq 5, 3) := by decide +kernel
theorem d_L_law_643 : decode c_L_law 643 = .ok (.iconst 0, 1) := by decide +kernel
theorem d_L_law_644 : decode c_L_law 644 = .ok (.ireturn, 1) := by decide +kernel
theorem d_L_law_645 : decode c_L_law 645 = .ok (.iload 5, 2) := by decide +kernel
theorem d_L_law_647 : decode c_L_law 647 = .ok (.ifCond .ne 15, 3) := by decide +kernel
theorem d_L_law_650 : decode c_L_law 650 = .ok (.aload_n 3, 1) := by decide +kernel
theorem d_L_law_651 : decode c_L_law 651 = .ok (.iconst 0, 1) := by decide +kernel
theorem d_L_law_652 : decode c_L_law 652 = .ok (.laload, 1) := by decide +kernel
theorem d_L_law_653 : decode c_L_law 653 = .ok (.iload 6, 2) := by decide +kernel
theorem d_L_law_655 : decode c_L_law 655 = .ok (.i2l, 1) := by decide +kernel
theorem d_L_law_656 : decode c_L_law 656 = .ok (.lcmp, 1) := by decide +kernel
theorem d_L_law_657 : decode c_L_law 657 = .ok (.ifCond .eq 5, 3) := by decide +kernel
theorem d_L_law_660 : decode c_L_law 660 = .ok (.iconst 0, 1) := by decide +kernel
theorem d_L_law_661 : decode c_L_law 661 = .ok (.ireturn, 1) := by decide +kernel
theorem d_L_law_662 : decode c_L_law 662 = .ok (.goto 71, 3) := by decide +kernel
theorem d_L_law_665 : decode c_L_law 665 = .ok (.aload_n 1, 1) := by decide +kernel
theorem d_L_law_666 : decode c_L_law 666 = .ok (.aload_n 0, 1) := by decide +kernel
theorem d_L_law_667 : decode c_L_law 667 = .ok (.iload 4, 2) := by decide +kernel
theorem d_L_law_669 : decode c_L_law 669 = .ok (.iconst 1, 1) := by decide +kernel
theorem d_L_law_670 : decode c_L_law 670 = .ok (.iadd, 1) := by decide +kernel
theorem d_L_law_671 : decode c_L_law 671 = .ok (.iaload, 1) := by decide +kernel
theorem d_L_law_672 : decode c_L_law 672 = .ok (.aload_n 0, 1) := by decide +kernel
theorem d_L_law_673 : decode c_L_law 673 = .ok (.iload 4, 2) := by decide +kernel
theorem d_L_law_675 : decode c_L_law 675 = .ok (.iconst 2, 1) := by decide +kernel
theorem d_L_law_676 : decode c_L_law 676 = .ok (.iadd, 1) := by decide +kernel
theorem d_L_law_677 : decode c_L_law 677 = .ok (.iaload, 1) := by decide +kernel
theorem d_L_law_678 : decode c_L_law 678 = .ok (.aload_n 3, 1) := by decide +kernel
theorem d_L_law_679 : decode c_L_law 679 = .ok (.invokestatic 105, 3) := by decide +kernel
theorem d_L_law_682 : decode c_L_law 682 = .ok (.istore 5, 2) := by decide +kernel
theorem d_L_law_684 : decode c_L_law 684 = .ok (.aload_n 2, 1) := by decide +kernel
theorem d_L_law_685 : decode c_L_law 685 = .ok (.aload_n 0, 1) := by decide +kernel
theorem d_L_law_686 : decode c_L_law 686 = .ok (.iload 4, 2) := by decide +kernel
theorem d_L_law_688 : decode c_L_law 688 = .ok (.iconst 1, 1) := by decide +kernel
theorem d_L_law_689 : decode c_L_law 689 = .ok (.iadd, 1) := by decide +kernel
theorem d_L_law_690 : decode c_L_law 690 = .ok (.iaload, 1) := by decide +kernel
theorem d_L_law_691 : decode c_L_law 691 = .ok (.aload_n 0, 1) := by decide +kernel
theorem d_L_law_692 : decode c_L_law 692 = .ok (.iload 4, 2) := by decide +kernel
theorem d_L_law_694 : decode c_L_law 694 = .ok (.iconst 2, 1) := by decide +kernel
theorem d_L_law_695 : decode c_L_law 695 = .ok (.iadd, 1) := by decide +kernel
theorem d_L_law_696 : decode c_L_law 696 = .ok (.iaload, 1) := by decide +kernel
theorem d_L_law_697 : decode c_L_law 697 = .ok (.invokevirtual 108, 3) := by decide +kernel
theorem d_L_law_700 : decode c_L_law 700 = .ok (.istore 6, 2) := by decide +kernel
theorem d_L_law_702 : decode c_L_law 702 = .ok (.aload_n 2, 1) := by decide +kernel
theorem d_L_law_703 : decode c_L_law 703 = .ok (.invokevirtual 62, 3) := by decide +kernel
theorem d_L_law_706 : decode c_L_law 706 = .ok (.iload 5, 2) := by decide +kernel
theorem d_L_law_708 : decode c_L_law 708 = .ok (.if_icmp .eq 5, 3) := by decide +kernel
theorem d_L_law_711 : decode c_L_law 711 = .ok (.iconst 0, 1) := by decide +kernel
theorem d_L_law_712 : decode c_L_law 712 = .ok (.ireturn, 1) := by decide +kernel
theorem d_L_law_713 : decode c_L_law 713 = .ok (.iload 5, 2) := by decide +kernel
theorem d_L_law_715 : decode c_L_law 715 = .ok (.ifCond .ne 15, 3) := by decide +kernel
theorem d_L_law_718 : decode c_L_law 718 = .ok (.aload_n 3, 1) := by decide +kernel
theorem d_L_law_719 : decode c_L_law 719 = .ok (.iconst 0, 1) := by decide +kernel
theorem d_L_law_720 : decode c_L_law 720 = .ok (.laload, 1) := by decide +kernel
theorem d_L_law_721 : decode c_L_law 721 = .ok (.iload 6, 2) := by decide +kernel
theorem d_L_law_723 : decode c_L_law 723 = .ok (.i2l, 1) := by decide +kernel
theorem d_L_law_724 : decode c_L_law 724 = .ok (.lcmp, 1) := by decide +kernel
theorem d_L_law_725 : decode c_L_law 725 = .ok (.ifCond .eq 5, 3) := by decide +kernel
theorem d_L_law_728 : decode c_L_law 728 = .ok (.iconst 0, 1) := by decide +kernel
theorem d_L_law_729 : decode c_L_law 729 = .ok (.ireturn, 1) := by decide +kernel
theorem d_L_law_730 : decode c_L_law 730 = .ok (.goto 3, 3) := by decide +kernel
theorem d_L_law_733 : decode c_L_law 733 = .ok (.iinc 4 4, 3) := by decide +kernel
theorem d_L_law_736 : decode c_L_law 736 = .ok (.goto (-713), 3) := by decide +kernel
theorem d_L_law_739 : decode c_L_law 739 = .ok (.iconst 1, 1) := by decide +kernel
theorem d_L_law_740 : decode c_L_law 740 = .ok (.ireturn, 1) := by decide +kernel
