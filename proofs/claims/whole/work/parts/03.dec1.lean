theorem dX0_init_0 : decode cX0_init 0 = .ok (.aload_n 0, 1) := by decide +kernel
theorem dX0_init_1 : decode cX0_init 1 = .ok (.invokespecial 1, 3) := by decide +kernel
theorem dX0_init_4 : decode cX0_init 4 = .ok (.aload_n 0, 1) := by decide +kernel
theorem dX0_init_5 : decode cX0_init 5 = .ok (.iconst 4, 1) := by decide +kernel
theorem dX0_init_6 : decode cX0_init 6 = .ok (.putfield 9, 3) := by decide +kernel
theorem dX0_init_9 : decode cX0_init 9 = .ok (.aload_n 0, 1) := by decide +kernel
theorem dX0_init_10 : decode cX0_init 10 = .ok (.iconst 0, 1) := by decide +kernel
theorem dX0_init_11 : decode cX0_init 11 = .ok (.putfield 13, 3) := by decide +kernel
theorem dX0_init_14 : decode cX0_init 14 = .ok (.aload_n 0, 1) := by decide +kernel
theorem dX0_init_15 : decode cX0_init 15 = .ok (.iconst 0, 1) := by decide +kernel
theorem dX0_init_16 : decode cX0_init 16 = .ok (.putfield 16, 3) := by decide +kernel
theorem dX0_init_19 : decode cX0_init 19 = .ok (.return_, 1) := by decide +kernel
theorem dX0_become_0 : decode cX0_become 0 = .ok (.aload_n 0, 1) := by decide +kernel
theorem dX0_become_1 : decode cX0_become 1 = .ok (.iload_n 1, 1) := by decide +kernel
theorem dX0_become_2 : decode cX0_become 2 = .ok (.putfield 9, 3) := by decide +kernel
theorem dX0_become_5 : decode cX0_become 5 = .ok (.aload_n 0, 1) := by decide +kernel
theorem dX0_become_6 : decode cX0_become 6 = .ok (.iload_n 2, 1) := by decide +kernel
theorem dX0_become_7 : decode cX0_become 7 = .ok (.putfield 13, 3) := by decide +kernel
theorem dX0_become_10 : decode cX0_become 10 = .ok (.aload_n 0, 1) := by decide +kernel
theorem dX0_become_11 : decode cX0_become 11 = .ok (.iload_n 3, 1) := by decide +kernel
theorem dX0_become_12 : decode cX0_become 12 = .ok (.putfield 16, 3) := by decide +kernel
theorem dX0_become_15 : decode cX0_become 15 = .ok (.return_, 1) := by decide +kernel
theorem dX1_init_0 : decode cX1_init 0 = .ok (.aload_n 0, 1) := by decide +kernel
theorem dX1_init_1 : decode cX1_init 1 = .ok (.invokespecial 3, 3) := by decide +kernel
theorem dX1_init_4 : decode cX1_init 4 = .ok (.aload_n 0, 1) := by decide +kernel
theorem dX1_init_5 : decode cX1_init 5 = .ok (.new 9, 3) := by decide +kernel
theorem dX1_init_8 : decode cX1_init 8 = .ok (.dup, 1) := by decide +kernel
theorem dX1_init_9 : decode cX1_init 9 = .ok (.invokespecial 11, 3) := by decide +kernel
theorem dX1_init_12 : decode cX1_init 12 = .ok (.putfield 12, 3) := by decide +kernel
theorem dX1_init_15 : decode cX1_init 15 = .ok (.aload_n 0, 1) := by decide +kernel
theorem dX1_init_16 : decode cX1_init 16 = .ok (.new 18, 3) := by decide +kernel
theorem dX1_init_19 : decode cX1_init 19 = .ok (.dup, 1) := by decide +kernel
theorem dX1_init_20 : decode cX1_init 20 = .ok (.invokespecial 20, 3) := by decide +kernel
theorem dX1_init_23 : decode cX1_init 23 = .ok (.putfield 21, 3) := by decide +kernel
theorem dX1_init_26 : decode cX1_init 26 = .ok (.aload_n 0, 1) := by decide +kernel
theorem dX1_init_27 : decode cX1_init 27 = .ok (.iconst 0, 1) := by decide +kernel
theorem dX1_init_28 : decode cX1_init 28 = .ok (.putfield 25, 3) := by decide +kernel
theorem dX1_init_31 : decode cX1_init 31 = .ok (.aload_n 0, 1) := by decide +kernel
theorem dX1_init_32 : decode cX1_init 32 = .ok (.iconst 0, 1) := by decide +kernel
theorem dX1_init_33 : decode cX1_init 33 = .ok (.putfield 29, 3) := by decide +kernel
theorem dX1_init_36 : decode cX1_init 36 = .ok (.aload_n 0, 1) := by decide +kernel
theorem dX1_init_37 : decode cX1_init 37 = .ok (.iconst 0, 1) := by decide +kernel
theorem dX1_init_38 : decode cX1_init 38 = .ok (.putfield 32, 3) := by decide +kernel
theorem dX1_init_41 : decode cX1_init 41 = .ok (.aload_n 0, 1) := by decide +kernel
theorem dX1_init_42 : decode cX1_init 42 = .ok (.bipush (-6), 2) := by decide +kernel
theorem dX1_init_44 : decode cX1_init 44 = .ok (.putfield 35, 3) := by decide +kernel
theorem dX1_init_47 : decode cX1_init 47 = .ok (.aload_n 0, 1) := by decide +kernel
theorem dX1_init_48 : decode cX1_init 48 = .ok (.bipush (-6), 2) := by decide +kernel
theorem dX1_init_50 : decode cX1_init 50 = .ok (.putfield 38, 3) := by decide +kernel
theorem dX1_init_53 : decode cX1_init 53 = .ok (.return_, 1) := by decide +kernel
theorem dX1_run_0 : decode cX1_run 0 = .ok (.aload_n 0, 1) := by decide +kernel
theorem dX1_run_1 : decode cX1_run 1 = .ok (.aload_n 2, 1) := by decide +kernel
theorem dX1_run_2 : decode cX1_run 2 = .ok (.invokevirtual 41, 3) := by decide +kernel
theorem dX1_run_5 : decode cX1_run 5 = .ok (.iconst 0, 1) := by decide +kernel
theorem dX1_run_6 : decode cX1_run 6 = .ok (.istore_n 3, 1) := by decide +kernel
theorem dX1_run_7 : decode cX1_run 7 = .ok (.iconst 0, 1) := by decide +kernel
theorem dX1_run_8 : decode cX1_run 8 = .ok (.istore 4, 2) := by decide +kernel
theorem dX1_run_10 : decode cX1_run 10 = .ok (.iload 4, 2) := by decide +kernel
theorem dX1_run_12 : decode cX1_run 12 = .ok (.bipush 60, 2) := by decide +kernel
theorem dX1_run_14 : decode cX1_run 14 = .ok (.if_icmp .ge 66, 3) := by decide +kernel
theorem dX1_run_17 : decode cX1_run 17 = .ok (.iload_n 3, 1) := by decide +kernel
theorem dX1_run_18 : decode cX1_run 18 = .ok (.aload_n 1, 1) := by decide +kernel
theorem dX1_run_19 : decode cX1_run 19 = .ok (.getfield 45, 3) := by decide +kernel
theorem dX1_run_22 : decode cX1_run 22 = .ok (.if_icmp .ge 58, 3) := by decide +kernel
theorem dX1_run_25 : decode cX1_run 25 = .ok (.iload_n 3, 1) := by decide +kernel
theorem dX1_run_26 : decode cX1_run 26 = .ok (.aload_n 1, 1) := by decide +kernel
theorem dX1_run_27 : decode cX1_run 27 = .ok (.iload_n 3, 1) := by decide +kernel
theorem dX1_run_28 : decode cX1_run 28 = .ok (.aload_n 0, 1) := by decide +kernel
theorem dX1_run_29 : decode cX1_run 29 = .ok (.getfield 21, 3) := by decide +kernel
theorem dX1_run_32 : decode cX1_run 32 = .ok (.invokevirtual 50, 3) := by decide +kernel
theorem dX1_run_35 : decode cX1_run 35 = .ok (.iadd, 1) := by decide +kernel
theorem dX1_run_36 : decode cX1_run 36 = .ok (.istore_n 3, 1) := by decide +kernel
theorem dX1_run_37 : decode cX1_run 37 = .ok (.aload_n 0, 1) := by decide +kernel
theorem dX1_run_38 : decode cX1_run 38 = .ok (.aload_n 0, 1) := by decide +kernel
theorem dX1_run_39 : decode cX1_run 39 = .ok (.getfield 12, 3) := by decide +kernel
theorem dX1_run_42 : decode cX1_run 42 = .ok (.aload_n 0, 1) := by decide +kernel
theorem dX1_run_43 : decode cX1_run 43 = .ok (.getfield 21, 3) := by decide +kernel
theorem dX1_run_46 : decode cX1_run 46 = .ok (.invokevirtual 54, 3) := by decide +kernel
theorem dX1_run_49 : decode cX1_run 49 = .ok (.putfield 29, 3) := by decide +kernel
theorem dX1_run_52 : decode cX1_run 52 = .ok (.aload_n 0, 1) := by decide +kernel
theorem dX1_run_53 : decode cX1_run 53 = .ok (.getfield 29, 3) := by decide +kernel
theorem dX1_run_56 : decode cX1_run 56 = .ok (.ifCond .eq 4, 3) := by decide +kernel
theorem dX1_run_59 : decode cX1_run 59 = .ok (.return_, 1) := by decide +kernel
theorem dX1_run_60 : decode cX1_run 60 = .ok (.aload_n 0, 1) := by decide +kernel
theorem dX1_run_61 : decode cX1_run 61 = .ok (.invokevirtual 58, 3) := by decide +kernel
theorem dX1_run_64 : decode cX1_run 64 = .ok (.aload_n 0, 1) := by decide +kernel
theorem dX1_run_65 : decode cX1_run 65 = .ok (.dup, 1) := by decide +kernel
theorem dX1_run_66 : decode cX1_run 66 = .ok (.getfield 25, 3) := by decide +kernel
theorem dX1_run_69 : decode cX1_run 69 = .ok (.iconst 1, 1) := by decide +kernel
theorem dX1_run_70 : decode cX1_run 70 = .ok (.iadd, 1) := by decide +kernel
theorem dX1_run_71 : decode cX1_run 71 = .ok (.putfield 25, 3) := by decide +kernel
theorem dX1_run_74 : decode cX1_run 74 = .ok (.iinc 4 1, 3) := by decide +kernel
theorem dX1_run_77 : decode cX1_run 77 = .ok (.goto (-67), 3) := by decide +kernel
theorem dX1_run_80 : decode cX1_run 80 = .ok (.return_, 1) := by decide +kernel
theorem dX1_begin_0 : decode cX1_begin 0 = .ok (.aload_n 0, 1) := by decide +kernel
theorem dX1_begin_1 : decode cX1_begin 1 = .ok (.getfield 12, 3) := by decide +kernel
theorem dX1_begin_4 : decode cX1_begin 4 = .ok (.aload_n 1, 1) := by decide +kernel
theorem dX1_begin_5 : decode cX1_begin 5 = .ok (.invokevirtual 61, 3) := by decide +kernel
theorem dX1_begin_8 : decode cX1_begin 8 = .ok (.aload_n 0, 1) := by decide +kernel
theorem dX1_begin_9 : decode cX1_begin 9 = .ok (.iconst 0, 1) := by decide +kernel
theorem dX1_begin_10 : decode cX1_begin 10 = .ok (.putfield 25, 3) := by decide +kernel
theorem dX1_begin_13 : decode cX1_begin 13 = .ok (.aload_n 0, 1) := by decide +kernel
theorem dX1_begin_14 : decode cX1_begin 14 = .ok (.iconst 0, 1) := by decide +kernel
theorem dX1_begin_15 : decode cX1_begin 15 = .ok (.putfield 29, 3) := by decide +kernel
theorem dX1_begin_18 : decode cX1_begin 18 = .ok (.aload_n 0, 1) := by decide +kernel
theorem dX1_begin_19 : decode cX1_begin 19 = .ok (.iconst 0, 1) := by decide +kernel
theorem dX1_begin_20 : decode cX1_begin 20 = .ok (.putfield 32, 3) := by decide +kernel
theorem dX1_begin_23 : decode cX1_begin 23 = .ok (.aload_n 0, 1) := by decide +kernel
theorem dX1_begin_24 : decode cX1_begin 24 = .ok (.bipush (-6), 2) := by decide +kernel
theorem dX1_begin_26 : decode cX1_begin 26 = .ok (.putfield 35, 3) := by decide +kernel
theorem dX1_begin_29 : decode cX1_begin 29 = .ok (.aload_n 0, 1) := by decide +kernel
theorem dX1_begin_30 : decode cX1_begin 30 = .ok (.bipush (-6), 2) := by decide +kernel
theorem dX1_begin_32 : decode cX1_begin 32 = .ok (.putfield 38, 3) := by decide +kernel
theorem dX1_begin_35 : decode cX1_begin 35 = .ok (.return_, 1) := by decide +kernel
theorem dX1_noteDown_0 : decode cX1_noteDown 0 = .ok (.aload_n 0, 1) := by decide +kernel
theorem dX1_noteDown_1 : decode cX1_noteDown 1 = .ok (.getfield 21, 3) := by decide +kernel
theorem dX1_noteDown_4 : decode cX1_noteDown 4 = .ok (.getfield 64, 3) := by decide +kernel
theorem dX1_noteDown_7 : decode cX1_noteDown 7 = .ok (.ifCond .ne 20, 3) := by decide +kernel
theorem dX1_noteDown_10 : decode cX1_noteDown 10 = .ok (.aload_n 0, 1) := by decide +kernel
theorem dX1_noteDown_11 : decode cX1_noteDown 11 = .ok (.getfield 12, 3) := by decide +kernel
theorem dX1_noteDown_14 : decode cX1_noteDown 14 = .ok (.aload_n 0, 1) := by decide +kernel
theorem dX1_noteDown_15 : decode cX1_noteDown 15 = .ok (.getfield 21, 3) := by decide +kernel
theorem dX1_noteDown_18 : decode cX1_noteDown 18 = .ok (.getfield 67, 3) := by decide +kernel
theorem dX1_noteDown_21 : decode cX1_noteDown 21 = .ok (.invokevirtual 70, 3) := by decide +kernel
theorem dX1_noteDown_24 : decode cX1_noteDown 24 = .ok (.ifCond .eq 4, 3) := by decide +kernel
theorem dX1_noteDown_27 : decode cX1_noteDown 27 = .ok (.return_, 1) := by decide +kernel
theorem dX1_noteDown_28 : decode cX1_noteDown 28 = .ok (.aload_n 0, 1) := by decide +kernel
theorem dX1_noteDown_29 : decode cX1_noteDown 29 = .ok (.getfield 32, 3) := by decide +kernel
theorem dX1_noteDown_32 : decode cX1_noteDown 32 = .ok (.ifCond .ne 22, 3) := by decide +kernel
theorem dX1_noteDown_35 : decode cX1_noteDown 35 = .ok (.aload_n 0, 1) := by decide +kernel
theorem dX1_noteDown_36 : decode cX1_noteDown 36 = .ok (.aload_n 0, 1) := by decide +kernel
theorem dX1_noteDown_37 : decode cX1_noteDown 37 = .ok (.getfield 25, 3) := by decide +kernel
theorem dX1_noteDown_40 : decode cX1_noteDown 40 = .ok (.putfield 35, 3) := by decide +kernel
theorem dX1_noteDown_43 : decode cX1_noteDown 43 = .ok (.aload_n 0, 1) := by decide +kernel
theorem dX1_noteDown_44 : decode cX1_noteDown 44 = .ok (.aload_n 0, 1) := by decide +kernel
theorem dX1_noteDown_45 : decode cX1_noteDown 45 = .ok (.getfield 21, 3) := by decide +kernel
theorem dX1_noteDown_48 : decode cX1_noteDown 48 = .ok (.getfield 67, 3) := by decide +kernel
theorem dX1_noteDown_51 : decode cX1_noteDown 51 = .ok (.putfield 38, 3) := by decide +kernel
theorem dX1_noteDown_54 : decode cX1_noteDown 54 = .ok (.aload_n 0, 1) := by decide +kernel
theorem dX1_noteDown_55 : decode cX1_noteDown 55 = .ok (.dup, 1) := by decide +kernel
theorem dX1_noteDown_56 : decode cX1_noteDown 56 = .ok (.getfield 32, 3) := by decide +kernel
theorem dX1_noteDown_59 : decode cX1_noteDown 59 = .ok (.iconst 1, 1) := by decide +kernel
theorem dX1_noteDown_60 : decode cX1_noteDown 60 = .ok (.iadd, 1) := by decide +kernel
theorem dX1_noteDown_61 : decode cX1_noteDown 61 = .ok (.putfield 32, 3) := by decide +kernel
theorem dX1_noteDown_64 : decode cX1_noteDown 64 = .ok (.return_, 1) := by decide +kernel
theorem dX1_runYear_0 : decode cX1_runYear 0 = .ok (.aload_n 0, 1) := by decide +kernel
theorem dX1_runYear_1 : decode cX1_runYear 1 = .ok (.getfield 12, 3) := by decide +kernel
theorem dX1_runYear_4 : decode cX1_runYear 4 = .ok (.aload_n 3, 1) := by decide +kernel
theorem dX1_runYear_5 : decode cX1_runYear 5 = .ok (.invokevirtual 61, 3) := by decide +kernel
theorem dX1_runYear_8 : decode cX1_runYear 8 = .ok (.iload_n 1, 1) := by decide +kernel
theorem dX1_runYear_9 : decode cX1_runYear 9 = .ok (.istore 4, 2) := by decide +kernel
theorem dX1_runYear_11 : decode cX1_runYear 11 = .ok (.iconst 0, 1) := by decide +kernel
theorem dX1_runYear_12 : decode cX1_runYear 12 = .ok (.istore 5, 2) := by decide +kernel
theorem dX1_runYear_14 : decode cX1_runYear 14 = .ok (.iload 5, 2) := by decide +kernel
theorem dX1_runYear_16 : decode cX1_runYear 16 = .ok (.iload_n 2, 1) := by decide +kernel
theorem dX1_runYear_17 : decode cX1_runYear 17 = .ok (.if_icmp .ge 48, 3) := by decide +kernel
theorem dX1_runYear_20 : decode cX1_runYear 20 = .ok (.bipush 75, 2) := by decide +kernel
theorem dX1_runYear_22 : decode cX1_runYear 22 = .ok (.iload 4, 2) := by decide +kernel
theorem dX1_runYear_24 : decode cX1_runYear 24 = .ok (.imul, 1) := by decide +kernel
theorem dX1_runYear_25 : decode cX1_runYear 25 = .ok (.bipush 74, 2) := by decide +kernel
theorem dX1_runYear_27 : decode cX1_runYear 27 = .ok (.iadd, 1) := by decide +kernel
theorem dX1_runYear_28 : decode cX1_runYear 28 = .ok (.ldc 74, 2) := by decide +kernel
theorem dX1_runYear_30 : decode cX1_runYear 30 = .ok (.irem, 1) := by decide +kernel
theorem dX1_runYear_31 : decode cX1_runYear 31 = .ok (.istore 4, 2) := by decide +kernel
theorem dX1_runYear_33 : decode cX1_runYear 33 = .ok (.aload_n 0, 1) := by decide +kernel
theorem dX1_runYear_34 : decode cX1_runYear 34 = .ok (.iload 4, 2) := by decide +kernel
theorem dX1_runYear_36 : decode cX1_runYear 36 = .ok (.bipush 8, 2) := by decide +kernel
theorem dX1_runYear_38 : decode cX1_runYear 38 = .ok (.irem, 1) := by decide +kernel
theorem dX1_runYear_39 : decode cX1_runYear 39 = .ok (.iload 4, 2) := by decide +kernel
theorem dX1_runYear_41 : decode cX1_runYear 41 = .ok (.bipush 8, 2) := by decide +kernel
theorem dX1_runYear_43 : decode cX1_runYear 43 = .ok (.idiv, 1) := by decide +kernel
theorem dX1_runYear_44 : decode cX1_runYear 44 = .ok (.invokevirtual 75, 3) := by decide +kernel
theorem dX1_runYear_47 : decode cX1_runYear 47 = .ok (.aload_n 0, 1) := by decide +kernel
theorem dX1_runYear_48 : decode cX1_runYear 48 = .ok (.getfield 12, 3) := by decide +kernel
theorem dX1_runYear_51 : decode cX1_runYear 51 = .ok (.aload_n 0, 1) := by decide +kernel
theorem dX1_runYear_52 : decode cX1_runYear 52 = .ok (.getfield 21, 3) := by decide +kernel
theorem dX1_runYear_55 : decode cX1_runYear 55 = .ok (.invokevirtual 54, 3) := by decide +kernel
theorem dX1_runYear_58 : decode cX1_runYear 58 = .ok (.pop, 1) := by decide +kernel
theorem dX1_runYear_59 : decode cX1_runYear 59 = .ok (.iinc 5 1, 3) := by decide +kernel
theorem dX1_runYear_62 : decode cX1_runYear 62 = .ok (.goto (-48), 3) := by decide +kernel
theorem dX1_runYear_65 : decode cX1_runYear 65 = .ok (.return_, 1) := by decide +kernel
theorem dX1_draw_0 : decode cX1_draw 0 = .ok (.iload_n 1, 1) := by decide +kernel
theorem dX1_draw_1 : decode cX1_draw 1 = .ok (.iconst 4, 1) := by decide +kernel
theorem dX1_draw_2 : decode cX1_draw 2 = .ok (.if_icmp .ge 25, 3) := by decide +kernel
theorem dX1_draw_5 : decode cX1_draw 5 = .ok (.aload_n 0, 1) := by decide +kernel
theorem dX1_draw_6 : decode cX1_draw 6 = .ok (.getfield 21, 3) := by decide +kernel
theorem dX1_draw_9 : decode cX1_draw 9 = .ok (.iconst 0, 1) := by decide +kernel
theorem dX1_draw_10 : decode cX1_draw 10 = .ok (.iload_n 2, 1) := by decide +kernel
theorem dX1_draw_11 : decode cX1_draw 11 = .ok (.bipush 6, 2) := by decide +kernel
theorem dX1_draw_13 : decode cX1_draw 13 = .ok (.idiv, 1) := by decide +kernel
theorem dX1_draw_14 : decode cX1_draw 14 = .ok (.bipush 6, 2) := by decide +kernel
theorem dX1_draw_16 : decode cX1_draw 16 = .ok (.irem, 1) := by decide +kernel
theorem dX1_draw_17 : decode cX1_draw 17 = .ok (.iload_n 2, 1) := by decide +kernel
theorem dX1_draw_18 : decode cX1_draw 18 = .ok (.bipush 6, 2) := by decide +kernel
theorem dX1_draw_20 : decode cX1_draw 20 = .ok (.irem, 1) := by decide +kernel
theorem dX1_draw_21 : decode cX1_draw 21 = .ok (.invokevirtual 79, 3) := by decide +kernel
theorem dX1_draw_24 : decode cX1_draw 24 = .ok (.goto 43, 3) := by decide +kernel
theorem dX1_draw_27 : decode cX1_draw 27 = .ok (.iload_n 1, 1) := by decide +kernel
theorem dX1_draw_28 : decode cX1_draw 28 = .ok (.iconst 4, 1) := by decide +kernel
theorem dX1_draw_29 : decode cX1_draw 29 = .ok (.if_icmp .ne 19, 3) := by decide +kernel
theorem dX1_draw_32 : decode cX1_draw 32 = .ok (.aload_n 0, 1) := by decide +kernel
theorem dX1_draw_33 : decode cX1_draw 33 = .ok (.getfield 21, 3) := by decide +kernel
theorem dX1_draw_36 : decode cX1_draw 36 = .ok (.iconst 2, 1) := by decide +kernel
theorem dX1_draw_37 : decode cX1_draw 37 = .ok (.iload_n 2, 1) := by decide +kernel
theorem dX1_draw_38 : decode cX1_draw 38 = .ok (.bipush 6, 2) := by decide +kernel
theorem dX1_draw_40 : decode cX1_draw 40 = .ok (.irem, 1) := by decide +kernel
theorem dX1_draw_41 : decode cX1_draw 41 = .ok (.iconst 0, 1) := by decide +kernel
theorem dX1_draw_42 : decode cX1_draw 42 = .ok (.invokevirtual 79, 3) := by decide +kernel
theorem dX1_draw_45 : decode cX1_draw 45 = .ok (.goto 22, 3) := by decide +kernel
theorem dX1_draw_48 : decode cX1_draw 48 = .ok (.aload_n 0, 1) := by decide +kernel
theorem dX1_draw_49 : decode cX1_draw 49 = .ok (.getfield 21, 3) := by decide +kernel
theorem dX1_draw_52 : decode cX1_draw 52 = .ok (.iload_n 1, 1) := by decide +kernel
theorem dX1_draw_53 : decode cX1_draw 53 = .ok (.iconst 5, 1) := by decide +kernel
theorem dX1_draw_54 : decode cX1_draw 54 = .ok (.if_icmp .ne 7, 3) := by decide +kernel
theorem dX1_draw_57 : decode cX1_draw 57 = .ok (.iconst 3, 1) := by decide +kernel
theorem dX1_draw_58 : decode cX1_draw 58 = .ok (.goto 4, 3) := by decide +kernel
theorem dX1_draw_61 : decode cX1_draw 61 = .ok (.iconst 4, 1) := by decide +kernel
theorem dX1_draw_62 : decode cX1_draw 62 = .ok (.iconst 0, 1) := by decide +kernel
theorem dX1_draw_63 : decode cX1_draw 63 = .ok (.iconst 0, 1) := by decide +kernel
theorem dX1_draw_64 : decode cX1_draw 64 = .ok (.invokevirtual 79, 3) := by decide +kernel
theorem dX1_draw_67 : decode cX1_draw 67 = .ok (.return_, 1) := by decide +kernel
theorem dX2_init_0 : decode cX2_init 0 = .ok (.aload_n 0, 1) := by decide +kernel
theorem dX2_init_1 : decode cX2_init 1 = .ok (.invokespecial 3, 3) := by decide +kernel
theorem dX2_init_4 : decode cX2_init 4 = .ok (.aload_n 0, 1) := by decide +kernel
theorem dX2_init_5 : decode cX2_init 5 = .ok (.bipush 10, 2) := by decide +kernel
theorem dX2_init_7 : decode cX2_init 7 = .ok (.newarray .int, 2) := by decide +kernel
theorem dX2_init_9 : decode cX2_init 9 = .ok (.putfield 9, 3) := by decide +kernel
theorem dX2_init_12 : decode cX2_init 12 = .ok (.aload_n 0, 1) := by decide +kernel
theorem dX2_init_13 : decode cX2_init 13 = .ok (.bipush 10, 2) := by decide +kernel
theorem dX2_init_15 : decode cX2_init 15 = .ok (.newarray .int, 2) := by decide +kernel
theorem dX2_init_17 : decode cX2_init 17 = .ok (.putfield 15, 3) := by decide +kernel
theorem dX2_init_20 : decode cX2_init 20 = .ok (.return_, 1) := by decide +kernel
theorem dX2_solve_0 : decode cX2_solve 0 = .ok (.iconst 0, 1) := by decide +kernel
theorem dX2_solve_1 : decode cX2_solve 1 = .ok (.istore_n 2, 1) := by decide +kernel
theorem dX2_solve_2 : decode cX2_solve 2 = .ok (.iload_n 2, 1) := by decide +kernel
theorem dX2_solve_3 : decode cX2_solve 3 = .ok (.bipush 10, 2) := by decide +kernel
theorem dX2_solve_5 : decode cX2_solve 5 = .ok (.if_icmp .ge 24, 3) := by decide +kernel
theorem dX2_solve_8 : decode cX2_solve 8 = .ok (.aload_n 0, 1) := by decide +kernel
theorem dX2_solve_9 : decode cX2_solve 9 = .ok (.getfield 9, 3) := by decide +kernel
theorem dX2_solve_12 : decode cX2_solve 12 = .ok (.iload_n 2, 1) := by decide +kernel
theorem dX2_solve_13 : decode cX2_solve 13 = .ok (.iconst 2, 1) := by decide +kernel
theorem dX2_solve_14 : decode cX2_solve 14 = .ok (.iastore, 1) := by decide +kernel
theorem dX2_solve_15 : decode cX2_solve 15 = .ok (.aload_n 0, 1) := by decide +kernel
theorem dX2_solve_16 : decode cX2_solve 16 = .ok (.getfield 15, 3) := by decide +kernel
theorem dX2_solve_19 : decode cX2_solve 19 = .ok (.iload_n 2, 1) := by decide +kernel
theorem dX2_solve_20 : decode cX2_solve 20 = .ok (.bipush (-6), 2) := by decide +kernel
theorem dX2_solve_22 : decode cX2_solve 22 = .ok (.iastore, 1) := by decide +kernel
theorem dX2_solve_23 : decode cX2_solve 23 = .ok (.iinc 2 1, 3) := by decide +kernel
theorem dX2_solve_26 : decode cX2_solve 26 = .ok (.goto (-24), 3) := by decide +kernel
theorem dX2_solve_29 : decode cX2_solve 29 = .ok (.iconst 0, 1) := by decide +kernel
theorem dX2_solve_30 : decode cX2_solve 30 = .ok (.istore_n 2, 1) := by decide +kernel
theorem dX2_solve_31 : decode cX2_solve 31 = .ok (.iload_n 2, 1) := by decide +kernel
theorem dX2_solve_32 : decode cX2_solve 32 = .ok (.bipush 10, 2) := by decide +kernel
theorem dX2_solve_34 : decode cX2_solve 34 = .ok (.if_icmp .ge 42, 3) := by decide +kernel
theorem dX2_solve_37 : decode cX2_solve 37 = .ok (.iconst 0, 1) := by decide +kernel
theorem dX2_solve_38 : decode cX2_solve 38 = .ok (.istore_n 3, 1) := by decide +kernel
theorem dX2_solve_39 : decode cX2_solve 39 = .ok (.iload_n 3, 1) := by decide +kernel
theorem dX2_solve_40 : decode cX2_solve 40 = .ok (.bipush 10, 2) := by decide +kernel
theorem dX2_solve_42 : decode cX2_solve 42 = .ok (.if_icmp .ge 28, 3) := by decide +kernel
theorem dX2_solve_45 : decode cX2_solve 45 = .ok (.aload_n 0, 1) := by decide +kernel
theorem dX2_solve_46 : decode cX2_solve 46 = .ok (.getfield 9, 3) := by decide +kernel
theorem dX2_solve_49 : decode cX2_solve 49 = .ok (.iload_n 3, 1) := by decide +kernel
theorem dX2_solve_50 : decode cX2_solve 50 = .ok (.iaload, 1) := by decide +kernel
theorem dX2_solve_51 : decode cX2_solve 51 = .ok (.iconst 2, 1) := by decide +kernel
theorem dX2_solve_52 : decode cX2_solve 52 = .ok (.if_icmp .ne 12, 3) := by decide +kernel
theorem dX2_solve_55 : decode cX2_solve 55 = .ok (.aload_n 0, 1) := by decide +kernel
theorem dX2_solve_56 : decode cX2_solve 56 = .ok (.aload_n 1, 1) := by decide +kernel
theorem dX2_solve_57 : decode cX2_solve 57 = .ok (.iload_n 3, 1) := by decide +kernel
theorem dX2_solve_58 : decode cX2_solve 58 = .ok (.iaload, 1) := by decide +kernel
theorem dX2_solve_59 : decode cX2_solve 59 = .ok (.iload_n 3, 1) := by decide +kernel
theorem dX2_solve_60 : decode cX2_solve 60 = .ok (.iload_n 2, 1) := by decide +kernel
theorem dX2_solve_61 : decode cX2_solve 61 = .ok (.invokevirtual 18, 3) := by decide +kernel
theorem dX2_solve_64 : decode cX2_solve 64 = .ok (.iinc 3 1, 3) := by decide +kernel
theorem dX2_solve_67 : decode cX2_solve 67 = .ok (.goto (-28), 3) := by decide +kernel
theorem dX2_solve_70 : decode cX2_solve 70 = .ok (.iinc 2 1, 3) := by decide +kernel
theorem dX2_solve_73 : decode cX2_solve 73 = .ok (.goto (-42), 3) := by decide +kernel
theorem dX2_solve_76 : decode cX2_solve 76 = .ok (.return_, 1) := by decide +kernel
theorem dX2_settle_0 : decode cX2_settle 0 = .ok (.aload_n 0, 1) := by decide +kernel
theorem dX2_settle_1 : decode cX2_settle 1 = .ok (.iload_n 1, 1) := by decide +kernel
theorem dX2_settle_2 : decode cX2_settle 2 = .ok (.iconst 0, 1) := by decide +kernel
theorem dX2_settle_3 : decode cX2_settle 3 = .ok (.iload_n 3, 1) := by decide +kernel
theorem dX2_settle_4 : decode cX2_settle 4 = .ok (.invokevirtual 22, 3) := by decide +kernel
theorem dX2_settle_7 : decode cX2_settle 7 = .ok (.bipush (-6), 2) := by decide +kernel
theorem dX2_settle_9 : decode cX2_settle 9 = .ok (.if_icmp .eq 20, 3) := by decide +kernel
theorem dX2_settle_12 : decode cX2_settle 12 = .ok (.aload_n 0, 1) := by decide +kernel
theorem dX2_settle_13 : decode cX2_settle 13 = .ok (.getfield 9, 3) := by decide +kernel
theorem dX2_settle_16 : decode cX2_settle 16 = .ok (.iload_n 2, 1) := by decide +kernel
theorem dX2_settle_17 : decode cX2_settle 17 = .ok (.iconst 1, 1) := by decide +kernel
theorem dX2_settle_18 : decode cX2_settle 18 = .ok (.iastore, 1) := by decide +kernel
theorem dX2_settle_19 : decode cX2_settle 19 = .ok (.aload_n 0, 1) := by decide +kernel
theorem dX2_settle_20 : decode cX2_settle 20 = .ok (.getfield 15, 3) := by decide +kernel
theorem dX2_settle_23 : decode cX2_settle 23 = .ok (.iload_n 2, 1) := by decide +kernel
theorem dX2_settle_24 : decode cX2_settle 24 = .ok (.iload_n 3, 1) := by decide +kernel
theorem dX2_settle_25 : decode cX2_settle 25 = .ok (.iastore, 1) := by decide +kernel
theorem dX2_settle_26 : decode cX2_settle 26 = .ok (.goto 26, 3) := by decide +kernel
theorem dX2_settle_29 : decode cX2_settle 29 = .ok (.aload_n 0, 1) := by decide +kernel
theorem dX2_settle_30 : decode cX2_settle 30 = .ok (.iload_n 1, 1) := by decide +kernel
theorem dX2_settle_31 : decode cX2_settle 31 = .ok (.iload_n 3, 1) := by decide +kernel
theorem dX2_settle_32 : decode cX2_settle 32 = .ok (.invokevirtual 26, 3) := by decide +kernel
theorem dX2_settle_35 : decode cX2_settle 35 = .ok (.ifCond .eq 17, 3) := by decide +kernel
theorem dX2_settle_38 : decode cX2_settle 38 = .ok (.aload_n 0, 1) := by decide +kernel
theorem dX2_settle_39 : decode cX2_settle 39 = .ok (.getfield 9, 3) := by decide +kernel
theorem dX2_settle_42 : decode cX2_settle 42 = .ok (.iload_n 2, 1) := by decide +kernel
theorem dX2_settle_43 : decode cX2_settle 43 = .ok (.iconst 0, 1) := by decide +kernel
theorem dX2_settle_44 : decode cX2_settle 44 = .ok (.iastore, 1) := by decide +kernel
theorem dX2_settle_45 : decode cX2_settle 45 = .ok (.aload_n 0, 1) := by decide +kernel
theorem dX2_settle_46 : decode cX2_settle 46 = .ok (.getfield 15, 3) := by decide +kernel
theorem dX2_settle_49 : decode cX2_settle 49 = .ok (.iload_n 2, 1) := by decide +kernel
theorem dX2_settle_50 : decode cX2_settle 50 = .ok (.iload_n 3, 1) := by decide +kernel
theorem dX2_settle_51 : decode cX2_settle 51 = .ok (.iastore, 1) := by decide +kernel
theorem dX2_settle_52 : decode cX2_settle 52 = .ok (.return_, 1) := by decide +kernel
theorem dX2_leastSettled_0 : decode cX2_leastSettled 0 = .ok (.iconst 0, 1) := by decide +kernel
theorem dX2_leastSettled_1 : decode cX2_leastSettled 1 = .ok (.istore 4, 2) := by decide +kernel
theorem dX2_leastSettled_3 : decode cX2_leastSettled 3 = .ok (.iload 4, 2) := by decide +kernel
theorem dX2_leastSettled_5 : decode cX2_leastSettled 5 = .ok (.bipush 10, 2) := by decide +kernel
theorem dX2_leastSettled_7 : decode cX2_leastSettled 7 = .ok (.if_icmp .ge 43, 3) := by decide +kernel
theorem dX2_leastSettled_10 : decode cX2_leastSettled 10 = .ok (.iload_n 1, 1) := by decide +kernel
theorem dX2_leastSettled_11 : decode cX2_leastSettled 11 = .ok (.iload 4, 2) := by decide +kernel
theorem dX2_leastSettled_13 : decode cX2_leastSettled 13 = .ok (.invokestatic 30, 3) := by decide +kernel
theorem dX2_leastSettled_16 : decode cX2_leastSettled 16 = .ok (.ifCond .eq 28, 3) := by decide +kernel
theorem dX2_leastSettled_19 : decode cX2_leastSettled 19 = .ok (.aload_n 0, 1) := by decide +kernel
theorem dX2_leastSettled_20 : decode cX2_leastSettled 20 = .ok (.getfield 9, 3) := by decide +kernel
theorem dX2_leastSettled_23 : decode cX2_leastSettled 23 = .ok (.iload 4, 2) := by decide +kernel
theorem dX2_leastSettled_25 : decode cX2_leastSettled 25 = .ok (.iaload, 1) := by decide +kernel
theorem dX2_leastSettled_26 : decode cX2_leastSettled 26 = .ok (.iload_n 2, 1) := by decide +kernel
theorem dX2_leastSettled_27 : decode cX2_leastSettled 27 = .ok (.if_icmp .ne 17, 3) := by decide +kernel
theorem dX2_leastSettled_30 : decode cX2_leastSettled 30 = .ok (.aload_n 0, 1) := by decide +kernel
theorem dX2_leastSettled_31 : decode cX2_leastSettled 31 = .ok (.getfield 15, 3) := by decide +kernel
theorem dX2_leastSettled_34 : decode cX2_leastSettled 34 = .ok (.iload 4, 2) := by decide +kernel
theorem dX2_leastSettled_36 : decode cX2_leastSettled 36 = .ok (.iaload, 1) := by decide +kernel
theorem dX2_leastSettled_37 : decode cX2_leastSettled 37 = .ok (.iload_n 3, 1) := by decide +kernel
theorem dX2_leastSettled_38 : decode cX2_leastSettled 38 = .ok (.if_icmp .ge 6, 3) := by decide +kernel
theorem dX2_leastSettled_41 : decode cX2_leastSettled 41 = .ok (.iload 4, 2) := by decide +kernel
theorem dX2_leastSettled_43 : decode cX2_leastSettled 43 = .ok (.ireturn, 1) := by decide +kernel
theorem dX2_leastSettled_44 : decode cX2_leastSettled 44 = .ok (.iinc 4 1, 3) := by decide +kernel
theorem dX2_leastSettled_47 : decode cX2_leastSettled 47 = .ok (.goto (-44), 3) := by decide +kernel
theorem dX2_leastSettled_50 : decode cX2_leastSettled 50 = .ok (.bipush (-6), 2) := by decide +kernel
theorem dX2_leastSettled_52 : decode cX2_leastSettled 52 = .ok (.ireturn, 1) := by decide +kernel
theorem dX2_areAllWon_0 : decode cX2_areAllWon 0 = .ok (.iconst 0, 1) := by decide +kernel
theorem dX2_areAllWon_1 : decode cX2_areAllWon 1 = .ok (.istore_n 3, 1) := by decide +kernel
theorem dX2_areAllWon_2 : decode cX2_areAllWon 2 = .ok (.iload_n 3, 1) := by decide +kernel
theorem dX2_areAllWon_3 : decode cX2_areAllWon 3 = .ok (.bipush 10, 2) := by decide +kernel
theorem dX2_areAllWon_5 : decode cX2_areAllWon 5 = .ok (.if_icmp .ge 39, 3) := by decide +kernel
theorem dX2_areAllWon_8 : decode cX2_areAllWon 8 = .ok (.iload_n 1, 1) := by decide +kernel
theorem dX2_areAllWon_9 : decode cX2_areAllWon 9 = .ok (.iload_n 3, 1) := by decide +kernel
theorem dX2_areAllWon_10 : decode cX2_areAllWon 10 = .ok (.invokestatic 30, 3) := by decide +kernel
theorem dX2_areAllWon_13 : decode cX2_areAllWon 13 = .ok (.ifCond .eq 25, 3) := by decide +kernel
theorem dX2_areAllWon_16 : decode cX2_areAllWon 16 = .ok (.aload_n 0, 1) := by decide +kernel
theorem dX2_areAllWon_17 : decode cX2_areAllWon 17 = .ok (.getfield 9, 3) := by decide +kernel
theorem dX2_areAllWon_20 : decode cX2_areAllWon 20 = .ok (.iload_n 3, 1) := by decide +kernel
theorem dX2_areAllWon_21 : decode cX2_areAllWon 21 = .ok (.iaload, 1) := by decide +kernel
theorem dX2_areAllWon_22 : decode cX2_areAllWon 22 = .ok (.iconst 1, 1) := by decide +kernel
theorem dX2_areAllWon_23 : decode cX2_areAllWon 23 = .ok (.if_icmp .ne 13, 3) := by decide +kernel
theorem dX2_areAllWon_26 : decode cX2_areAllWon 26 = .ok (.aload_n 0, 1) := by decide +kernel
theorem dX2_areAllWon_27 : decode cX2_areAllWon 27 = .ok (.getfield 15, 3) := by decide +kernel
theorem dX2_areAllWon_30 : decode cX2_areAllWon 30 = .ok (.iload_n 3, 1) := by decide +kernel
theorem dX2_areAllWon_31 : decode cX2_areAllWon 31 = .ok (.iaload, 1) := by decide +kernel
theorem dX2_areAllWon_32 : decode cX2_areAllWon 32 = .ok (.iload_n 2, 1) := by decide +kernel
theorem dX2_areAllWon_33 : decode cX2_areAllWon 33 = .ok (.if_icmp .lt 5, 3) := by decide +kernel
theorem dX2_areAllWon_36 : decode cX2_areAllWon 36 = .ok (.iconst 0, 1) := by decide +kernel
theorem dX2_areAllWon_37 : decode cX2_areAllWon 37 = .ok (.ireturn, 1) := by decide +kernel
theorem dX2_areAllWon_38 : decode cX2_areAllWon 38 = .ok (.iinc 3 1, 3) := by decide +kernel
theorem dX2_areAllWon_41 : decode cX2_areAllWon 41 = .ok (.goto (-39), 3) := by decide +kernel
theorem dX2_areAllWon_44 : decode cX2_areAllWon 44 = .ok (.iconst 1, 1) := by decide +kernel
theorem dX2_areAllWon_45 : decode cX2_areAllWon 45 = .ok (.ireturn, 1) := by decide +kernel
theorem dX2_firstMove_0 : decode cX2_firstMove 0 = .ok (.aload_n 0, 1) := by decide +kernel
theorem dX2_firstMove_1 : decode cX2_firstMove 1 = .ok (.getfield 9, 3) := by decide +kernel
theorem dX2_firstMove_4 : decode cX2_firstMove 4 = .ok (.iload_n 2, 1) := by decide +kernel
theorem dX2_firstMove_5 : decode cX2_firstMove 5 = .ok (.iaload, 1) := by decide +kernel
theorem dX2_firstMove_6 : decode cX2_firstMove 6 = .ok (.iconst 1, 1) := by decide +kernel
theorem dX2_firstMove_7 : decode cX2_firstMove 7 = .ok (.if_icmp .ne 20, 3) := by decide +kernel
theorem dX2_firstMove_10 : decode cX2_firstMove 10 = .ok (.aload_n 0, 1) := by decide +kernel
theorem dX2_firstMove_11 : decode cX2_firstMove 11 = .ok (.aload_n 1, 1) := by decide +kernel
theorem dX2_firstMove_12 : decode cX2_firstMove 12 = .ok (.iload_n 2, 1) := by decide +kernel
theorem dX2_firstMove_13 : decode cX2_firstMove 13 = .ok (.iaload, 1) := by decide +kernel
theorem dX2_firstMove_14 : decode cX2_firstMove 14 = .ok (.iconst 0, 1) := by decide +kernel
theorem dX2_firstMove_15 : decode cX2_firstMove 15 = .ok (.aload_n 0, 1) := by decide +kernel
theorem dX2_firstMove_16 : decode cX2_firstMove 16 = .ok (.getfield 15, 3) := by decide +kernel
theorem dX2_firstMove_19 : decode cX2_firstMove 19 = .ok (.iload_n 2, 1) := by decide +kernel
theorem dX2_firstMove_20 : decode cX2_firstMove 20 = .ok (.iaload, 1) := by decide +kernel
theorem dX2_firstMove_21 : decode cX2_firstMove 21 = .ok (.invokevirtual 22, 3) := by decide +kernel
theorem dX2_firstMove_24 : decode cX2_firstMove 24 = .ok (.goto 5, 3) := by decide +kernel
theorem dX2_firstMove_27 : decode cX2_firstMove 27 = .ok (.bipush (-6), 2) := by decide +kernel
theorem dX2_firstMove_29 : decode cX2_firstMove 29 = .ok (.ireturn, 1) := by decide +kernel
theorem dX3_init_0 : decode cX3_init 0 = .ok (.aload_n 0, 1) := by decide +kernel
theorem dX3_init_1 : decode cX3_init 1 = .ok (.invokespecial 3, 3) := by decide +kernel
theorem dX3_init_4 : decode cX3_init 4 = .ok (.aload_n 0, 1) := by decide +kernel
theorem dX3_init_5 : decode cX3_init 5 = .ok (.bipush 6, 2) := by decide +kernel
theorem dX3_init_7 : decode cX3_init 7 = .ok (.newarray .int, 2) := by decide +kernel
theorem dX3_init_9 : decode cX3_init 9 = .ok (.putfield 9, 3) := by decide +kernel
theorem dX3_init_12 : decode cX3_init 12 = .ok (.aload_n 0, 1) := by decide +kernel
theorem dX3_init_13 : decode cX3_init 13 = .ok (.bipush 6, 2) := by decide +kernel
theorem dX3_init_15 : decode cX3_init 15 = .ok (.newarray .int, 2) := by decide +kernel
theorem dX3_init_17 : decode cX3_init 17 = .ok (.putfield 15, 3) := by decide +kernel
theorem dX3_init_20 : decode cX3_init 20 = .ok (.aload_n 0, 1) := by decide +kernel
theorem dX3_init_21 : decode cX3_init 21 = .ok (.bipush 6, 2) := by decide +kernel
theorem dX3_init_23 : decode cX3_init 23 = .ok (.newarray .int, 2) := by decide +kernel
theorem dX3_init_25 : decode cX3_init 25 = .ok (.putfield 18, 3) := by decide +kernel
theorem dX3_init_28 : decode cX3_init 28 = .ok (.aload_n 0, 1) := by decide +kernel
theorem dX3_init_29 : decode cX3_init 29 = .ok (.bipush 6, 2) := by decide +kernel
theorem dX3_init_31 : decode cX3_init 31 = .ok (.newarray .int, 2) := by decide +kernel
theorem dX3_init_33 : decode cX3_init 33 = .ok (.putfield 21, 3) := by decide +kernel
theorem dX3_init_36 : decode cX3_init 36 = .ok (.aload_n 0, 1) := by decide +kernel
theorem dX3_init_37 : decode cX3_init 37 = .ok (.bipush 6, 2) := by decide +kernel
theorem dX3_init_39 : decode cX3_init 39 = .ok (.newarray .int, 2) := by decide +kernel
theorem dX3_init_41 : decode cX3_init 41 = .ok (.putfield 24, 3) := by decide +kernel
theorem dX3_init_44 : decode cX3_init 44 = .ok (.aload_n 0, 1) := by decide +kernel
theorem dX3_init_45 : decode cX3_init 45 = .ok (.bipush 8, 2) := by decide +kernel
theorem dX3_init_47 : decode cX3_init 47 = .ok (.newarray .int, 2) := by decide +kernel
theorem dX3_init_49 : decode cX3_init 49 = .ok (.putfield 27, 3) := by decide +kernel
theorem dX3_init_52 : decode cX3_init 52 = .ok (.aload_n 0, 1) := by decide +kernel
theorem dX3_init_53 : decode cX3_init 53 = .ok (.bipush 8, 2) := by decide +kernel
theorem dX3_init_55 : decode cX3_init 55 = .ok (.newarray .int, 2) := by decide +kernel
theorem dX3_init_57 : decode cX3_init 57 = .ok (.putfield 30, 3) := by decide +kernel
theorem dX3_init_60 : decode cX3_init 60 = .ok (.aload_n 0, 1) := by decide +kernel
theorem dX3_init_61 : decode cX3_init 61 = .ok (.bipush 10, 2) := by decide +kernel
theorem dX3_init_63 : decode cX3_init 63 = .ok (.newarray .int, 2) := by decide +kernel
theorem dX3_init_65 : decode cX3_init 65 = .ok (.putfield 33, 3) := by decide +kernel
theorem dX3_init_68 : decode cX3_init 68 = .ok (.aload_n 0, 1) := by decide +kernel
theorem dX3_init_69 : decode cX3_init 69 = .ok (.bipush 8, 2) := by decide +kernel
theorem dX3_init_71 : decode cX3_init 71 = .ok (.newarray .int, 2) := by decide +kernel
theorem dX3_init_73 : decode cX3_init 73 = .ok (.putfield 36, 3) := by decide +kernel
theorem dX3_init_76 : decode cX3_init 76 = .ok (.aload_n 0, 1) := by decide +kernel
theorem dX3_init_77 : decode cX3_init 77 = .ok (.bipush 8, 2) := by decide +kernel
theorem dX3_init_79 : decode cX3_init 79 = .ok (.newarray .boolean, 2) := by decide +kernel
theorem dX3_init_81 : decode cX3_init 81 = .ok (.putfield 39, 3) := by decide +kernel
theorem dX3_init_84 : decode cX3_init 84 = .ok (.aload_n 0, 1) := by decide +kernel
theorem dX3_init_85 : decode cX3_init 85 = .ok (.iconst 0, 1) := by decide +kernel
theorem dX3_init_86 : decode cX3_init 86 = .ok (.putfield 43, 3) := by decide +kernel
theorem dX3_init_89 : decode cX3_init 89 = .ok (.aload_n 0, 1) := by decide +kernel
theorem dX3_init_90 : decode cX3_init 90 = .ok (.bipush 50, 2) := by decide +kernel
theorem dX3_init_92 : decode cX3_init 92 = .ok (.putfield 47, 3) := by decide +kernel
theorem dX3_init_95 : decode cX3_init 95 = .ok (.aload_n 0, 1) := by decide +kernel
theorem dX3_init_96 : decode cX3_init 96 = .ok (.iconst 0, 1) := by decide +kernel
theorem dX3_init_97 : decode cX3_init 97 = .ok (.putfield 50, 3) := by decide +kernel
theorem dX3_init_100 : decode cX3_init 100 = .ok (.iconst 0, 1) := by decide +kernel
theorem dX3_init_101 : decode cX3_init 101 = .ok (.istore_n 1, 1) := by decide +kernel
theorem dX3_init_102 : decode cX3_init 102 = .ok (.iload_n 1, 1) := by decide +kernel
theorem dX3_init_103 : decode cX3_init 103 = .ok (.bipush 6, 2) := by decide +kernel
theorem dX3_init_105 : decode cX3_init 105 = .ok (.if_icmp .ge 23, 3) := by decide +kernel
theorem dX3_init_108 : decode cX3_init 108 = .ok (.aload_n 0, 1) := by decide +kernel
theorem dX3_init_109 : decode cX3_init 109 = .ok (.getfield 21, 3) := by decide +kernel
theorem dX3_init_112 : decode cX3_init 112 = .ok (.iload_n 1, 1) := by decide +kernel
theorem dX3_init_113 : decode cX3_init 113 = .ok (.iconst 5, 1) := by decide +kernel
theorem dX3_init_114 : decode cX3_init 114 = .ok (.iastore, 1) := by decide +kernel
theorem dX3_init_115 : decode cX3_init 115 = .ok (.aload_n 0, 1) := by decide +kernel
theorem dX3_init_116 : decode cX3_init 116 = .ok (.getfield 24, 3) := by decide +kernel
theorem dX3_init_119 : decode cX3_init 119 = .ok (.iload_n 1, 1) := by decide +kernel
theorem dX3_init_120 : decode cX3_init 120 = .ok (.iconst 2, 1) := by decide +kernel
theorem dX3_init_121 : decode cX3_init 121 = .ok (.iastore, 1) := by decide +kernel
theorem dX3_init_122 : decode cX3_init 122 = .ok (.iinc 1 1, 3) := by decide +kernel
theorem dX3_init_125 : decode cX3_init 125 = .ok (.goto (-23), 3) := by decide +kernel
theorem dX3_init_128 : decode cX3_init 128 = .ok (.return_, 1) := by decide +kernel
theorem dX3_become_0 : decode cX3_become 0 = .ok (.aload_n 1, 1) := by decide +kernel
theorem dX3_become_1 : decode cX3_become 1 = .ok (.getfield 9, 3) := by decide +kernel
theorem dX3_become_4 : decode cX3_become 4 = .ok (.aload_n 0, 1) := by decide +kernel
theorem dX3_become_5 : decode cX3_become 5 = .ok (.getfield 9, 3) := by decide +kernel
theorem dX3_become_8 : decode cX3_become 8 = .ok (.invokestatic 53, 3) := by decide +kernel
theorem dX3_become_11 : decode cX3_become 11 = .ok (.aload_n 1, 1) := by decide +kernel
theorem dX3_become_12 : decode cX3_become 12 = .ok (.getfield 15, 3) := by decide +kernel
theorem dX3_become_15 : decode cX3_become 15 = .ok (.aload_n 0, 1) := by decide +kernel
theorem dX3_become_16 : decode cX3_become 16 = .ok (.getfield 15, 3) := by decide +kernel
theorem dX3_become_19 : decode cX3_become 19 = .ok (.invokestatic 53, 3) := by decide +kernel
theorem dX3_become_22 : decode cX3_become 22 = .ok (.aload_n 1, 1) := by decide +kernel
theorem dX3_become_23 : decode cX3_become 23 = .ok (.getfield 18, 3) := by decide +kernel
theorem dX3_become_26 : decode cX3_become 26 = .ok (.aload_n 0, 1) := by decide +kernel
theorem dX3_become_27 : decode cX3_become 27 = .ok (.getfield 18, 3) := by decide +kernel
theorem dX3_become_30 : decode cX3_become 30 = .ok (.invokestatic 53, 3) := by decide +kernel
theorem dX3_become_33 : decode cX3_become 33 = .ok (.aload_n 1, 1) := by decide +kernel
theorem dX3_become_34 : decode cX3_become 34 = .ok (.getfield 21, 3) := by decide +kernel
theorem dX3_become_37 : decode cX3_become 37 = .ok (.aload_n 0, 1) := by decide +kernel
theorem dX3_become_38 : decode cX3_become 38 = .ok (.getfield 21, 3) := by decide +kernel
theorem dX3_become_41 : decode cX3_become 41 = .ok (.invokestatic 53, 3) := by decide +kernel
theorem dX3_become_44 : decode cX3_become 44 = .ok (.aload_n 1, 1) := by decide +kernel
theorem dX3_become_45 : decode cX3_become 45 = .ok (.getfield 24, 3) := by decide +kernel
theorem dX3_become_48 : decode cX3_become 48 = .ok (.aload_n 0, 1) := by decide +kernel
theorem dX3_become_49 : decode cX3_become 49 = .ok (.getfield 24, 3) := by decide +kernel
theorem dX3_become_52 : decode cX3_become 52 = .ok (.invokestatic 53, 3) := by decide +kernel
theorem dX3_become_55 : decode cX3_become 55 = .ok (.aload_n 1, 1) := by decide +kernel
theorem dX3_become_56 : decode cX3_become 56 = .ok (.getfield 27, 3) := by decide +kernel
theorem dX3_become_59 : decode cX3_become 59 = .ok (.aload_n 0, 1) := by decide +kernel
theorem dX3_become_60 : decode cX3_become 60 = .ok (.getfield 27, 3) := by decide +kernel
theorem dX3_become_63 : decode cX3_become 63 = .ok (.invokestatic 53, 3) := by decide +kernel
theorem dX3_become_66 : decode cX3_become 66 = .ok (.aload_n 1, 1) := by decide +kernel
theorem dX3_become_67 : decode cX3_become 67 = .ok (.getfield 30, 3) := by decide +kernel
theorem dX3_become_70 : decode cX3_become 70 = .ok (.aload_n 0, 1) := by decide +kernel
theorem dX3_become_71 : decode cX3_become 71 = .ok (.getfield 30, 3) := by decide +kernel
theorem dX3_become_74 : decode cX3_become 74 = .ok (.invokestatic 53, 3) := by decide +kernel
theorem dX3_become_77 : decode cX3_become 77 = .ok (.aload_n 1, 1) := by decide +kernel
theorem dX3_become_78 : decode cX3_become 78 = .ok (.getfield 33, 3) := by decide +kernel
theorem dX3_become_81 : decode cX3_become 81 = .ok (.aload_n 0, 1) := by decide +kernel
theorem dX3_become_82 : decode cX3_become 82 = .ok (.getfield 33, 3) := by decide +kernel
theorem dX3_become_85 : decode cX3_become 85 = .ok (.invokestatic 53, 3) := by decide +kernel
theorem dX3_become_88 : decode cX3_become 88 = .ok (.aload_n 1, 1) := by decide +kernel
theorem dX3_become_89 : decode cX3_become 89 = .ok (.getfield 36, 3) := by decide +kernel
theorem dX3_become_92 : decode cX3_become 92 = .ok (.aload_n 0, 1) := by decide +kernel
theorem dX3_become_93 : decode cX3_become 93 = .ok (.getfield 36, 3) := by decide +kernel
theorem dX3_become_96 : decode cX3_become 96 = .ok (.invokestatic 53, 3) := by decide +kernel
theorem dX3_become_99 : decode cX3_become 99 = .ok (.iconst 0, 1) := by decide +kernel
theorem dX3_become_100 : decode cX3_become 100 = .ok (.istore_n 2, 1) := by decide +kernel
theorem dX3_become_101 : decode cX3_become 101 = .ok (.iload_n 2, 1) := by decide +kernel
theorem dX3_become_102 : decode cX3_become 102 = .ok (.bipush 8, 2) := by decide +kernel
theorem dX3_become_104 : decode cX3_become 104 = .ok (.if_icmp .ge 21, 3) := by decide +kernel
theorem dX3_become_107 : decode cX3_become 107 = .ok (.aload_n 0, 1) := by decide +kernel
theorem dX3_become_108 : decode cX3_become 108 = .ok (.getfield 39, 3) := by decide +kernel
theorem dX3_become_111 : decode cX3_become 111 = .ok (.iload_n 2, 1) := by decide +kernel
theorem dX3_become_112 : decode cX3_become 112 = .ok (.aload_n 1, 1) := by decide +kernel
theorem dX3_become_113 : decode cX3_become 113 = .ok (.getfield 39, 3) := by decide +kernel
theorem dX3_become_116 : decode cX3_become 116 = .ok (.iload_n 2, 1) := by decide +kernel
theorem dX3_become_117 : decode cX3_become 117 = .ok (.baload, 1) := by decide +kernel
theorem dX3_become_118 : decode cX3_become 118 = .ok (.bastore, 1) := by decide +kernel
theorem dX3_become_119 : decode cX3_become 119 = .ok (.iinc 2 1, 3) := by decide +kernel
theorem dX3_become_122 : decode cX3_become 122 = .ok (.goto (-21), 3) := by decide +kernel
theorem dX3_become_125 : decode cX3_become 125 = .ok (.aload_n 0, 1) := by decide +kernel
theorem dX3_become_126 : decode cX3_become 126 = .ok (.aload_n 1, 1) := by decide +kernel
theorem dX3_become_127 : decode cX3_become 127 = .ok (.getfield 43, 3) := by decide +kernel
theorem dX3_become_130 : decode cX3_become 130 = .ok (.putfield 43, 3) := by decide +kernel
theorem dX3_become_133 : decode cX3_become 133 = .ok (.aload_n 0, 1) := by decide +kernel
theorem dX3_become_134 : decode cX3_become 134 = .ok (.aload_n 1, 1) := by decide +kernel
theorem dX3_become_135 : decode cX3_become 135 = .ok (.getfield 47, 3) := by decide +kernel
theorem dX3_become_138 : decode cX3_become 138 = .ok (.putfield 47, 3) := by decide +kernel
theorem dX3_become_141 : decode cX3_become 141 = .ok (.aload_n 0, 1) := by decide +kernel
theorem dX3_become_142 : decode cX3_become 142 = .ok (.aload_n 1, 1) := by decide +kernel
theorem dX3_become_143 : decode cX3_become 143 = .ok (.getfield 50, 3) := by decide +kernel
theorem dX3_become_146 : decode cX3_become 146 = .ok (.putfield 50, 3) := by decide +kernel
theorem dX3_become_149 : decode cX3_become 149 = .ok (.return_, 1) := by decide +kernel
theorem dX3_isThere_0 : decode cX3_isThere 0 = .ok (.iload_n 1, 1) := by decide +kernel
theorem dX3_isThere_1 : decode cX3_isThere 1 = .ok (.iconst 0, 1) := by decide +kernel
theorem dX3_isThere_2 : decode cX3_isThere 2 = .ok (.iconst 5, 1) := by decide +kernel
theorem dX3_isThere_3 : decode cX3_isThere 3 = .ok (.invokestatic 57, 3) := by decide +kernel
theorem dX3_isThere_6 : decode cX3_isThere 6 = .ok (.ifCond .eq 16, 3) := by decide +kernel
theorem dX3_isThere_9 : decode cX3_isThere 9 = .ok (.aload_n 0, 1) := by decide +kernel
theorem dX3_isThere_10 : decode cX3_isThere 10 = .ok (.getfield 9, 3) := by decide +kernel
theorem dX3_isThere_13 : decode cX3_isThere 13 = .ok (.iload_n 1, 1) := by decide +kernel
theorem dX3_isThere_14 : decode cX3_isThere 14 = .ok (.iaload, 1) := by decide +kernel
theorem dX3_isThere_15 : decode cX3_isThere 15 = .ok (.ifCond .le 7, 3) := by decide +kernel
theorem dX3_isThere_18 : decode cX3_isThere 18 = .ok (.iconst 1, 1) := by decide +kernel
theorem dX3_isThere_19 : decode cX3_isThere 19 = .ok (.goto 4, 3) := by decide +kernel
theorem dX3_isThere_22 : decode cX3_isThere 22 = .ok (.iconst 0, 1) := by decide +kernel
theorem dX3_isThere_23 : decode cX3_isThere 23 = .ok (.ireturn, 1) := by decide +kernel
theorem dX3_griefsThere_0 : decode cX3_griefsThere 0 = .ok (.iconst 0, 1) := by decide +kernel
theorem dX3_griefsThere_1 : decode cX3_griefsThere 1 = .ok (.istore_n 1, 1) := by decide +kernel
theorem dX3_griefsThere_2 : decode cX3_griefsThere 2 = .ok (.iconst 0, 1) := by decide +kernel
theorem dX3_griefsThere_3 : decode cX3_griefsThere 3 = .ok (.istore_n 2, 1) := by decide +kernel
theorem dX3_griefsThere_4 : decode cX3_griefsThere 4 = .ok (.iload_n 2, 1) := by decide +kernel
theorem dX3_griefsThere_5 : decode cX3_griefsThere 5 = .ok (.bipush 6, 2) := by decide +kernel
theorem dX3_griefsThere_7 : decode cX3_griefsThere 7 = .ok (.if_icmp .ge 24, 3) := by decide +kernel
theorem dX3_griefsThere_10 : decode cX3_griefsThere 10 = .ok (.aload_n 0, 1) := by decide +kernel
theorem dX3_griefsThere_11 : decode cX3_griefsThere 11 = .ok (.getfield 9, 3) := by decide +kernel
theorem dX3_griefsThere_14 : decode cX3_griefsThere 14 = .ok (.iload_n 2, 1) := by decide +kernel
theorem dX3_griefsThere_15 : decode cX3_griefsThere 15 = .ok (.iaload, 1) := by decide +kernel
theorem dX3_griefsThere_16 : decode cX3_griefsThere 16 = .ok (.ifCond .le 9, 3) := by decide +kernel
theorem dX3_griefsThere_19 : decode cX3_griefsThere 19 = .ok (.iload_n 1, 1) := by decide +kernel
theorem dX3_griefsThere_20 : decode cX3_griefsThere 20 = .ok (.iconst 1, 1) := by decide +kernel
theorem dX3_griefsThere_21 : decode cX3_griefsThere 21 = .ok (.iload_n 2, 1) := by decide +kernel
theorem dX3_griefsThere_22 : decode cX3_griefsThere 22 = .ok (.ishl, 1) := by decide +kernel
theorem dX3_griefsThere_23 : decode cX3_griefsThere 23 = .ok (.ior, 1) := by decide +kernel
theorem dX3_griefsThere_24 : decode cX3_griefsThere 24 = .ok (.istore_n 1, 1) := by decide +kernel
theorem dX3_griefsThere_25 : decode cX3_griefsThere 25 = .ok (.iinc 2 1, 3) := by decide +kernel
theorem dX3_griefsThere_28 : decode cX3_griefsThere 28 = .ok (.goto (-24), 3) := by decide +kernel
theorem dX3_griefsThere_31 : decode cX3_griefsThere 31 = .ok (.iload_n 1, 1) := by decide +kernel
theorem dX3_griefsThere_32 : decode cX3_griefsThere 32 = .ok (.ireturn, 1) := by decide +kernel
theorem dX3_griefPart_0 : decode cX3_griefPart 0 = .ok (.iload_n 2, 1) := by decide +kernel
theorem dX3_griefPart_1 : decode cX3_griefPart 1 = .ok (.ifCond .ne 12, 3) := by decide +kernel
theorem dX3_griefPart_4 : decode cX3_griefPart 4 = .ok (.aload_n 0, 1) := by decide +kernel
theorem dX3_griefPart_5 : decode cX3_griefPart 5 = .ok (.getfield 9, 3) := by decide +kernel
theorem dX3_griefPart_8 : decode cX3_griefPart 8 = .ok (.iload_n 1, 1) := by decide +kernel
theorem dX3_griefPart_9 : decode cX3_griefPart 9 = .ok (.iaload, 1) := by decide +kernel
theorem dX3_griefPart_10 : decode cX3_griefPart 10 = .ok (.goto 9, 3) := by decide +kernel
theorem dX3_griefPart_13 : decode cX3_griefPart 13 = .ok (.aload_n 0, 1) := by decide +kernel
theorem dX3_griefPart_14 : decode cX3_griefPart 14 = .ok (.getfield 15, 3) := by decide +kernel
theorem dX3_griefPart_17 : decode cX3_griefPart 17 = .ok (.iload_n 1, 1) := by decide +kernel
theorem dX3_griefPart_18 : decode cX3_griefPart 18 = .ok (.iaload, 1) := by decide +kernel
theorem dX3_griefPart_19 : decode cX3_griefPart 19 = .ok (.ireturn, 1) := by decide +kernel
theorem dX3_holdAsNumber_0 : decode cX3_holdAsNumber 0 = .ok (.sipush 1000, 3) := by decide +kernel
theorem dX3_holdAsNumber_3 : decode cX3_holdAsNumber 3 = .ok (.aload_n 0, 1) := by decide +kernel
theorem dX3_holdAsNumber_4 : decode cX3_holdAsNumber 4 = .ok (.getfield 18, 3) := by decide +kernel
theorem dX3_holdAsNumber_7 : decode cX3_holdAsNumber 7 = .ok (.iload_n 1, 1) := by decide +kernel
theorem dX3_holdAsNumber_8 : decode cX3_holdAsNumber 8 = .ok (.iaload, 1) := by decide +kernel
theorem dX3_holdAsNumber_9 : decode cX3_holdAsNumber 9 = .ok (.imul, 1) := by decide +kernel
theorem dX3_holdAsNumber_10 : decode cX3_holdAsNumber 10 = .ok (.bipush 10, 2) := by decide +kernel
theorem dX3_holdAsNumber_12 : decode cX3_holdAsNumber 12 = .ok (.aload_n 0, 1) := by decide +kernel
theorem dX3_holdAsNumber_13 : decode cX3_holdAsNumber 13 = .ok (.getfield 21, 3) := by decide +kernel
theorem dX3_holdAsNumber_16 : decode cX3_holdAsNumber 16 = .ok (.iload_n 1, 1) := by decide +kernel
theorem dX3_holdAsNumber_17 : decode cX3_holdAsNumber 17 = .ok (.iaload, 1) := by decide +kernel
theorem dX3_holdAsNumber_18 : decode cX3_holdAsNumber 18 = .ok (.imul, 1) := by decide +kernel
theorem dX3_holdAsNumber_19 : decode cX3_holdAsNumber 19 = .ok (.iadd, 1) := by decide +kernel
theorem dX3_holdAsNumber_20 : decode cX3_holdAsNumber 20 = .ok (.aload_n 0, 1) := by decide +kernel
theorem dX3_holdAsNumber_21 : decode cX3_holdAsNumber 21 = .ok (.getfield 24, 3) := by decide +kernel
theorem dX3_holdAsNumber_24 : decode cX3_holdAsNumber 24 = .ok (.iload_n 1, 1) := by decide +kernel
theorem dX3_holdAsNumber_25 : decode cX3_holdAsNumber 25 = .ok (.iaload, 1) := by decide +kernel
theorem dX3_holdAsNumber_26 : decode cX3_holdAsNumber 26 = .ok (.iadd, 1) := by decide +kernel
theorem dX3_holdAsNumber_27 : decode cX3_holdAsNumber 27 = .ok (.ireturn, 1) := by decide +kernel
theorem dX3_coatAsNumber_0 : decode cX3_coatAsNumber 0 = .ok (.bipush 100, 2) := by decide +kernel
theorem dX3_coatAsNumber_2 : decode cX3_coatAsNumber 2 = .ok (.aload_n 0, 1) := by decide +kernel
theorem dX3_coatAsNumber_3 : decode cX3_coatAsNumber 3 = .ok (.getfield 27, 3) := by decide +kernel
theorem dX3_coatAsNumber_6 : decode cX3_coatAsNumber 6 = .ok (.iload_n 1, 1) := by decide +kernel
theorem dX3_coatAsNumber_7 : decode cX3_coatAsNumber 7 = .ok (.iaload, 1) := by decide +kernel
theorem dX3_coatAsNumber_8 : decode cX3_coatAsNumber 8 = .ok (.imul, 1) := by decide +kernel
theorem dX3_coatAsNumber_9 : decode cX3_coatAsNumber 9 = .ok (.aload_n 0, 1) := by decide +kernel
theorem dX3_coatAsNumber_10 : decode cX3_coatAsNumber 10 = .ok (.getfield 30, 3) := by decide +kernel
theorem dX3_coatAsNumber_13 : decode cX3_coatAsNumber 13 = .ok (.iload_n 1, 1) := by decide +kernel
theorem dX3_coatAsNumber_14 : decode cX3_coatAsNumber 14 = .ok (.iaload, 1) := by decide +kernel
theorem dX3_coatAsNumber_15 : decode cX3_coatAsNumber 15 = .ok (.iadd, 1) := by decide +kernel
theorem dX3_coatAsNumber_16 : decode cX3_coatAsNumber 16 = .ok (.ireturn, 1) := by decide +kernel
theorem dX3_countMoves_0 : decode cX3_countMoves 0 = .ok (.iconst 0, 1) := by decide +kernel
theorem dX3_countMoves_1 : decode cX3_countMoves 1 = .ok (.istore_n 1, 1) := by decide +kernel
theorem dX3_countMoves_2 : decode cX3_countMoves 2 = .ok (.iconst 0, 1) := by decide +kernel
theorem dX3_countMoves_3 : decode cX3_countMoves 3 = .ok (.istore_n 2, 1) := by decide +kernel
theorem dX3_countMoves_4 : decode cX3_countMoves 4 = .ok (.iload_n 2, 1) := by decide +kernel
theorem dX3_countMoves_5 : decode cX3_countMoves 5 = .ok (.bipush 10, 2) := by decide +kernel
theorem dX3_countMoves_7 : decode cX3_countMoves 7 = .ok (.if_icmp .ge 21, 3) := by decide +kernel
theorem dX3_countMoves_10 : decode cX3_countMoves 10 = .ok (.iload_n 1, 1) := by decide +kernel
theorem dX3_countMoves_11 : decode cX3_countMoves 11 = .ok (.aload_n 0, 1) := by decide +kernel
theorem dX3_countMoves_12 : decode cX3_countMoves 12 = .ok (.getfield 33, 3) := by decide +kernel
theorem dX3_countMoves_15 : decode cX3_countMoves 15 = .ok (.iload_n 2, 1) := by decide +kernel
theorem dX3_countMoves_16 : decode cX3_countMoves 16 = .ok (.iaload, 1) := by decide +kernel
theorem dX3_countMoves_17 : decode cX3_countMoves 17 = .ok (.invokestatic 61, 3) := by decide +kernel
theorem dX3_countMoves_20 : decode cX3_countMoves 20 = .ok (.iadd, 1) := by decide +kernel
theorem dX3_countMoves_21 : decode cX3_countMoves 21 = .ok (.istore_n 1, 1) := by decide +kernel
theorem dX3_countMoves_22 : decode cX3_countMoves 22 = .ok (.iinc 2 1, 3) := by decide +kernel
theorem dX3_countMoves_25 : decode cX3_countMoves 25 = .ok (.goto (-21), 3) := by decide +kernel
theorem dX3_countMoves_28 : decode cX3_countMoves 28 = .ok (.iload_n 1, 1) := by decide +kernel
theorem dX3_countMoves_29 : decode cX3_countMoves 29 = .ok (.ireturn, 1) := by decide +kernel
theorem dX3_holdsThatFit_0 : decode cX3_holdsThatFit 0 = .ok (.iconst 0, 1) := by decide +kernel
theorem dX3_holdsThatFit_1 : decode cX3_holdsThatFit 1 = .ok (.istore_n 2, 1) := by decide +kernel
theorem dX3_holdsThatFit_2 : decode cX3_holdsThatFit 2 = .ok (.iconst 0, 1) := by decide +kernel
theorem dX3_holdsThatFit_3 : decode cX3_holdsThatFit 3 = .ok (.istore_n 3, 1) := by decide +kernel
theorem dX3_holdsThatFit_4 : decode cX3_holdsThatFit 4 = .ok (.iload_n 3, 1) := by decide +kernel
theorem dX3_holdsThatFit_5 : decode cX3_holdsThatFit 5 = .ok (.bipush 6, 2) := by decide +kernel
theorem dX3_holdsThatFit_7 : decode cX3_holdsThatFit 7 = .ok (.if_icmp .ge 33, 3) := by decide +kernel
theorem dX3_holdsThatFit_10 : decode cX3_holdsThatFit 10 = .ok (.aload_n 0, 1) := by decide +kernel
theorem dX3_holdsThatFit_11 : decode cX3_holdsThatFit 11 = .ok (.getfield 18, 3) := by decide +kernel
theorem dX3_holdsThatFit_14 : decode cX3_holdsThatFit 14 = .ok (.iload_n 3, 1) := by decide +kernel
theorem dX3_holdsThatFit_15 : decode cX3_holdsThatFit 15 = .ok (.iaload, 1) := by decide +kernel
theorem dX3_holdsThatFit_16 : decode cX3_holdsThatFit 16 = .ok (.aload_n 0, 1) := by decide +kernel
theorem dX3_holdsThatFit_17 : decode cX3_holdsThatFit 17 = .ok (.getfield 15, 3) := by decide +kernel
theorem dX3_holdsThatFit_20 : decode cX3_holdsThatFit 20 = .ok (.iload_n 1, 1) := by decide +kernel
theorem dX3_holdsThatFit_21 : decode cX3_holdsThatFit 21 = .ok (.iaload, 1) := by decide +kernel
theorem dX3_holdsThatFit_22 : decode cX3_holdsThatFit 22 = .ok (.invokestatic 67, 3) := by decide +kernel
theorem dX3_holdsThatFit_25 : decode cX3_holdsThatFit 25 = .ok (.ifCond .eq 9, 3) := by decide +kernel
theorem dX3_holdsThatFit_28 : decode cX3_holdsThatFit 28 = .ok (.iload_n 2, 1) := by decide +kernel
theorem dX3_holdsThatFit_29 : decode cX3_holdsThatFit 29 = .ok (.iconst 1, 1) := by decide +kernel
theorem dX3_holdsThatFit_30 : decode cX3_holdsThatFit 30 = .ok (.iload_n 3, 1) := by decide +kernel
theorem dX3_holdsThatFit_31 : decode cX3_holdsThatFit 31 = .ok (.ishl, 1) := by decide +kernel
theorem dX3_holdsThatFit_32 : decode cX3_holdsThatFit 32 = .ok (.ior, 1) := by decide +kernel
theorem dX3_holdsThatFit_33 : decode cX3_holdsThatFit 33 = .ok (.istore_n 2, 1) := by decide +kernel
theorem dX3_holdsThatFit_34 : decode cX3_holdsThatFit 34 = .ok (.iinc 3 1, 3) := by decide +kernel
theorem dX3_holdsThatFit_37 : decode cX3_holdsThatFit 37 = .ok (.goto (-33), 3) := by decide +kernel
theorem dX3_holdsThatFit_40 : decode cX3_holdsThatFit 40 = .ok (.iload_n 2, 1) := by decide +kernel
theorem dX3_holdsThatFit_41 : decode cX3_holdsThatFit 41 = .ok (.ireturn, 1) := by decide +kernel
theorem dX3_attempt_0 : decode cX3_attempt 0 = .ok (.aload_n 1, 1) := by decide +kernel
theorem dX3_attempt_1 : decode cX3_attempt 1 = .ok (.getfield 71, 3) := by decide +kernel
theorem dX3_attempt_4 : decode cX3_attempt 4 = .ok (.tableswitch 72 0 3 #[32, 45, 58, 67], 32) := by decide +kernel
theorem dX3_attempt_36 : decode cX3_attempt 36 = .ok (.aload_n 0, 1) := by decide +kernel
theorem dX3_attempt_37 : decode cX3_attempt 37 = .ok (.aload_n 1, 1) := by decide +kernel
theorem dX3_attempt_38 : decode cX3_attempt 38 = .ok (.getfield 76, 3) := by decide +kernel
theorem dX3_attempt_41 : decode cX3_attempt 41 = .ok (.aload_n 1, 1) := by decide +kernel
theorem dX3_attempt_42 : decode cX3_attempt 42 = .ok (.getfield 79, 3) := by decide +kernel
theorem dX3_attempt_45 : decode cX3_attempt 45 = .ok (.invokevirtual 82, 3) := by decide +kernel
theorem dX3_attempt_48 : decode cX3_attempt 48 = .ok (.ireturn, 1) := by decide +kernel
theorem dX3_attempt_49 : decode cX3_attempt 49 = .ok (.aload_n 0, 1) := by decide +kernel
theorem dX3_attempt_50 : decode cX3_attempt 50 = .ok (.aload_n 1, 1) := by decide +kernel
theorem dX3_attempt_51 : decode cX3_attempt 51 = .ok (.getfield 76, 3) := by decide +kernel
theorem dX3_attempt_54 : decode cX3_attempt 54 = .ok (.aload_n 1, 1) := by decide +kernel
theorem dX3_attempt_55 : decode cX3_attempt 55 = .ok (.getfield 79, 3) := by decide +kernel
theorem dX3_attempt_58 : decode cX3_attempt 58 = .ok (.invokevirtual 86, 3) := by decide +kernel
theorem dX3_attempt_61 : decode cX3_attempt 61 = .ok (.ireturn, 1) := by decide +kernel
theorem dX3_attempt_62 : decode cX3_attempt 62 = .ok (.aload_n 0, 1) := by decide +kernel
theorem dX3_attempt_63 : decode cX3_attempt 63 = .ok (.aload_n 1, 1) := by decide +kernel
theorem dX3_attempt_64 : decode cX3_attempt 64 = .ok (.getfield 76, 3) := by decide +kernel
theorem dX3_attempt_67 : decode cX3_attempt 67 = .ok (.invokevirtual 89, 3) := by decide +kernel
theorem dX3_attempt_70 : decode cX3_attempt 70 = .ok (.ireturn, 1) := by decide +kernel
theorem dX3_attempt_71 : decode cX3_attempt 71 = .ok (.aload_n 0, 1) := by decide +kernel
theorem dX3_attempt_72 : decode cX3_attempt 72 = .ok (.invokevirtual 92, 3) := by decide +kernel
theorem dX3_attempt_75 : decode cX3_attempt 75 = .ok (.ireturn, 1) := by decide +kernel
theorem dX3_attempt_76 : decode cX3_attempt 76 = .ok (.aload_n 0, 1) := by decide +kernel
theorem dX3_attempt_77 : decode cX3_attempt 77 = .ok (.invokevirtual 96, 3) := by decide +kernel
theorem dX3_attempt_80 : decode cX3_attempt 80 = .ok (.ireturn, 1) := by decide +kernel
theorem dX3_takeHold_0 : decode cX3_takeHold 0 = .ok (.aload_n 0, 1) := by decide +kernel
theorem dX3_takeHold_1 : decode cX3_takeHold 1 = .ok (.iload_n 1, 1) := by decide +kernel
theorem dX3_takeHold_2 : decode cX3_takeHold 2 = .ok (.invokevirtual 99, 3) := by decide +kernel
theorem dX3_takeHold_5 : decode cX3_takeHold 5 = .ok (.ifCond .ne 5, 3) := by decide +kernel
theorem dX3_takeHold_8 : decode cX3_takeHold 8 = .ok (.iconst 1, 1) := by decide +kernel
theorem dX3_takeHold_9 : decode cX3_takeHold 9 = .ok (.ireturn, 1) := by decide +kernel
theorem dX3_takeHold_10 : decode cX3_takeHold 10 = .ok (.iload_n 2, 1) := by decide +kernel
theorem dX3_takeHold_11 : decode cX3_takeHold 11 = .ok (.invokestatic 103, 3) := by decide +kernel
theorem dX3_takeHold_14 : decode cX3_takeHold 14 = .ok (.ifCond .eq 21, 3) := by decide +kernel
theorem dX3_takeHold_17 : decode cX3_takeHold 17 = .ok (.aload_n 0, 1) := by decide +kernel
theorem dX3_takeHold_18 : decode cX3_takeHold 18 = .ok (.getfield 18, 3) := by decide +kernel
theorem dX3_takeHold_21 : decode cX3_takeHold 21 = .ok (.iload_n 2, 1) := by decide +kernel
theorem dX3_takeHold_22 : decode cX3_takeHold 22 = .ok (.iaload, 1) := by decide +kernel
theorem dX3_takeHold_23 : decode cX3_takeHold 23 = .ok (.aload_n 0, 1) := by decide +kernel
theorem dX3_takeHold_24 : decode cX3_takeHold 24 = .ok (.getfield 15, 3) := by decide +kernel
theorem dX3_takeHold_27 : decode cX3_takeHold 27 = .ok (.iload_n 1, 1) := by decide +kernel
theorem dX3_takeHold_28 : decode cX3_takeHold 28 = .ok (.iaload, 1) := by decide +kernel
theorem dX3_takeHold_29 : decode cX3_takeHold 29 = .ok (.invokestatic 67, 3) := by decide +kernel
theorem dX3_takeHold_32 : decode cX3_takeHold 32 = .ok (.ifCond .ne 5, 3) := by decide +kernel
theorem dX3_takeHold_35 : decode cX3_takeHold 35 = .ok (.iconst 2, 1) := by decide +kernel
theorem dX3_takeHold_36 : decode cX3_takeHold 36 = .ok (.ireturn, 1) := by decide +kernel
theorem dX3_takeHold_37 : decode cX3_takeHold 37 = .ok (.aload_n 0, 1) := by decide +kernel
theorem dX3_takeHold_38 : decode cX3_takeHold 38 = .ok (.getfield 47, 3) := by decide +kernel
theorem dX3_takeHold_41 : decode cX3_takeHold 41 = .ok (.aload_n 0, 1) := by decide +kernel
theorem dX3_takeHold_42 : decode cX3_takeHold 42 = .ok (.getfield 24, 3) := by decide +kernel
theorem dX3_takeHold_45 : decode cX3_takeHold 45 = .ok (.iload_n 2, 1) := by decide +kernel
theorem dX3_takeHold_46 : decode cX3_takeHold 46 = .ok (.iaload, 1) := by decide +kernel
theorem dX3_takeHold_47 : decode cX3_takeHold 47 = .ok (.if_icmp .ge 5, 3) := by decide +kernel
theorem dX3_takeHold_50 : decode cX3_takeHold 50 = .ok (.iconst 3, 1) := by decide +kernel
theorem dX3_takeHold_51 : decode cX3_takeHold 51 = .ok (.ireturn, 1) := by decide +kernel
theorem dX3_takeHold_52 : decode cX3_takeHold 52 = .ok (.aload_n 0, 1) := by decide +kernel
theorem dX3_takeHold_53 : decode cX3_takeHold 53 = .ok (.dup, 1) := by decide +kernel
theorem dX3_takeHold_54 : decode cX3_takeHold 54 = .ok (.getfield 47, 3) := by decide +kernel
theorem dX3_takeHold_57 : decode cX3_takeHold 57 = .ok (.aload_n 0, 1) := by decide +kernel
theorem dX3_takeHold_58 : decode cX3_takeHold 58 = .ok (.getfield 24, 3) := by decide +kernel
theorem dX3_takeHold_61 : decode cX3_takeHold 61 = .ok (.iload_n 2, 1) := by decide +kernel
theorem dX3_takeHold_62 : decode cX3_takeHold 62 = .ok (.iaload, 1) := by decide +kernel
theorem dX3_takeHold_63 : decode cX3_takeHold 63 = .ok (.isub, 1) := by decide +kernel
theorem dX3_takeHold_64 : decode cX3_takeHold 64 = .ok (.putfield 47, 3) := by decide +kernel
theorem dX3_takeHold_67 : decode cX3_takeHold 67 = .ok (.aload_n 0, 1) := by decide +kernel
theorem dX3_takeHold_68 : decode cX3_takeHold 68 = .ok (.getfield 9, 3) := by decide +kernel
theorem dX3_takeHold_71 : decode cX3_takeHold 71 = .ok (.iload_n 1, 1) := by decide +kernel
theorem dX3_takeHold_72 : decode cX3_takeHold 72 = .ok (.aload_n 0, 1) := by decide +kernel
theorem dX3_takeHold_73 : decode cX3_takeHold 73 = .ok (.getfield 9, 3) := by decide +kernel
theorem dX3_takeHold_76 : decode cX3_takeHold 76 = .ok (.iload_n 1, 1) := by decide +kernel
theorem dX3_takeHold_77 : decode cX3_takeHold 77 = .ok (.iaload, 1) := by decide +kernel
theorem dX3_takeHold_78 : decode cX3_takeHold 78 = .ok (.aload_n 0, 1) := by decide +kernel
theorem dX3_takeHold_79 : decode cX3_takeHold 79 = .ok (.getfield 21, 3) := by decide +kernel
theorem dX3_takeHold_82 : decode cX3_takeHold 82 = .ok (.iload_n 2, 1) := by decide +kernel
theorem dX3_takeHold_83 : decode cX3_takeHold 83 = .ok (.iaload, 1) := by decide +kernel
theorem dX3_takeHold_84 : decode cX3_takeHold 84 = .ok (.isub, 1) := by decide +kernel
theorem dX3_takeHold_85 : decode cX3_takeHold 85 = .ok (.iconst 0, 1) := by decide +kernel
theorem dX3_takeHold_86 : decode cX3_takeHold 86 = .ok (.invokestatic 106, 3) := by decide +kernel
theorem dX3_takeHold_89 : decode cX3_takeHold 89 = .ok (.iastore, 1) := by decide +kernel
theorem dX3_takeHold_90 : decode cX3_takeHold 90 = .ok (.iconst 0, 1) := by decide +kernel
theorem dX3_takeHold_91 : decode cX3_takeHold 91 = .ok (.ireturn, 1) := by decide +kernel
theorem dX3_join_0 : decode cX3_join 0 = .ok (.aload_n 0, 1) := by decide +kernel
theorem dX3_join_1 : decode cX3_join 1 = .ok (.iload_n 1, 1) := by decide +kernel
theorem dX3_join_2 : decode cX3_join 2 = .ok (.invokevirtual 99, 3) := by decide +kernel
theorem dX3_join_5 : decode cX3_join 5 = .ok (.ifCond .eq 11, 3) := by decide +kernel
theorem dX3_join_8 : decode cX3_join 8 = .ok (.aload_n 0, 1) := by decide +kernel
theorem dX3_join_9 : decode cX3_join 9 = .ok (.iload_n 2, 1) := by decide +kernel
theorem dX3_join_10 : decode cX3_join 10 = .ok (.invokevirtual 99, 3) := by decide +kernel
theorem dX3_join_13 : decode cX3_join 13 = .ok (.ifCond .ne 5, 3) := by decide +kernel
theorem dX3_join_16 : decode cX3_join 16 = .ok (.iconst 1, 1) := by decide +kernel
theorem dX3_join_17 : decode cX3_join 17 = .ok (.ireturn, 1) := by decide +kernel
theorem dX3_join_18 : decode cX3_join 18 = .ok (.iload_n 1, 1) := by decide +kernel
theorem dX3_join_19 : decode cX3_join 19 = .ok (.iload_n 2, 1) := by decide +kernel
theorem dX3_join_20 : decode cX3_join 20 = .ok (.if_icmp .ne 5, 3) := by decide +kernel
theorem dX3_join_23 : decode cX3_join 23 = .ok (.iconst 4, 1) := by decide +kernel
theorem dX3_join_24 : decode cX3_join 24 = .ok (.ireturn, 1) := by decide +kernel
theorem dX3_join_25 : decode cX3_join 25 = .ok (.aload_n 0, 1) := by decide +kernel
theorem dX3_join_26 : decode cX3_join 26 = .ok (.getfield 9, 3) := by decide +kernel
theorem dX3_join_29 : decode cX3_join 29 = .ok (.iload_n 1, 1) := by decide +kernel
theorem dX3_join_30 : decode cX3_join 30 = .ok (.aload_n 0, 1) := by decide +kernel
theorem dX3_join_31 : decode cX3_join 31 = .ok (.getfield 9, 3) := by decide +kernel
theorem dX3_join_34 : decode cX3_join 34 = .ok (.iload_n 1, 1) := by decide +kernel
theorem dX3_join_35 : decode cX3_join 35 = .ok (.iaload, 1) := by decide +kernel
theorem dX3_join_36 : decode cX3_join 36 = .ok (.aload_n 0, 1) := by decide +kernel
theorem dX3_join_37 : decode cX3_join 37 = .ok (.getfield 9, 3) := by decide +kernel
theorem dX3_join_40 : decode cX3_join 40 = .ok (.iload_n 2, 1) := by decide +kernel
theorem dX3_join_41 : decode cX3_join 41 = .ok (.iaload, 1) := by decide +kernel
theorem dX3_join_42 : decode cX3_join 42 = .ok (.iadd, 1) := by decide +kernel
theorem dX3_join_43 : decode cX3_join 43 = .ok (.bipush 99, 2) := by decide +kernel
theorem dX3_join_45 : decode cX3_join 45 = .ok (.invokestatic 111, 3) := by decide +kernel
theorem dX3_join_48 : decode cX3_join 48 = .ok (.iastore, 1) := by decide +kernel
theorem dX3_join_49 : decode cX3_join 49 = .ok (.aload_n 0, 1) := by decide +kernel
theorem dX3_join_50 : decode cX3_join 50 = .ok (.getfield 15, 3) := by decide +kernel
theorem dX3_join_53 : decode cX3_join 53 = .ok (.iload_n 1, 1) := by decide +kernel
theorem dX3_join_54 : decode cX3_join 54 = .ok (.dup2, 1) := by decide +kernel
theorem dX3_join_55 : decode cX3_join 55 = .ok (.iaload, 1) := by decide +kernel
theorem dX3_join_56 : decode cX3_join 56 = .ok (.aload_n 0, 1) := by decide +kernel
theorem dX3_join_57 : decode cX3_join 57 = .ok (.getfield 15, 3) := by decide +kernel
theorem dX3_join_60 : decode cX3_join 60 = .ok (.iload_n 2, 1) := by decide +kernel
theorem dX3_join_61 : decode cX3_join 61 = .ok (.iaload, 1) := by decide +kernel
theorem dX3_join_62 : decode cX3_join 62 = .ok (.ior, 1) := by decide +kernel
theorem dX3_join_63 : decode cX3_join 63 = .ok (.iastore, 1) := by decide +kernel
theorem dX3_join_64 : decode cX3_join 64 = .ok (.aload_n 0, 1) := by decide +kernel
theorem dX3_join_65 : decode cX3_join 65 = .ok (.getfield 9, 3) := by decide +kernel
theorem dX3_join_68 : decode cX3_join 68 = .ok (.iload_n 2, 1) := by decide +kernel
theorem dX3_join_69 : decode cX3_join 69 = .ok (.iconst 0, 1) := by decide +kernel
theorem dX3_join_70 : decode cX3_join 70 = .ok (.iastore, 1) := by decide +kernel
theorem dX3_join_71 : decode cX3_join 71 = .ok (.iconst 0, 1) := by decide +kernel
theorem dX3_join_72 : decode cX3_join 72 = .ok (.ireturn, 1) := by decide +kernel
theorem dX3_sitBy_0 : decode cX3_sitBy 0 = .ok (.aload_n 0, 1) := by decide +kernel
theorem dX3_sitBy_1 : decode cX3_sitBy 1 = .ok (.iload_n 1, 1) := by decide +kernel
theorem dX3_sitBy_2 : decode cX3_sitBy 2 = .ok (.invokevirtual 99, 3) := by decide +kernel
theorem dX3_sitBy_5 : decode cX3_sitBy 5 = .ok (.ifCond .ne 5, 3) := by decide +kernel
theorem dX3_sitBy_8 : decode cX3_sitBy 8 = .ok (.iconst 1, 1) := by decide +kernel
theorem dX3_sitBy_9 : decode cX3_sitBy 9 = .ok (.ireturn, 1) := by decide +kernel
theorem dX3_sitBy_10 : decode cX3_sitBy 10 = .ok (.aload_n 0, 1) := by decide +kernel
theorem dX3_sitBy_11 : decode cX3_sitBy 11 = .ok (.getfield 47, 3) := by decide +kernel
theorem dX3_sitBy_14 : decode cX3_sitBy 14 = .ok (.bipush 10, 2) := by decide +kernel
theorem dX3_sitBy_16 : decode cX3_sitBy 16 = .ok (.if_icmp .ge 5, 3) := by decide +kernel
theorem dX3_sitBy_19 : decode cX3_sitBy 19 = .ok (.iconst 3, 1) := by decide +kernel
theorem dX3_sitBy_20 : decode cX3_sitBy 20 = .ok (.ireturn, 1) := by decide +kernel
theorem dX3_sitBy_21 : decode cX3_sitBy 21 = .ok (.aload_n 0, 1) := by decide +kernel
theorem dX3_sitBy_22 : decode cX3_sitBy 22 = .ok (.dup, 1) := by decide +kernel
theorem dX3_sitBy_23 : decode cX3_sitBy 23 = .ok (.getfield 47, 3) := by decide +kernel
theorem dX3_sitBy_26 : decode cX3_sitBy 26 = .ok (.bipush 10, 2) := by decide +kernel
theorem dX3_sitBy_28 : decode cX3_sitBy 28 = .ok (.isub, 1) := by decide +kernel
theorem dX3_sitBy_29 : decode cX3_sitBy 29 = .ok (.putfield 47, 3) := by decide +kernel
theorem dX3_sitBy_32 : decode cX3_sitBy 32 = .ok (.aload_n 0, 1) := by decide +kernel
theorem dX3_sitBy_33 : decode cX3_sitBy 33 = .ok (.getfield 9, 3) := by decide +kernel
theorem dX3_sitBy_36 : decode cX3_sitBy 36 = .ok (.iload_n 1, 1) := by decide +kernel
theorem dX3_sitBy_37 : decode cX3_sitBy 37 = .ok (.aload_n 0, 1) := by decide +kernel
theorem dX3_sitBy_38 : decode cX3_sitBy 38 = .ok (.getfield 9, 3) := by decide +kernel
theorem dX3_sitBy_41 : decode cX3_sitBy 41 = .ok (.iload_n 1, 1) := by decide +kernel
theorem dX3_sitBy_42 : decode cX3_sitBy 42 = .ok (.iaload, 1) := by decide +kernel
theorem dX3_sitBy_43 : decode cX3_sitBy 43 = .ok (.iconst 2, 1) := by decide +kernel
theorem dX3_sitBy_44 : decode cX3_sitBy 44 = .ok (.idiv, 1) := by decide +kernel
theorem dX3_sitBy_45 : decode cX3_sitBy 45 = .ok (.iconst 1, 1) := by decide +kernel
theorem dX3_sitBy_46 : decode cX3_sitBy 46 = .ok (.invokestatic 106, 3) := by decide +kernel
theorem dX3_sitBy_49 : decode cX3_sitBy 49 = .ok (.iastore, 1) := by decide +kernel
theorem dX3_sitBy_50 : decode cX3_sitBy 50 = .ok (.iconst 0, 1) := by decide +kernel
theorem dX3_sitBy_51 : decode cX3_sitBy 51 = .ok (.ireturn, 1) := by decide +kernel
theorem dX3_rest_0 : decode cX3_rest 0 = .ok (.aload_n 0, 1) := by decide +kernel
theorem dX3_rest_1 : decode cX3_rest 1 = .ok (.getfield 47, 3) := by decide +kernel
theorem dX3_rest_4 : decode cX3_rest 4 = .ok (.bipush 99, 2) := by decide +kernel
theorem dX3_rest_6 : decode cX3_rest 6 = .ok (.if_icmp .ne 5, 3) := by decide +kernel
theorem dX3_rest_9 : decode cX3_rest 9 = .ok (.iconst 5, 1) := by decide +kernel
theorem dX3_rest_10 : decode cX3_rest 10 = .ok (.ireturn, 1) := by decide +kernel
theorem dX3_rest_11 : decode cX3_rest 11 = .ok (.aload_n 0, 1) := by decide +kernel
theorem dX3_rest_12 : decode cX3_rest 12 = .ok (.aload_n 0, 1) := by decide +kernel
theorem dX3_rest_13 : decode cX3_rest 13 = .ok (.getfield 47, 3) := by decide +kernel
theorem dX3_rest_16 : decode cX3_rest 16 = .ok (.bipush 20, 2) := by decide +kernel
theorem dX3_rest_18 : decode cX3_rest 18 = .ok (.iadd, 1) := by decide +kernel
theorem dX3_rest_19 : decode cX3_rest 19 = .ok (.bipush 99, 2) := by decide +kernel
theorem dX3_rest_21 : decode cX3_rest 21 = .ok (.invokestatic 111, 3) := by decide +kernel
theorem dX3_rest_24 : decode cX3_rest 24 = .ok (.putfield 47, 3) := by decide +kernel
theorem dX3_rest_27 : decode cX3_rest 27 = .ok (.iconst 0, 1) := by decide +kernel
theorem dX3_rest_28 : decode cX3_rest 28 = .ok (.ireturn, 1) := by decide +kernel
theorem dX3_passHour_0 : decode cX3_passHour 0 = .ok (.aload_n 0, 1) := by decide +kernel
theorem dX3_passHour_1 : decode cX3_passHour 1 = .ok (.getfield 50, 3) := by decide +kernel
theorem dX3_passHour_4 : decode cX3_passHour 4 = .ok (.bipush 99, 2) := by decide +kernel
theorem dX3_passHour_6 : decode cX3_passHour 6 = .ok (.if_icmp .ne 6, 3) := by decide +kernel
theorem dX3_passHour_9 : decode cX3_passHour 9 = .ok (.bipush 6, 2) := by decide +kernel
theorem dX3_passHour_11 : decode cX3_passHour 11 = .ok (.ireturn, 1) := by decide +kernel
theorem dX3_passHour_12 : decode cX3_passHour 12 = .ok (.aload_n 0, 1) := by decide +kernel
theorem dX3_passHour_13 : decode cX3_passHour 13 = .ok (.dup, 1) := by decide +kernel
theorem dX3_passHour_14 : decode cX3_passHour 14 = .ok (.getfield 50, 3) := by decide +kernel
theorem dX3_passHour_17 : decode cX3_passHour 17 = .ok (.iconst 1, 1) := by decide +kernel
theorem dX3_passHour_18 : decode cX3_passHour 18 = .ok (.iadd, 1) := by decide +kernel
theorem dX3_passHour_19 : decode cX3_passHour 19 = .ok (.putfield 50, 3) := by decide +kernel
theorem dX3_passHour_22 : decode cX3_passHour 22 = .ok (.aload_n 0, 1) := by decide +kernel
theorem dX3_passHour_23 : decode cX3_passHour 23 = .ok (.aload_n 0, 1) := by decide +kernel
theorem dX3_passHour_24 : decode cX3_passHour 24 = .ok (.getfield 47, 3) := by decide +kernel
theorem dX3_passHour_27 : decode cX3_passHour 27 = .ok (.iconst 5, 1) := by decide +kernel
theorem dX3_passHour_28 : decode cX3_passHour 28 = .ok (.iadd, 1) := by decide +kernel
theorem dX3_passHour_29 : decode cX3_passHour 29 = .ok (.bipush 99, 2) := by decide +kernel
theorem dX3_passHour_31 : decode cX3_passHour 31 = .ok (.invokestatic 111, 3) := by decide +kernel
theorem dX3_passHour_34 : decode cX3_passHour 34 = .ok (.putfield 47, 3) := by decide +kernel
theorem dX3_passHour_37 : decode cX3_passHour 37 = .ok (.iconst 0, 1) := by decide +kernel
theorem dX3_passHour_38 : decode cX3_passHour 38 = .ok (.istore_n 1, 1) := by decide +kernel
theorem dX3_passHour_39 : decode cX3_passHour 39 = .ok (.iload_n 1, 1) := by decide +kernel
theorem dX3_passHour_40 : decode cX3_passHour 40 = .ok (.bipush 6, 2) := by decide +kernel
theorem dX3_passHour_42 : decode cX3_passHour 42 = .ok (.if_icmp .ge 37, 3) := by decide +kernel
theorem dX3_passHour_45 : decode cX3_passHour 45 = .ok (.aload_n 0, 1) := by decide +kernel
theorem dX3_passHour_46 : decode cX3_passHour 46 = .ok (.getfield 9, 3) := by decide +kernel
theorem dX3_passHour_49 : decode cX3_passHour 49 = .ok (.iload_n 1, 1) := by decide +kernel
theorem dX3_passHour_50 : decode cX3_passHour 50 = .ok (.iaload, 1) := by decide +kernel
theorem dX3_passHour_51 : decode cX3_passHour 51 = .ok (.ifCond .le 22, 3) := by decide +kernel
theorem dX3_passHour_54 : decode cX3_passHour 54 = .ok (.aload_n 0, 1) := by decide +kernel
theorem dX3_passHour_55 : decode cX3_passHour 55 = .ok (.getfield 9, 3) := by decide +kernel
theorem dX3_passHour_58 : decode cX3_passHour 58 = .ok (.iload_n 1, 1) := by decide +kernel
theorem dX3_passHour_59 : decode cX3_passHour 59 = .ok (.aload_n 0, 1) := by decide +kernel
theorem dX3_passHour_60 : decode cX3_passHour 60 = .ok (.getfield 9, 3) := by decide +kernel
theorem dX3_passHour_63 : decode cX3_passHour 63 = .ok (.iload_n 1, 1) := by decide +kernel
theorem dX3_passHour_64 : decode cX3_passHour 64 = .ok (.iaload, 1) := by decide +kernel
theorem dX3_passHour_65 : decode cX3_passHour 65 = .ok (.iconst 3, 1) := by decide +kernel
theorem dX3_passHour_66 : decode cX3_passHour 66 = .ok (.iadd, 1) := by decide +kernel
theorem dX3_passHour_67 : decode cX3_passHour 67 = .ok (.bipush 99, 2) := by decide +kernel
theorem dX3_passHour_69 : decode cX3_passHour 69 = .ok (.invokestatic 111, 3) := by decide +kernel
theorem dX3_passHour_72 : decode cX3_passHour 72 = .ok (.iastore, 1) := by decide +kernel
theorem dX3_passHour_73 : decode cX3_passHour 73 = .ok (.iinc 1 1, 3) := by decide +kernel
theorem dX3_passHour_76 : decode cX3_passHour 76 = .ok (.goto (-37), 3) := by decide +kernel
theorem dX3_passHour_79 : decode cX3_passHour 79 = .ok (.iconst 0, 1) := by decide +kernel
theorem dX3_passHour_80 : decode cX3_passHour 80 = .ok (.ireturn, 1) := by decide +kernel
theorem dX3_strengthOf_0 : decode cX3_strengthOf 0 = .ok (.iconst 0, 1) := by decide +kernel
theorem dX3_strengthOf_1 : decode cX3_strengthOf 1 = .ok (.istore_n 2, 1) := by decide +kernel
theorem dX3_strengthOf_2 : decode cX3_strengthOf 2 = .ok (.iconst 0, 1) := by decide +kernel
theorem dX3_strengthOf_3 : decode cX3_strengthOf 3 = .ok (.istore_n 3, 1) := by decide +kernel
theorem dX3_strengthOf_4 : decode cX3_strengthOf 4 = .ok (.iload_n 3, 1) := by decide +kernel
theorem dX3_strengthOf_5 : decode cX3_strengthOf 5 = .ok (.bipush 6, 2) := by decide +kernel
theorem dX3_strengthOf_7 : decode cX3_strengthOf 7 = .ok (.if_icmp .ge 26, 3) := by decide +kernel
theorem dX3_strengthOf_10 : decode cX3_strengthOf 10 = .ok (.iload_n 1, 1) := by decide +kernel
theorem dX3_strengthOf_11 : decode cX3_strengthOf 11 = .ok (.iload_n 3, 1) := by decide +kernel
theorem dX3_strengthOf_12 : decode cX3_strengthOf 12 = .ok (.invokestatic 114, 3) := by decide +kernel
theorem dX3_strengthOf_15 : decode cX3_strengthOf 15 = .ok (.ifCond .eq 12, 3) := by decide +kernel
theorem dX3_strengthOf_18 : decode cX3_strengthOf 18 = .ok (.iload_n 2, 1) := by decide +kernel
theorem dX3_strengthOf_19 : decode cX3_strengthOf 19 = .ok (.aload_n 0, 1) := by decide +kernel
theorem dX3_strengthOf_20 : decode cX3_strengthOf 20 = .ok (.getfield 9, 3) := by decide +kernel
theorem dX3_strengthOf_23 : decode cX3_strengthOf 23 = .ok (.iload_n 3, 1) := by decide +kernel
theorem dX3_strengthOf_24 : decode cX3_strengthOf 24 = .ok (.iaload, 1) := by decide +kernel
theorem dX3_strengthOf_25 : decode cX3_strengthOf 25 = .ok (.iadd, 1) := by decide +kernel
theorem dX3_strengthOf_26 : decode cX3_strengthOf 26 = .ok (.istore_n 2, 1) := by decide +kernel
theorem dX3_strengthOf_27 : decode cX3_strengthOf 27 = .ok (.iinc 3 1, 3) := by decide +kernel
theorem dX3_strengthOf_30 : decode cX3_strengthOf 30 = .ok (.goto (-26), 3) := by decide +kernel
theorem dX3_strengthOf_33 : decode cX3_strengthOf 33 = .ok (.iload_n 2, 1) := by decide +kernel
theorem dX3_strengthOf_34 : decode cX3_strengthOf 34 = .ok (.ireturn, 1) := by decide +kernel
theorem dX3_marksOf_0 : decode cX3_marksOf 0 = .ok (.iconst 0, 1) := by decide +kernel
theorem dX3_marksOf_1 : decode cX3_marksOf 1 = .ok (.istore_n 2, 1) := by decide +kernel
theorem dX3_marksOf_2 : decode cX3_marksOf 2 = .ok (.iconst 0, 1) := by decide +kernel
theorem dX3_marksOf_3 : decode cX3_marksOf 3 = .ok (.istore_n 3, 1) := by decide +kernel
theorem dX3_marksOf_4 : decode cX3_marksOf 4 = .ok (.iload_n 3, 1) := by decide +kernel
theorem dX3_marksOf_5 : decode cX3_marksOf 5 = .ok (.bipush 6, 2) := by decide +kernel
theorem dX3_marksOf_7 : decode cX3_marksOf 7 = .ok (.if_icmp .ge 26, 3) := by decide +kernel
theorem dX3_marksOf_10 : decode cX3_marksOf 10 = .ok (.iload_n 1, 1) := by decide +kernel
theorem dX3_marksOf_11 : decode cX3_marksOf 11 = .ok (.iload_n 3, 1) := by decide +kernel
theorem dX3_marksOf_12 : decode cX3_marksOf 12 = .ok (.invokestatic 114, 3) := by decide +kernel
theorem dX3_marksOf_15 : decode cX3_marksOf 15 = .ok (.ifCond .eq 12, 3) := by decide +kernel
theorem dX3_marksOf_18 : decode cX3_marksOf 18 = .ok (.iload_n 2, 1) := by decide +kernel
theorem dX3_marksOf_19 : decode cX3_marksOf 19 = .ok (.aload_n 0, 1) := by decide +kernel
theorem dX3_marksOf_20 : decode cX3_marksOf 20 = .ok (.getfield 15, 3) := by decide +kernel
theorem dX3_marksOf_23 : decode cX3_marksOf 23 = .ok (.iload_n 3, 1) := by decide +kernel
theorem dX3_marksOf_24 : decode cX3_marksOf 24 = .ok (.iaload, 1) := by decide +kernel
theorem dX3_marksOf_25 : decode cX3_marksOf 25 = .ok (.ior, 1) := by decide +kernel
theorem dX3_marksOf_26 : decode cX3_marksOf 26 = .ok (.istore_n 2, 1) := by decide +kernel
theorem dX3_marksOf_27 : decode cX3_marksOf 27 = .ok (.iinc 3 1, 3) := by decide +kernel
theorem dX3_marksOf_30 : decode cX3_marksOf 30 = .ok (.goto (-26), 3) := by decide +kernel
theorem dX3_marksOf_33 : decode cX3_marksOf 33 = .ok (.iload_n 2, 1) := by decide +kernel
theorem dX3_marksOf_34 : decode cX3_marksOf 34 = .ok (.ireturn, 1) := by decide +kernel
theorem dX3_leastSetWith_0 : decode cX3_leastSetWith 0 = .ok (.aload_n 0, 1) := by decide +kernel
theorem dX3_leastSetWith_1 : decode cX3_leastSetWith 1 = .ok (.invokevirtual 117, 3) := by decide +kernel
theorem dX3_leastSetWith_4 : decode cX3_leastSetWith 4 = .ok (.istore_n 2, 1) := by decide +kernel
theorem dX3_leastSetWith_5 : decode cX3_leastSetWith 5 = .ok (.bipush (-6), 2) := by decide +kernel
theorem dX3_leastSetWith_7 : decode cX3_leastSetWith 7 = .ok (.istore_n 3, 1) := by decide +kernel
theorem dX3_leastSetWith_8 : decode cX3_leastSetWith 8 = .ok (.iconst 0, 1) := by decide +kernel
theorem dX3_leastSetWith_9 : decode cX3_leastSetWith 9 = .ok (.istore 4, 2) := by decide +kernel
theorem dX3_leastSetWith_11 : decode cX3_leastSetWith 11 = .ok (.iload 4, 2) := by decide +kernel
theorem dX3_leastSetWith_13 : decode cX3_leastSetWith 13 = .ok (.bipush 64, 2) := by decide +kernel
theorem dX3_leastSetWith_15 : decode cX3_leastSetWith 15 = .ok (.if_icmp .ge 51, 3) := by decide +kernel
theorem dX3_leastSetWith_18 : decode cX3_leastSetWith 18 = .ok (.iload 4, 2) := by decide +kernel
theorem dX3_leastSetWith_20 : decode cX3_leastSetWith 20 = .ok (.iload_n 2, 1) := by decide +kernel
theorem dX3_leastSetWith_21 : decode cX3_leastSetWith 21 = .ok (.invokestatic 67, 3) := by decide +kernel
theorem dX3_leastSetWith_24 : decode cX3_leastSetWith 24 = .ok (.ifCond .eq 36, 3) := by decide +kernel
theorem dX3_leastSetWith_27 : decode cX3_leastSetWith 27 = .ok (.aload_n 0, 1) := by decide +kernel
theorem dX3_leastSetWith_28 : decode cX3_leastSetWith 28 = .ok (.iload 4, 2) := by decide +kernel
theorem dX3_leastSetWith_30 : decode cX3_leastSetWith 30 = .ok (.invokevirtual 120, 3) := by decide +kernel
theorem dX3_leastSetWith_33 : decode cX3_leastSetWith 33 = .ok (.iload_n 1, 1) := by decide +kernel
theorem dX3_leastSetWith_34 : decode cX3_leastSetWith 34 = .ok (.if_icmp .ne 26, 3) := by decide +kernel
theorem dX3_leastSetWith_37 : decode cX3_leastSetWith 37 = .ok (.iload_n 3, 1) := by decide +kernel
theorem dX3_leastSetWith_38 : decode cX3_leastSetWith 38 = .ok (.bipush (-6), 2) := by decide +kernel
theorem dX3_leastSetWith_40 : decode cX3_leastSetWith 40 = .ok (.if_icmp .eq 17, 3) := by decide +kernel
theorem dX3_leastSetWith_43 : decode cX3_leastSetWith 43 = .ok (.aload_n 0, 1) := by decide +kernel
theorem dX3_leastSetWith_44 : decode cX3_leastSetWith 44 = .ok (.iload 4, 2) := by decide +kernel
theorem dX3_leastSetWith_46 : decode cX3_leastSetWith 46 = .ok (.invokevirtual 123, 3) := by decide +kernel
theorem dX3_leastSetWith_49 : decode cX3_leastSetWith 49 = .ok (.aload_n 0, 1) := by decide +kernel
theorem dX3_leastSetWith_50 : decode cX3_leastSetWith 50 = .ok (.iload_n 3, 1) := by decide +kernel
theorem dX3_leastSetWith_51 : decode cX3_leastSetWith 51 = .ok (.invokevirtual 123, 3) := by decide +kernel
theorem dX3_leastSetWith_54 : decode cX3_leastSetWith 54 = .ok (.if_icmp .ge 6, 3) := by decide +kernel
theorem dX3_leastSetWith_57 : decode cX3_leastSetWith 57 = .ok (.iload 4, 2) := by decide +kernel
theorem dX3_leastSetWith_59 : decode cX3_leastSetWith 59 = .ok (.istore_n 3, 1) := by decide +kernel
theorem dX3_leastSetWith_60 : decode cX3_leastSetWith 60 = .ok (.iinc 4 1, 3) := by decide +kernel
theorem dX3_leastSetWith_63 : decode cX3_leastSetWith 63 = .ok (.goto (-52), 3) := by decide +kernel
theorem dX3_leastSetWith_66 : decode cX3_leastSetWith 66 = .ok (.iload_n 3, 1) := by decide +kernel
theorem dX3_leastSetWith_67 : decode cX3_leastSetWith 67 = .ok (.ireturn, 1) := by decide +kernel
theorem dX3_hoursOf_0 : decode cX3_hoursOf 0 = .ok (.iconst 0, 1) := by decide +kernel
theorem dX3_hoursOf_1 : decode cX3_hoursOf 1 = .ok (.istore_n 2, 1) := by decide +kernel
theorem dX3_hoursOf_2 : decode cX3_hoursOf 2 = .ok (.iconst 0, 1) := by decide +kernel
theorem dX3_hoursOf_3 : decode cX3_hoursOf 3 = .ok (.istore_n 3, 1) := by decide +kernel
theorem dX3_hoursOf_4 : decode cX3_hoursOf 4 = .ok (.iload_n 3, 1) := by decide +kernel
theorem dX3_hoursOf_5 : decode cX3_hoursOf 5 = .ok (.bipush 8, 2) := by decide +kernel
theorem dX3_hoursOf_7 : decode cX3_hoursOf 7 = .ok (.if_icmp .ge 35, 3) := by decide +kernel
theorem dX3_hoursOf_10 : decode cX3_hoursOf 10 = .ok (.iload_n 1, 1) := by decide +kernel
theorem dX3_hoursOf_11 : decode cX3_hoursOf 11 = .ok (.iload_n 3, 1) := by decide +kernel
theorem dX3_hoursOf_12 : decode cX3_hoursOf 12 = .ok (.invokestatic 114, 3) := by decide +kernel
theorem dX3_hoursOf_15 : decode cX3_hoursOf 15 = .ok (.ifCond .eq 21, 3) := by decide +kernel
theorem dX3_hoursOf_18 : decode cX3_hoursOf 18 = .ok (.iload_n 2, 1) := by decide +kernel
theorem dX3_hoursOf_19 : decode cX3_hoursOf 19 = .ok (.aload_n 0, 1) := by decide +kernel
theorem dX3_hoursOf_20 : decode cX3_hoursOf 20 = .ok (.getfield 27, 3) := by decide +kernel
theorem dX3_hoursOf_23 : decode cX3_hoursOf 23 = .ok (.iload_n 3, 1) := by decide +kernel
theorem dX3_hoursOf_24 : decode cX3_hoursOf 24 = .ok (.iaload, 1) := by decide +kernel
theorem dX3_hoursOf_25 : decode cX3_hoursOf 25 = .ok (.aload_n 0, 1) := by decide +kernel
theorem dX3_hoursOf_26 : decode cX3_hoursOf 26 = .ok (.getfield 30, 3) := by decide +kernel
theorem dX3_hoursOf_29 : decode cX3_hoursOf 29 = .ok (.iload_n 3, 1) := by decide +kernel
theorem dX3_hoursOf_30 : decode cX3_hoursOf 30 = .ok (.iaload, 1) := by decide +kernel
theorem dX3_hoursOf_31 : decode cX3_hoursOf 31 = .ok (.invokestatic 126, 3) := by decide +kernel
theorem dX3_hoursOf_34 : decode cX3_hoursOf 34 = .ok (.ior, 1) := by decide +kernel
theorem dX3_hoursOf_35 : decode cX3_hoursOf 35 = .ok (.istore_n 2, 1) := by decide +kernel
theorem dX3_hoursOf_36 : decode cX3_hoursOf 36 = .ok (.iinc 3 1, 3) := by decide +kernel
theorem dX3_hoursOf_39 : decode cX3_hoursOf 39 = .ok (.goto (-35), 3) := by decide +kernel
theorem dX3_hoursOf_42 : decode cX3_hoursOf 42 = .ok (.iload_n 2, 1) := by decide +kernel
theorem dX3_hoursOf_43 : decode cX3_hoursOf 43 = .ok (.ireturn, 1) := by decide +kernel
theorem dX3_fewestCoatsFor_0 : decode cX3_fewestCoatsFor 0 = .ok (.bipush (-6), 2) := by decide +kernel
theorem dX3_fewestCoatsFor_2 : decode cX3_fewestCoatsFor 2 = .ok (.istore_n 2, 1) := by decide +kernel
theorem dX3_fewestCoatsFor_3 : decode cX3_fewestCoatsFor 3 = .ok (.iconst 0, 1) := by decide +kernel
theorem dX3_fewestCoatsFor_4 : decode cX3_fewestCoatsFor 4 = .ok (.istore_n 3, 1) := by decide +kernel
theorem dX3_fewestCoatsFor_5 : decode cX3_fewestCoatsFor 5 = .ok (.iload_n 3, 1) := by decide +kernel
theorem dX3_fewestCoatsFor_6 : decode cX3_fewestCoatsFor 6 = .ok (.sipush 256, 3) := by decide +kernel
theorem dX3_fewestCoatsFor_9 : decode cX3_fewestCoatsFor 9 = .ok (.if_icmp .ge 40, 3) := by decide +kernel
theorem dX3_fewestCoatsFor_12 : decode cX3_fewestCoatsFor 12 = .ok (.iload_n 2, 1) := by decide +kernel
theorem dX3_fewestCoatsFor_13 : decode cX3_fewestCoatsFor 13 = .ok (.bipush (-6), 2) := by decide +kernel
theorem dX3_fewestCoatsFor_15 : decode cX3_fewestCoatsFor 15 = .ok (.if_icmp .eq 14, 3) := by decide +kernel
theorem dX3_fewestCoatsFor_18 : decode cX3_fewestCoatsFor 18 = .ok (.iload_n 3, 1) := by decide +kernel
theorem dX3_fewestCoatsFor_19 : decode cX3_fewestCoatsFor 19 = .ok (.invokestatic 61, 3) := by decide +kernel
theorem dX3_fewestCoatsFor_22 : decode cX3_fewestCoatsFor 22 = .ok (.iload_n 2, 1) := by decide +kernel
theorem dX3_fewestCoatsFor_23 : decode cX3_fewestCoatsFor 23 = .ok (.invokestatic 61, 3) := by decide +kernel
theorem dX3_fewestCoatsFor_26 : decode cX3_fewestCoatsFor 26 = .ok (.if_icmp .ge 17, 3) := by decide +kernel
theorem dX3_fewestCoatsFor_29 : decode cX3_fewestCoatsFor 29 = .ok (.iload_n 1, 1) := by decide +kernel
theorem dX3_fewestCoatsFor_30 : decode cX3_fewestCoatsFor 30 = .ok (.aload_n 0, 1) := by decide +kernel
theorem dX3_fewestCoatsFor_31 : decode cX3_fewestCoatsFor 31 = .ok (.iload_n 3, 1) := by decide +kernel
theorem dX3_fewestCoatsFor_32 : decode cX3_fewestCoatsFor 32 = .ok (.invokevirtual 129, 3) := by decide +kernel
theorem dX3_fewestCoatsFor_35 : decode cX3_fewestCoatsFor 35 = .ok (.invokestatic 67, 3) := by decide +kernel
theorem dX3_fewestCoatsFor_38 : decode cX3_fewestCoatsFor 38 = .ok (.ifCond .eq 5, 3) := by decide +kernel
theorem dX3_fewestCoatsFor_41 : decode cX3_fewestCoatsFor 41 = .ok (.iload_n 3, 1) := by decide +kernel
theorem dX3_fewestCoatsFor_42 : decode cX3_fewestCoatsFor 42 = .ok (.istore_n 2, 1) := by decide +kernel
theorem dX3_fewestCoatsFor_43 : decode cX3_fewestCoatsFor 43 = .ok (.iinc 3 1, 3) := by decide +kernel
theorem dX3_fewestCoatsFor_46 : decode cX3_fewestCoatsFor 46 = .ok (.goto (-41), 3) := by decide +kernel
theorem dX3_fewestCoatsFor_49 : decode cX3_fewestCoatsFor 49 = .ok (.iload_n 2, 1) := by decide +kernel
theorem dX3_fewestCoatsFor_50 : decode cX3_fewestCoatsFor 50 = .ok (.ireturn, 1) := by decide +kernel
theorem dX3_addSight_0 : decode cX3_addSight 0 = .ok (.aload_n 0, 1) := by decide +kernel
theorem dX3_addSight_1 : decode cX3_addSight 1 = .ok (.getfield 43, 3) := by decide +kernel
theorem dX3_addSight_4 : decode cX3_addSight 4 = .ok (.bipush 8, 2) := by decide +kernel
theorem dX3_addSight_6 : decode cX3_addSight 6 = .ok (.if_icmp .lt 5, 3) := by decide +kernel
theorem dX3_addSight_9 : decode cX3_addSight 9 = .ok (.iconst 0, 1) := by decide +kernel
theorem dX3_addSight_10 : decode cX3_addSight 10 = .ok (.ireturn, 1) := by decide +kernel
theorem dX3_addSight_11 : decode cX3_addSight 11 = .ok (.aload_n 0, 1) := by decide +kernel
theorem dX3_addSight_12 : decode cX3_addSight 12 = .ok (.getfield 36, 3) := by decide +kernel
theorem dX3_addSight_15 : decode cX3_addSight 15 = .ok (.aload_n 0, 1) := by decide +kernel
theorem dX3_addSight_16 : decode cX3_addSight 16 = .ok (.getfield 43, 3) := by decide +kernel
theorem dX3_addSight_19 : decode cX3_addSight 19 = .ok (.iload_n 1, 1) := by decide +kernel
theorem dX3_addSight_20 : decode cX3_addSight 20 = .ok (.iastore, 1) := by decide +kernel
theorem dX3_addSight_21 : decode cX3_addSight 21 = .ok (.aload_n 0, 1) := by decide +kernel
theorem dX3_addSight_22 : decode cX3_addSight 22 = .ok (.getfield 39, 3) := by decide +kernel
theorem dX3_addSight_25 : decode cX3_addSight 25 = .ok (.aload_n 0, 1) := by decide +kernel
theorem dX3_addSight_26 : decode cX3_addSight 26 = .ok (.getfield 43, 3) := by decide +kernel
theorem dX3_addSight_29 : decode cX3_addSight 29 = .ok (.iload_n 2, 1) := by decide +kernel
theorem dX3_addSight_30 : decode cX3_addSight 30 = .ok (.bastore, 1) := by decide +kernel
theorem dX3_addSight_31 : decode cX3_addSight 31 = .ok (.aload_n 0, 1) := by decide +kernel
theorem dX3_addSight_32 : decode cX3_addSight 32 = .ok (.dup, 1) := by decide +kernel
theorem dX3_addSight_33 : decode cX3_addSight 33 = .ok (.getfield 43, 3) := by decide +kernel
theorem dX3_addSight_36 : decode cX3_addSight 36 = .ok (.iconst 1, 1) := by decide +kernel
theorem dX3_addSight_37 : decode cX3_addSight 37 = .ok (.iadd, 1) := by decide +kernel
theorem dX3_addSight_38 : decode cX3_addSight 38 = .ok (.putfield 43, 3) := by decide +kernel
theorem dX3_addSight_41 : decode cX3_addSight 41 = .ok (.iconst 1, 1) := by decide +kernel
theorem dX3_addSight_42 : decode cX3_addSight 42 = .ok (.ireturn, 1) := by decide +kernel
theorem dX3_isAsSeen_0 : decode cX3_isAsSeen 0 = .ok (.iconst 0, 1) := by decide +kernel
theorem dX3_isAsSeen_1 : decode cX3_isAsSeen 1 = .ok (.istore_n 2, 1) := by decide +kernel
theorem dX3_isAsSeen_2 : decode cX3_isAsSeen 2 = .ok (.iload_n 2, 1) := by decide +kernel
theorem dX3_isAsSeen_3 : decode cX3_isAsSeen 3 = .ok (.aload_n 0, 1) := by decide +kernel
theorem dX3_isAsSeen_4 : decode cX3_isAsSeen 4 = .ok (.getfield 43, 3) := by decide +kernel
theorem dX3_isAsSeen_7 : decode cX3_isAsSeen 7 = .ok (.if_icmp .ge 41, 3) := by decide +kernel
theorem dX3_isAsSeen_10 : decode cX3_isAsSeen 10 = .ok (.iload_n 2, 1) := by decide +kernel
theorem dX3_isAsSeen_11 : decode cX3_isAsSeen 11 = .ok (.bipush 8, 2) := by decide +kernel
theorem dX3_isAsSeen_13 : decode cX3_isAsSeen 13 = .ok (.if_icmp .ge 35, 3) := by decide +kernel
theorem dX3_isAsSeen_16 : decode cX3_isAsSeen 16 = .ok (.aload_n 0, 1) := by decide +kernel
theorem dX3_isAsSeen_17 : decode cX3_isAsSeen 17 = .ok (.getfield 18, 3) := by decide +kernel
theorem dX3_isAsSeen_20 : decode cX3_isAsSeen 20 = .ok (.aload_n 0, 1) := by decide +kernel
theorem dX3_isAsSeen_21 : decode cX3_isAsSeen 21 = .ok (.getfield 36, 3) := by decide +kernel
theorem dX3_isAsSeen_24 : decode cX3_isAsSeen 24 = .ok (.iload_n 2, 1) := by decide +kernel
theorem dX3_isAsSeen_25 : decode cX3_isAsSeen 25 = .ok (.iaload, 1) := by decide +kernel
theorem dX3_isAsSeen_26 : decode cX3_isAsSeen 26 = .ok (.iaload, 1) := by decide +kernel
theorem dX3_isAsSeen_27 : decode cX3_isAsSeen 27 = .ok (.iload_n 1, 1) := by decide +kernel
theorem dX3_isAsSeen_28 : decode cX3_isAsSeen 28 = .ok (.invokestatic 67, 3) := by decide +kernel
theorem dX3_isAsSeen_31 : decode cX3_isAsSeen 31 = .ok (.aload_n 0, 1) := by decide +kernel
theorem dX3_isAsSeen_32 : decode cX3_isAsSeen 32 = .ok (.getfield 39, 3) := by decide +kernel
theorem dX3_isAsSeen_35 : decode cX3_isAsSeen 35 = .ok (.iload_n 2, 1) := by decide +kernel
theorem dX3_isAsSeen_36 : decode cX3_isAsSeen 36 = .ok (.baload, 1) := by decide +kernel
theorem dX3_isAsSeen_37 : decode cX3_isAsSeen 37 = .ok (.if_icmp .eq 5, 3) := by decide +kernel
theorem dX3_isAsSeen_40 : decode cX3_isAsSeen 40 = .ok (.iconst 0, 1) := by decide +kernel
theorem dX3_isAsSeen_41 : decode cX3_isAsSeen 41 = .ok (.ireturn, 1) := by decide +kernel
theorem dX3_isAsSeen_42 : decode cX3_isAsSeen 42 = .ok (.iinc 2 1, 3) := by decide +kernel
theorem dX3_isAsSeen_45 : decode cX3_isAsSeen 45 = .ok (.goto (-43), 3) := by decide +kernel
theorem dX3_isAsSeen_48 : decode cX3_isAsSeen 48 = .ok (.iconst 1, 1) := by decide +kernel
theorem dX3_isAsSeen_49 : decode cX3_isAsSeen 49 = .ok (.ireturn, 1) := by decide +kernel
theorem dX4_init_0 : decode cX4_init 0 = .ok (.aload_n 0, 1) := by decide +kernel
theorem dX4_init_1 : decode cX4_init 1 = .ok (.invokespecial 3, 3) := by decide +kernel
theorem dX4_init_4 : decode cX4_init 4 = .ok (.aload_n 0, 1) := by decide +kernel
theorem dX4_init_5 : decode cX4_init 5 = .ok (.new 9, 3) := by decide +kernel
theorem dX4_init_8 : decode cX4_init 8 = .ok (.dup, 1) := by decide +kernel
theorem dX4_init_9 : decode cX4_init 9 = .ok (.invokespecial 11, 3) := by decide +kernel
theorem dX4_init_12 : decode cX4_init 12 = .ok (.putfield 12, 3) := by decide +kernel
theorem dX4_init_15 : decode cX4_init 15 = .ok (.aload_n 0, 1) := by decide +kernel
theorem dX4_init_16 : decode cX4_init 16 = .ok (.bipush 6, 2) := by decide +kernel
theorem dX4_init_18 : decode cX4_init 18 = .ok (.newarray .int, 2) := by decide +kernel
theorem dX4_init_20 : decode cX4_init 20 = .ok (.putfield 18, 3) := by decide +kernel
theorem dX4_init_23 : decode cX4_init 23 = .ok (.aload_n 0, 1) := by decide +kernel
theorem dX4_init_24 : decode cX4_init 24 = .ok (.bipush 64, 2) := by decide +kernel
theorem dX4_init_26 : decode cX4_init 26 = .ok (.newarray .int, 2) := by decide +kernel
theorem dX4_init_28 : decode cX4_init 28 = .ok (.putfield 22, 3) := by decide +kernel
theorem dX4_init_31 : decode cX4_init 31 = .ok (.aload_n 0, 1) := by decide +kernel
theorem dX4_init_32 : decode cX4_init 32 = .ok (.iconst 0, 1) := by decide +kernel
theorem dX4_init_33 : decode cX4_init 33 = .ok (.putfield 25, 3) := by decide +kernel
theorem dX4_init_36 : decode cX4_init 36 = .ok (.return_, 1) := by decide +kernel
theorem dX4_work_0 : decode cX4_work 0 = .ok (.aload_n 0, 1) := by decide +kernel
theorem dX4_work_1 : decode cX4_work 1 = .ok (.iconst 0, 1) := by decide +kernel
theorem dX4_work_2 : decode cX4_work 2 = .ok (.putfield 25, 3) := by decide +kernel
theorem dX4_work_5 : decode cX4_work 5 = .ok (.iconst 0, 1) := by decide +kernel
theorem dX4_work_6 : decode cX4_work 6 = .ok (.istore_n 2, 1) := by decide +kernel
theorem dX4_work_7 : decode cX4_work 7 = .ok (.iload_n 2, 1) := by decide +kernel
theorem dX4_work_8 : decode cX4_work 8 = .ok (.bipush 6, 2) := by decide +kernel
theorem dX4_work_10 : decode cX4_work 10 = .ok (.if_icmp .ge 61, 3) := by decide +kernel
theorem dX4_work_13 : decode cX4_work 13 = .ok (.aload_n 1, 1) := by decide +kernel
theorem dX4_work_14 : decode cX4_work 14 = .ok (.iload_n 2, 1) := by decide +kernel
theorem dX4_work_15 : decode cX4_work 15 = .ok (.invokevirtual 29, 3) := by decide +kernel
theorem dX4_work_18 : decode cX4_work 18 = .ok (.ifCond .eq 15, 3) := by decide +kernel
theorem dX4_work_21 : decode cX4_work 21 = .ok (.aload_n 0, 1) := by decide +kernel
theorem dX4_work_22 : decode cX4_work 22 = .ok (.getfield 12, 3) := by decide +kernel
theorem dX4_work_25 : decode cX4_work 25 = .ok (.aload_n 1, 1) := by decide +kernel
theorem dX4_work_26 : decode cX4_work 26 = .ok (.iload_n 2, 1) := by decide +kernel
theorem dX4_work_27 : decode cX4_work 27 = .ok (.invokevirtual 35, 3) := by decide +kernel
theorem dX4_work_30 : decode cX4_work 30 = .ok (.goto 5, 3) := by decide +kernel
theorem dX4_work_33 : decode cX4_work 33 = .ok (.bipush (-6), 2) := by decide +kernel
theorem dX4_work_35 : decode cX4_work 35 = .ok (.istore_n 3, 1) := by decide +kernel
theorem dX4_work_36 : decode cX4_work 36 = .ok (.iload_n 3, 1) := by decide +kernel
theorem dX4_work_37 : decode cX4_work 37 = .ok (.bipush (-6), 2) := by decide +kernel
theorem dX4_work_39 : decode cX4_work 39 = .ok (.if_icmp .eq 26, 3) := by decide +kernel
theorem dX4_work_42 : decode cX4_work 42 = .ok (.aload_n 0, 1) := by decide +kernel
theorem dX4_work_43 : decode cX4_work 43 = .ok (.dup, 1) := by decide +kernel
theorem dX4_work_44 : decode cX4_work 44 = .ok (.getfield 25, 3) := by decide +kernel
theorem dX4_work_47 : decode cX4_work 47 = .ok (.iconst 1, 1) := by decide +kernel
theorem dX4_work_48 : decode cX4_work 48 = .ok (.iload_n 2, 1) := by decide +kernel
theorem dX4_work_49 : decode cX4_work 49 = .ok (.ishl, 1) := by decide +kernel
theorem dX4_work_50 : decode cX4_work 50 = .ok (.ior, 1) := by decide +kernel
theorem dX4_work_51 : decode cX4_work 51 = .ok (.putfield 25, 3) := by decide +kernel
theorem dX4_work_54 : decode cX4_work 54 = .ok (.aload_n 0, 1) := by decide +kernel
theorem dX4_work_55 : decode cX4_work 55 = .ok (.getfield 18, 3) := by decide +kernel
theorem dX4_work_58 : decode cX4_work 58 = .ok (.iload_n 2, 1) := by decide +kernel
theorem dX4_work_59 : decode cX4_work 59 = .ok (.iload_n 3, 1) := by decide +kernel
theorem dX4_work_60 : decode cX4_work 60 = .ok (.sipush 1000, 3) := by decide +kernel
theorem dX4_work_63 : decode cX4_work 63 = .ok (.irem, 1) := by decide +kernel
theorem dX4_work_64 : decode cX4_work 64 = .ok (.iastore, 1) := by decide +kernel
theorem dX4_work_65 : decode cX4_work 65 = .ok (.iinc 2 1, 3) := by decide +kernel
theorem dX4_work_68 : decode cX4_work 68 = .ok (.goto (-61), 3) := by decide +kernel
theorem dX4_work_71 : decode cX4_work 71 = .ok (.iconst 1, 1) := by decide +kernel
theorem dX4_work_72 : decode cX4_work 72 = .ok (.istore_n 2, 1) := by decide +kernel
theorem dX4_work_73 : decode cX4_work 73 = .ok (.iload_n 2, 1) := by decide +kernel
theorem dX4_work_74 : decode cX4_work 74 = .ok (.aload_n 0, 1) := by decide +kernel
theorem dX4_work_75 : decode cX4_work 75 = .ok (.getfield 25, 3) := by decide +kernel
theorem dX4_work_78 : decode cX4_work 78 = .ok (.if_icmp .gt 32, 3) := by decide +kernel
theorem dX4_work_81 : decode cX4_work 81 = .ok (.iload_n 2, 1) := by decide +kernel
theorem dX4_work_82 : decode cX4_work 82 = .ok (.aload_n 0, 1) := by decide +kernel
theorem dX4_work_83 : decode cX4_work 83 = .ok (.getfield 25, 3) := by decide +kernel
theorem dX4_work_86 : decode cX4_work 86 = .ok (.invokestatic 39, 3) := by decide +kernel
theorem dX4_work_89 : decode cX4_work 89 = .ok (.ifCond .eq 15, 3) := by decide +kernel
theorem dX4_work_92 : decode cX4_work 92 = .ok (.aload_n 0, 1) := by decide +kernel
theorem dX4_work_93 : decode cX4_work 93 = .ok (.getfield 22, 3) := by decide +kernel
theorem dX4_work_96 : decode cX4_work 96 = .ok (.iload_n 2, 1) := by decide +kernel
theorem dX4_work_97 : decode cX4_work 97 = .ok (.aload_n 0, 1) := by decide +kernel
theorem dX4_work_98 : decode cX4_work 98 = .ok (.aload_n 1, 1) := by decide +kernel
theorem dX4_work_99 : decode cX4_work 99 = .ok (.iload_n 2, 1) := by decide +kernel
theorem dX4_work_100 : decode cX4_work 100 = .ok (.invokevirtual 43, 3) := by decide +kernel
theorem dX4_work_103 : decode cX4_work 103 = .ok (.iastore, 1) := by decide +kernel
theorem dX4_work_104 : decode cX4_work 104 = .ok (.iinc 2 1, 3) := by decide +kernel
theorem dX4_work_107 : decode cX4_work 107 = .ok (.goto (-34), 3) := by decide +kernel
theorem dX4_work_110 : decode cX4_work 110 = .ok (.return_, 1) := by decide +kernel
theorem dX4_leastOf_0 : decode cX4_leastOf 0 = .ok (.ldc 46, 2) := by decide +kernel
theorem dX4_leastOf_2 : decode cX4_leastOf 2 = .ok (.istore_n 3, 1) := by decide +kernel
theorem dX4_leastOf_3 : decode cX4_leastOf 3 = .ok (.iconst 0, 1) := by decide +kernel
theorem dX4_leastOf_4 : decode cX4_leastOf 4 = .ok (.istore 4, 2) := by decide +kernel
theorem dX4_leastOf_6 : decode cX4_leastOf 6 = .ok (.iload 4, 2) := by decide +kernel
theorem dX4_leastOf_8 : decode cX4_leastOf 8 = .ok (.bipush 6, 2) := by decide +kernel
theorem dX4_leastOf_10 : decode cX4_leastOf 10 = .ok (.if_icmp .ge 31, 3) := by decide +kernel
theorem dX4_leastOf_13 : decode cX4_leastOf 13 = .ok (.iload_n 2, 1) := by decide +kernel
theorem dX4_leastOf_14 : decode cX4_leastOf 14 = .ok (.iload 4, 2) := by decide +kernel
theorem dX4_leastOf_16 : decode cX4_leastOf 16 = .ok (.invokestatic 47, 3) := by decide +kernel
theorem dX4_leastOf_19 : decode cX4_leastOf 19 = .ok (.ifCond .eq 16, 3) := by decide +kernel
theorem dX4_leastOf_22 : decode cX4_leastOf 22 = .ok (.iload_n 3, 1) := by decide +kernel
theorem dX4_leastOf_23 : decode cX4_leastOf 23 = .ok (.aload_n 0, 1) := by decide +kernel
theorem dX4_leastOf_24 : decode cX4_leastOf 24 = .ok (.aload_n 1, 1) := by decide +kernel
theorem dX4_leastOf_25 : decode cX4_leastOf 25 = .ok (.iload_n 2, 1) := by decide +kernel
theorem dX4_leastOf_26 : decode cX4_leastOf 26 = .ok (.iload 4, 2) := by decide +kernel
theorem dX4_leastOf_28 : decode cX4_leastOf 28 = .ok (.invokevirtual 50, 3) := by decide +kernel
theorem dX4_leastOf_31 : decode cX4_leastOf 31 = .ok (.invokestatic 54, 3) := by decide +kernel
theorem dX4_leastOf_34 : decode cX4_leastOf 34 = .ok (.istore_n 3, 1) := by decide +kernel
theorem dX4_leastOf_35 : decode cX4_leastOf 35 = .ok (.iinc 4 1, 3) := by decide +kernel
theorem dX4_leastOf_38 : decode cX4_leastOf 38 = .ok (.goto (-32), 3) := by decide +kernel
theorem dX4_leastOf_41 : decode cX4_leastOf 41 = .ok (.iload_n 3, 1) := by decide +kernel
theorem dX4_leastOf_42 : decode cX4_leastOf 42 = .ok (.ireturn, 1) := by decide +kernel
theorem dX4_borneIfFirst_0 : decode cX4_borneIfFirst 0 = .ok (.aload_n 1, 1) := by decide +kernel
theorem dX4_borneIfFirst_1 : decode cX4_borneIfFirst 1 = .ok (.iload_n 2, 1) := by decide +kernel
theorem dX4_borneIfFirst_2 : decode cX4_borneIfFirst 2 = .ok (.invokevirtual 60, 3) := by decide +kernel
theorem dX4_borneIfFirst_5 : decode cX4_borneIfFirst 5 = .ok (.aload_n 0, 1) := by decide +kernel
theorem dX4_borneIfFirst_6 : decode cX4_borneIfFirst 6 = .ok (.getfield 18, 3) := by decide +kernel
theorem dX4_borneIfFirst_9 : decode cX4_borneIfFirst 9 = .ok (.iload_n 3, 1) := by decide +kernel
theorem dX4_borneIfFirst_10 : decode cX4_borneIfFirst 10 = .ok (.iaload, 1) := by decide +kernel
theorem dX4_borneIfFirst_11 : decode cX4_borneIfFirst 11 = .ok (.imul, 1) := by decide +kernel
theorem dX4_borneIfFirst_12 : decode cX4_borneIfFirst 12 = .ok (.aload_n 0, 1) := by decide +kernel
theorem dX4_borneIfFirst_13 : decode cX4_borneIfFirst 13 = .ok (.getfield 22, 3) := by decide +kernel
theorem dX4_borneIfFirst_16 : decode cX4_borneIfFirst 16 = .ok (.iload_n 2, 1) := by decide +kernel
theorem dX4_borneIfFirst_17 : decode cX4_borneIfFirst 17 = .ok (.iconst 1, 1) := by decide +kernel
theorem dX4_borneIfFirst_18 : decode cX4_borneIfFirst 18 = .ok (.iload_n 3, 1) := by decide +kernel
theorem dX4_borneIfFirst_19 : decode cX4_borneIfFirst 19 = .ok (.ishl, 1) := by decide +kernel
theorem dX4_borneIfFirst_20 : decode cX4_borneIfFirst 20 = .ok (.iconst (-1), 1) := by decide +kernel
theorem dX4_borneIfFirst_21 : decode cX4_borneIfFirst 21 = .ok (.ixor, 1) := by decide +kernel
theorem dX4_borneIfFirst_22 : decode cX4_borneIfFirst 22 = .ok (.iand, 1) := by decide +kernel
theorem dX4_borneIfFirst_23 : decode cX4_borneIfFirst 23 = .ok (.iaload, 1) := by decide +kernel
theorem dX4_borneIfFirst_24 : decode cX4_borneIfFirst 24 = .ok (.iadd, 1) := by decide +kernel
theorem dX4_borneIfFirst_25 : decode cX4_borneIfFirst 25 = .ok (.ireturn, 1) := by decide +kernel
theorem dX4_leastBorne_0 : decode cX4_leastBorne 0 = .ok (.aload_n 0, 1) := by decide +kernel
theorem dX4_leastBorne_1 : decode cX4_leastBorne 1 = .ok (.getfield 22, 3) := by decide +kernel
theorem dX4_leastBorne_4 : decode cX4_leastBorne 4 = .ok (.aload_n 0, 1) := by decide +kernel
theorem dX4_leastBorne_5 : decode cX4_leastBorne 5 = .ok (.getfield 25, 3) := by decide +kernel
theorem dX4_leastBorne_8 : decode cX4_leastBorne 8 = .ok (.iaload, 1) := by decide +kernel
theorem dX4_leastBorne_9 : decode cX4_leastBorne 9 = .ok (.ireturn, 1) := by decide +kernel
theorem dX4_firstTaken_0 : decode cX4_firstTaken 0 = .ok (.iconst 0, 1) := by decide +kernel
theorem dX4_firstTaken_1 : decode cX4_firstTaken 1 = .ok (.istore_n 2, 1) := by decide +kernel
theorem dX4_firstTaken_2 : decode cX4_firstTaken 2 = .ok (.iload_n 2, 1) := by decide +kernel
theorem dX4_firstTaken_3 : decode cX4_firstTaken 3 = .ok (.bipush 6, 2) := by decide +kernel
theorem dX4_firstTaken_5 : decode cX4_firstTaken 5 = .ok (.if_icmp .ge 44, 3) := by decide +kernel
theorem dX4_firstTaken_8 : decode cX4_firstTaken 8 = .ok (.aload_n 0, 1) := by decide +kernel
theorem dX4_firstTaken_9 : decode cX4_firstTaken 9 = .ok (.getfield 25, 3) := by decide +kernel
theorem dX4_firstTaken_12 : decode cX4_firstTaken 12 = .ok (.iload_n 2, 1) := by decide +kernel
theorem dX4_firstTaken_13 : decode cX4_firstTaken 13 = .ok (.invokestatic 47, 3) := by decide +kernel
theorem dX4_firstTaken_16 : decode cX4_firstTaken 16 = .ok (.ifCond .eq 27, 3) := by decide +kernel
theorem dX4_firstTaken_19 : decode cX4_firstTaken 19 = .ok (.aload_n 0, 1) := by decide +kernel
theorem dX4_firstTaken_20 : decode cX4_firstTaken 20 = .ok (.aload_n 1, 1) := by decide +kernel
theorem dX4_firstTaken_21 : decode cX4_firstTaken 21 = .ok (.aload_n 0, 1) := by decide +kernel
theorem dX4_firstTaken_22 : decode cX4_firstTaken 22 = .ok (.getfield 25, 3) := by decide +kernel
theorem dX4_firstTaken_25 : decode cX4_firstTaken 25 = .ok (.iload_n 2, 1) := by decide +kernel
theorem dX4_firstTaken_26 : decode cX4_firstTaken 26 = .ok (.invokevirtual 50, 3) := by decide +kernel
theorem dX4_firstTaken_29 : decode cX4_firstTaken 29 = .ok (.aload_n 0, 1) := by decide +kernel
theorem dX4_firstTaken_30 : decode cX4_firstTaken 30 = .ok (.getfield 22, 3) := by decide +kernel
theorem dX4_firstTaken_33 : decode cX4_firstTaken 33 = .ok (.aload_n 0, 1) := by decide +kernel
theorem dX4_firstTaken_34 : decode cX4_firstTaken 34 = .ok (.getfield 25, 3) := by decide +kernel
theorem dX4_firstTaken_37 : decode cX4_firstTaken 37 = .ok (.iaload, 1) := by decide +kernel
theorem dX4_firstTaken_38 : decode cX4_firstTaken 38 = .ok (.if_icmp .ne 5, 3) := by decide +kernel
theorem dX4_firstTaken_41 : decode cX4_firstTaken 41 = .ok (.iload_n 2, 1) := by decide +kernel
theorem dX4_firstTaken_42 : decode cX4_firstTaken 42 = .ok (.ireturn, 1) := by decide +kernel
theorem dX4_firstTaken_43 : decode cX4_firstTaken 43 = .ok (.iinc 2 1, 3) := by decide +kernel
theorem dX4_firstTaken_46 : decode cX4_firstTaken 46 = .ok (.goto (-44), 3) := by decide +kernel
theorem dX4_firstTaken_49 : decode cX4_firstTaken 49 = .ok (.bipush (-6), 2) := by decide +kernel
theorem dX4_firstTaken_51 : decode cX4_firstTaken 51 = .ok (.ireturn, 1) := by decide +kernel
theorem dX5_init_0 : decode cX5_init 0 = .ok (.aload_n 0, 1) := by decide +kernel
theorem dX5_init_1 : decode cX5_init 1 = .ok (.invokespecial 3, 3) := by decide +kernel
theorem dX5_init_4 : decode cX5_init 4 = .ok (.aload_n 0, 1) := by decide +kernel
theorem dX5_init_5 : decode cX5_init 5 = .ok (.bipush 60, 2) := by decide +kernel
theorem dX5_init_7 : decode cX5_init 7 = .ok (.newarray .int, 2) := by decide +kernel
theorem dX5_init_9 : decode cX5_init 9 = .ok (.putfield 9, 3) := by decide +kernel
theorem dX5_init_12 : decode cX5_init 12 = .ok (.aload_n 0, 1) := by decide +kernel
theorem dX5_init_13 : decode cX5_init 13 = .ok (.iconst 0, 1) := by decide +kernel
theorem dX5_init_14 : decode cX5_init 14 = .ok (.putfield 15, 3) := by decide +kernel
theorem dX5_init_17 : decode cX5_init 17 = .ok (.return_, 1) := by decide +kernel
theorem dX5_write_0 : decode cX5_write 0 = .ok (.aload_n 0, 1) := by decide +kernel
theorem dX5_write_1 : decode cX5_write 1 = .ok (.getfield 15, 3) := by decide +kernel
theorem dX5_write_4 : decode cX5_write 4 = .ok (.bipush 60, 2) := by decide +kernel
theorem dX5_write_6 : decode cX5_write 6 = .ok (.if_icmp .lt 5, 3) := by decide +kernel
theorem dX5_write_9 : decode cX5_write 9 = .ok (.iconst 0, 1) := by decide +kernel
theorem dX5_write_10 : decode cX5_write 10 = .ok (.ireturn, 1) := by decide +kernel
theorem dX5_write_11 : decode cX5_write 11 = .ok (.aload_n 0, 1) := by decide +kernel
theorem dX5_write_12 : decode cX5_write 12 = .ok (.getfield 9, 3) := by decide +kernel
theorem dX5_write_15 : decode cX5_write 15 = .ok (.aload_n 0, 1) := by decide +kernel
theorem dX5_write_16 : decode cX5_write 16 = .ok (.getfield 15, 3) := by decide +kernel
theorem dX5_write_19 : decode cX5_write 19 = .ok (.iload_n 1, 1) := by decide +kernel
theorem dX5_write_20 : decode cX5_write 20 = .ok (.iastore, 1) := by decide +kernel
theorem dX5_write_21 : decode cX5_write 21 = .ok (.aload_n 0, 1) := by decide +kernel
theorem dX5_write_22 : decode cX5_write 22 = .ok (.dup, 1) := by decide +kernel
theorem dX5_write_23 : decode cX5_write 23 = .ok (.getfield 15, 3) := by decide +kernel
theorem dX5_write_26 : decode cX5_write 26 = .ok (.iconst 1, 1) := by decide +kernel
theorem dX5_write_27 : decode cX5_write 27 = .ok (.iadd, 1) := by decide +kernel
theorem dX5_write_28 : decode cX5_write 28 = .ok (.putfield 15, 3) := by decide +kernel
theorem dX5_write_31 : decode cX5_write 31 = .ok (.iconst 1, 1) := by decide +kernel
theorem dX5_write_32 : decode cX5_write 32 = .ok (.ireturn, 1) := by decide +kernel
theorem dX5_findFault_0 : decode cX5_findFault 0 = .ok (.iconst 0, 1) := by decide +kernel
theorem dX5_findFault_1 : decode cX5_findFault 1 = .ok (.istore_n 1, 1) := by decide +kernel
theorem dX5_findFault_2 : decode cX5_findFault 2 = .ok (.iconst 0, 1) := by decide +kernel
theorem dX5_findFault_3 : decode cX5_findFault 3 = .ok (.istore_n 2, 1) := by decide +kernel
theorem dX5_findFault_4 : decode cX5_findFault 4 = .ok (.iload_n 2, 1) := by decide +kernel
theorem dX5_findFault_5 : decode cX5_findFault 5 = .ok (.aload_n 0, 1) := by decide +kernel
theorem dX5_findFault_6 : decode cX5_findFault 6 = .ok (.getfield 15, 3) := by decide +kernel
theorem dX5_findFault_9 : decode cX5_findFault 9 = .ok (.if_icmp .ge 26, 3) := by decide +kernel
theorem dX5_findFault_12 : decode cX5_findFault 12 = .ok (.iload_n 1, 1) := by decide +kernel
theorem dX5_findFault_13 : decode cX5_findFault 13 = .ok (.aload_n 0, 1) := by decide +kernel
theorem dX5_findFault_14 : decode cX5_findFault 14 = .ok (.iload_n 2, 1) := by decide +kernel
theorem dX5_findFault_15 : decode cX5_findFault 15 = .ok (.invokevirtual 19, 3) := by decide +kernel
theorem dX5_findFault_18 : decode cX5_findFault 18 = .ok (.invokestatic 23, 3) := by decide +kernel
theorem dX5_findFault_21 : decode cX5_findFault 21 = .ok (.istore_n 1, 1) := by decide +kernel
theorem dX5_findFault_22 : decode cX5_findFault 22 = .ok (.iload_n 1, 1) := by decide +kernel
theorem dX5_findFault_23 : decode cX5_findFault 23 = .ok (.iconst (-1), 1) := by decide +kernel
theorem dX5_findFault_24 : decode cX5_findFault 24 = .ok (.if_icmp .ne 5, 3) := by decide +kernel
theorem dX5_findFault_27 : decode cX5_findFault 27 = .ok (.iload_n 2, 1) := by decide +kernel
theorem dX5_findFault_28 : decode cX5_findFault 28 = .ok (.ireturn, 1) := by decide +kernel
theorem dX5_findFault_29 : decode cX5_findFault 29 = .ok (.iinc 2 1, 3) := by decide +kernel
theorem dX5_findFault_32 : decode cX5_findFault 32 = .ok (.goto (-28), 3) := by decide +kernel
theorem dX5_findFault_35 : decode cX5_findFault 35 = .ok (.iload_n 1, 1) := by decide +kernel
theorem dX5_findFault_36 : decode cX5_findFault 36 = .ok (.ifCond .ne 8, 3) := by decide +kernel
theorem dX5_findFault_39 : decode cX5_findFault 39 = .ok (.bipush (-6), 2) := by decide +kernel
theorem dX5_findFault_41 : decode cX5_findFault 41 = .ok (.goto 7, 3) := by decide +kernel
theorem dX5_findFault_44 : decode cX5_findFault 44 = .ok (.aload_n 0, 1) := by decide +kernel
theorem dX5_findFault_45 : decode cX5_findFault 45 = .ok (.getfield 15, 3) := by decide +kernel
theorem dX5_findFault_48 : decode cX5_findFault 48 = .ok (.ireturn, 1) := by decide +kernel
theorem dX5_awaitedAfter_0 : decode cX5_awaitedAfter 0 = .ok (.iload_n 0, 1) := by decide +kernel
theorem dX5_awaitedAfter_1 : decode cX5_awaitedAfter 1 = .ok (.lookupswitch 85 #[(0, 27), (1, 54)], 27) := by decide +kernel
theorem dX5_awaitedAfter_28 : decode cX5_awaitedAfter 28 = .ok (.iload_n 1, 1) := by decide +kernel
theorem dX5_awaitedAfter_29 : decode cX5_awaitedAfter 29 = .ok (.invokestatic 27, 3) := by decide +kernel
theorem dX5_awaitedAfter_32 : decode cX5_awaitedAfter 32 = .ok (.ifCond .eq 5, 3) := by decide +kernel
theorem dX5_awaitedAfter_35 : decode cX5_awaitedAfter 35 = .ok (.iconst 1, 1) := by decide +kernel
theorem dX5_awaitedAfter_36 : decode cX5_awaitedAfter 36 = .ok (.ireturn, 1) := by decide +kernel
theorem dX5_awaitedAfter_37 : decode cX5_awaitedAfter 37 = .ok (.iload_n 1, 1) := by decide +kernel
theorem dX5_awaitedAfter_38 : decode cX5_awaitedAfter 38 = .ok (.bipush 126, 2) := by decide +kernel
theorem dX5_awaitedAfter_40 : decode cX5_awaitedAfter 40 = .ok (.if_icmp .eq 9, 3) := by decide +kernel
theorem dX5_awaitedAfter_43 : decode cX5_awaitedAfter 43 = .ok (.iload_n 1, 1) := by decide +kernel
theorem dX5_awaitedAfter_44 : decode cX5_awaitedAfter 44 = .ok (.bipush 46, 2) := by decide +kernel
theorem dX5_awaitedAfter_46 : decode cX5_awaitedAfter 46 = .ok (.if_icmp .ne 7, 3) := by decide +kernel
theorem dX5_awaitedAfter_49 : decode cX5_awaitedAfter 49 = .ok (.iconst 0, 1) := by decide +kernel
theorem dX5_awaitedAfter_50 : decode cX5_awaitedAfter 50 = .ok (.goto 4, 3) := by decide +kernel
theorem dX5_awaitedAfter_53 : decode cX5_awaitedAfter 53 = .ok (.iconst (-1), 1) := by decide +kernel
theorem dX5_awaitedAfter_54 : decode cX5_awaitedAfter 54 = .ok (.ireturn, 1) := by decide +kernel
theorem dX5_awaitedAfter_55 : decode cX5_awaitedAfter 55 = .ok (.iload_n 1, 1) := by decide +kernel
theorem dX5_awaitedAfter_56 : decode cX5_awaitedAfter 56 = .ok (.bipush 43, 2) := by decide +kernel
theorem dX5_awaitedAfter_58 : decode cX5_awaitedAfter 58 = .ok (.if_icmp .ne 5, 3) := by decide +kernel
theorem dX5_awaitedAfter_61 : decode cX5_awaitedAfter 61 = .ok (.iconst 2, 1) := by decide +kernel
theorem dX5_awaitedAfter_62 : decode cX5_awaitedAfter 62 = .ok (.ireturn, 1) := by decide +kernel
theorem dX5_awaitedAfter_63 : decode cX5_awaitedAfter 63 = .ok (.iload_n 1, 1) := by decide +kernel
theorem dX5_awaitedAfter_64 : decode cX5_awaitedAfter 64 = .ok (.bipush 95, 2) := by decide +kernel
theorem dX5_awaitedAfter_66 : decode cX5_awaitedAfter 66 = .ok (.if_icmp .eq 14, 3) := by decide +kernel
theorem dX5_awaitedAfter_69 : decode cX5_awaitedAfter 69 = .ok (.iload_n 1, 1) := by decide +kernel
theorem dX5_awaitedAfter_70 : decode cX5_awaitedAfter 70 = .ok (.bipush 48, 2) := by decide +kernel
theorem dX5_awaitedAfter_72 : decode cX5_awaitedAfter 72 = .ok (.bipush 53, 2) := by decide +kernel
theorem dX5_awaitedAfter_74 : decode cX5_awaitedAfter 74 = .ok (.invokestatic 31, 3) := by decide +kernel
theorem dX5_awaitedAfter_77 : decode cX5_awaitedAfter 77 = .ok (.ifCond .eq 7, 3) := by decide +kernel
theorem dX5_awaitedAfter_80 : decode cX5_awaitedAfter 80 = .ok (.iconst 0, 1) := by decide +kernel
theorem dX5_awaitedAfter_81 : decode cX5_awaitedAfter 81 = .ok (.goto 4, 3) := by decide +kernel
theorem dX5_awaitedAfter_84 : decode cX5_awaitedAfter 84 = .ok (.iconst (-1), 1) := by decide +kernel
theorem dX5_awaitedAfter_85 : decode cX5_awaitedAfter 85 = .ok (.ireturn, 1) := by decide +kernel
theorem dX5_awaitedAfter_86 : decode cX5_awaitedAfter 86 = .ok (.iload_n 1, 1) := by decide +kernel
theorem dX5_awaitedAfter_87 : decode cX5_awaitedAfter 87 = .ok (.invokestatic 27, 3) := by decide +kernel
theorem dX5_awaitedAfter_90 : decode cX5_awaitedAfter 90 = .ok (.ifCond .eq 7, 3) := by decide +kernel
theorem dX5_awaitedAfter_93 : decode cX5_awaitedAfter 93 = .ok (.iconst 0, 1) := by decide +kernel
theorem dX5_awaitedAfter_94 : decode cX5_awaitedAfter 94 = .ok (.goto 4, 3) := by decide +kernel
theorem dX5_awaitedAfter_97 : decode cX5_awaitedAfter 97 = .ok (.iconst (-1), 1) := by decide +kernel
theorem dX5_awaitedAfter_98 : decode cX5_awaitedAfter 98 = .ok (.ireturn, 1) := by decide +kernel
theorem dX5_read_0 : decode cX5_read 0 = .ok (.aload_n 0, 1) := by decide +kernel
theorem dX5_read_1 : decode cX5_read 1 = .ok (.iload_n 1, 1) := by decide +kernel
theorem dX5_read_2 : decode cX5_read 2 = .ok (.invokevirtual 19, 3) := by decide +kernel
theorem dX5_read_5 : decode cX5_read 5 = .ok (.istore_n 3, 1) := by decide +kernel
theorem dX5_read_6 : decode cX5_read 6 = .ok (.iload_n 3, 1) := by decide +kernel
theorem dX5_read_7 : decode cX5_read 7 = .ok (.invokestatic 27, 3) := by decide +kernel
theorem dX5_read_10 : decode cX5_read 10 = .ok (.ifCond .ne 22, 3) := by decide +kernel
theorem dX5_read_13 : decode cX5_read 13 = .ok (.aload_n 2, 1) := by decide +kernel
theorem dX5_read_14 : decode cX5_read 14 = .ok (.iload_n 3, 1) := by decide +kernel
theorem dX5_read_15 : decode cX5_read 15 = .ok (.bipush 126, 2) := by decide +kernel
theorem dX5_read_17 : decode cX5_read 17 = .ok (.if_icmp .ne 7, 3) := by decide +kernel
theorem dX5_read_20 : decode cX5_read 20 = .ok (.iconst 3, 1) := by decide +kernel
theorem dX5_read_21 : decode cX5_read 21 = .ok (.goto 4, 3) := by decide +kernel
theorem dX5_read_24 : decode cX5_read 24 = .ok (.iconst 4, 1) := by decide +kernel
theorem dX5_read_25 : decode cX5_read 25 = .ok (.iconst 0, 1) := by decide +kernel
theorem dX5_read_26 : decode cX5_read 26 = .ok (.iconst 0, 1) := by decide +kernel
theorem dX5_read_27 : decode cX5_read 27 = .ok (.invokevirtual 37, 3) := by decide +kernel
theorem dX5_read_30 : decode cX5_read 30 = .ok (.iconst 1, 1) := by decide +kernel
theorem dX5_read_31 : decode cX5_read 31 = .ok (.ireturn, 1) := by decide +kernel
theorem dX5_read_32 : decode cX5_read 32 = .ok (.aload_n 0, 1) := by decide +kernel
theorem dX5_read_33 : decode cX5_read 33 = .ok (.iload_n 1, 1) := by decide +kernel
theorem dX5_read_34 : decode cX5_read 34 = .ok (.iconst 1, 1) := by decide +kernel
theorem dX5_read_35 : decode cX5_read 35 = .ok (.iadd, 1) := by decide +kernel
theorem dX5_read_36 : decode cX5_read 36 = .ok (.invokevirtual 19, 3) := by decide +kernel
theorem dX5_read_39 : decode cX5_read 39 = .ok (.istore 4, 2) := by decide +kernel
theorem dX5_read_41 : decode cX5_read 41 = .ok (.iload 4, 2) := by decide +kernel
theorem dX5_read_43 : decode cX5_read 43 = .ok (.bipush 43, 2) := by decide +kernel
theorem dX5_read_45 : decode cX5_read 45 = .ok (.if_icmp .ne 24, 3) := by decide +kernel
theorem dX5_read_48 : decode cX5_read 48 = .ok (.aload_n 2, 1) := by decide +kernel
theorem dX5_read_49 : decode cX5_read 49 = .ok (.iconst 1, 1) := by decide +kernel
theorem dX5_read_50 : decode cX5_read 50 = .ok (.iload_n 3, 1) := by decide +kernel
theorem dX5_read_51 : decode cX5_read 51 = .ok (.bipush 65, 2) := by decide +kernel
theorem dX5_read_53 : decode cX5_read 53 = .ok (.isub, 1) := by decide +kernel
theorem dX5_read_54 : decode cX5_read 54 = .ok (.aload_n 0, 1) := by decide +kernel
theorem dX5_read_55 : decode cX5_read 55 = .ok (.iload_n 1, 1) := by decide +kernel
theorem dX5_read_56 : decode cX5_read 56 = .ok (.iconst 2, 1) := by decide +kernel
theorem dX5_read_57 : decode cX5_read 57 = .ok (.iadd, 1) := by decide +kernel
theorem dX5_read_58 : decode cX5_read 58 = .ok (.invokevirtual 19, 3) := by decide +kernel
theorem dX5_read_61 : decode cX5_read 61 = .ok (.bipush 65, 2) := by decide +kernel
theorem dX5_read_63 : decode cX5_read 63 = .ok (.isub, 1) := by decide +kernel
theorem dX5_read_64 : decode cX5_read 64 = .ok (.invokevirtual 37, 3) := by decide +kernel
theorem dX5_read_67 : decode cX5_read 67 = .ok (.iconst 3, 1) := by decide +kernel
theorem dX5_read_68 : decode cX5_read 68 = .ok (.ireturn, 1) := by decide +kernel
theorem dX5_read_69 : decode cX5_read 69 = .ok (.aload_n 2, 1) := by decide +kernel
theorem dX5_read_70 : decode cX5_read 70 = .ok (.iload 4, 2) := by decide +kernel
theorem dX5_read_72 : decode cX5_read 72 = .ok (.bipush 95, 2) := by decide +kernel
theorem dX5_read_74 : decode cX5_read 74 = .ok (.if_icmp .ne 7, 3) := by decide +kernel
theorem dX5_read_77 : decode cX5_read 77 = .ok (.iconst 2, 1) := by decide +kernel
theorem dX5_read_78 : decode cX5_read 78 = .ok (.goto 4, 3) := by decide +kernel
theorem dX5_read_81 : decode cX5_read 81 = .ok (.iconst 0, 1) := by decide +kernel
theorem dX5_read_82 : decode cX5_read 82 = .ok (.iload_n 3, 1) := by decide +kernel
theorem dX5_read_83 : decode cX5_read 83 = .ok (.bipush 65, 2) := by decide +kernel
theorem dX5_read_85 : decode cX5_read 85 = .ok (.isub, 1) := by decide +kernel
theorem dX5_read_86 : decode cX5_read 86 = .ok (.iload 4, 2) := by decide +kernel
theorem dX5_read_88 : decode cX5_read 88 = .ok (.bipush 48, 2) := by decide +kernel
theorem dX5_read_90 : decode cX5_read 90 = .ok (.isub, 1) := by decide +kernel
theorem dX5_read_91 : decode cX5_read 91 = .ok (.invokevirtual 37, 3) := by decide +kernel
theorem dX5_read_94 : decode cX5_read 94 = .ok (.iconst 2, 1) := by decide +kernel
theorem dX5_read_95 : decode cX5_read 95 = .ok (.ireturn, 1) := by decide +kernel
theorem dX5_signAt_0 : decode cX5_signAt 0 = .ok (.iload_n 1, 1) := by decide +kernel
theorem dX5_signAt_1 : decode cX5_signAt 1 = .ok (.aload_n 0, 1) := by decide +kernel
theorem dX5_signAt_2 : decode cX5_signAt 2 = .ok (.getfield 15, 3) := by decide +kernel
theorem dX5_signAt_5 : decode cX5_signAt 5 = .ok (.if_icmp .ge 22, 3) := by decide +kernel
theorem dX5_signAt_8 : decode cX5_signAt 8 = .ok (.iload_n 1, 1) := by decide +kernel
theorem dX5_signAt_9 : decode cX5_signAt 9 = .ok (.iconst 0, 1) := by decide +kernel
theorem dX5_signAt_10 : decode cX5_signAt 10 = .ok (.bipush 59, 2) := by decide +kernel
theorem dX5_signAt_12 : decode cX5_signAt 12 = .ok (.invokestatic 31, 3) := by decide +kernel
theorem dX5_signAt_15 : decode cX5_signAt 15 = .ok (.ifCond .eq 12, 3) := by decide +kernel
theorem dX5_signAt_18 : decode cX5_signAt 18 = .ok (.aload_n 0, 1) := by decide +kernel
theorem dX5_signAt_19 : decode cX5_signAt 19 = .ok (.getfield 9, 3) := by decide +kernel
theorem dX5_signAt_22 : decode cX5_signAt 22 = .ok (.iload_n 1, 1) := by decide +kernel
theorem dX5_signAt_23 : decode cX5_signAt 23 = .ok (.iaload, 1) := by decide +kernel
theorem dX5_signAt_24 : decode cX5_signAt 24 = .ok (.goto 4, 3) := by decide +kernel
theorem dX5_signAt_27 : decode cX5_signAt 27 = .ok (.iconst 0, 1) := by decide +kernel
theorem dX5_signAt_28 : decode cX5_signAt 28 = .ok (.ireturn, 1) := by decide +kernel
theorem dX5_isLetter_0 : decode cX5_isLetter 0 = .ok (.iload_n 0, 1) := by decide +kernel
theorem dX5_isLetter_1 : decode cX5_isLetter 1 = .ok (.bipush 65, 2) := by decide +kernel
theorem dX5_isLetter_3 : decode cX5_isLetter 3 = .ok (.bipush 70, 2) := by decide +kernel
theorem dX5_isLetter_5 : decode cX5_isLetter 5 = .ok (.invokestatic 31, 3) := by decide +kernel
theorem dX5_isLetter_8 : decode cX5_isLetter 8 = .ok (.ireturn, 1) := by decide +kernel
theorem dX6_init_0 : decode cX6_init 0 = .ok (.aload_n 0, 1) := by decide +kernel
theorem dX6_init_1 : decode cX6_init 1 = .ok (.invokespecial 3, 3) := by decide +kernel
theorem dX6_init_4 : decode cX6_init 4 = .ok (.aload_n 0, 1) := by decide +kernel
theorem dX6_init_5 : decode cX6_init 5 = .ok (.bipush 100, 2) := by decide +kernel
theorem dX6_init_7 : decode cX6_init 7 = .ok (.newarray .int, 2) := by decide +kernel
theorem dX6_init_9 : decode cX6_init 9 = .ok (.putfield 9, 3) := by decide +kernel
theorem dX6_init_12 : decode cX6_init 12 = .ok (.return_, 1) := by decide +kernel
theorem dX6_priceOf_0 : decode cX6_priceOf 0 = .ok (.aload_n 1, 1) := by decide +kernel
theorem dX6_priceOf_1 : decode cX6_priceOf 1 = .ok (.iload_n 2, 1) := by decide +kernel
theorem dX6_priceOf_2 : decode cX6_priceOf 2 = .ok (.invokevirtual 15, 3) := by decide +kernel
theorem dX6_priceOf_5 : decode cX6_priceOf 5 = .ok (.istore_n 3, 1) := by decide +kernel
theorem dX6_priceOf_6 : decode cX6_priceOf 6 = .ok (.aload_n 1, 1) := by decide +kernel
theorem dX6_priceOf_7 : decode cX6_priceOf 7 = .ok (.getfield 21, 3) := by decide +kernel
theorem dX6_priceOf_10 : decode cX6_priceOf 10 = .ok (.iload_n 2, 1) := by decide +kernel
theorem dX6_priceOf_11 : decode cX6_priceOf 11 = .ok (.iaload, 1) := by decide +kernel
theorem dX6_priceOf_12 : decode cX6_priceOf 12 = .ok (.istore 4, 2) := by decide +kernel
theorem dX6_priceOf_14 : decode cX6_priceOf 14 = .ok (.iload_n 3, 1) := by decide +kernel
theorem dX6_priceOf_15 : decode cX6_priceOf 15 = .ok (.ifCond .eq 14, 3) := by decide +kernel
theorem dX6_priceOf_18 : decode cX6_priceOf 18 = .ok (.iload 4, 2) := by decide +kernel
theorem dX6_priceOf_20 : decode cX6_priceOf 20 = .ok (.iconst 0, 1) := by decide +kernel
theorem dX6_priceOf_21 : decode cX6_priceOf 21 = .ok (.bipush 99, 2) := by decide +kernel
theorem dX6_priceOf_23 : decode cX6_priceOf 23 = .ok (.invokestatic 24, 3) := by decide +kernel
theorem dX6_priceOf_26 : decode cX6_priceOf 26 = .ok (.ifCond .ne 6, 3) := by decide +kernel
theorem dX6_priceOf_29 : decode cX6_priceOf 29 = .ok (.bipush (-6), 2) := by decide +kernel
theorem dX6_priceOf_31 : decode cX6_priceOf 31 = .ok (.ireturn, 1) := by decide +kernel
theorem dX6_priceOf_32 : decode cX6_priceOf 32 = .ok (.aload_n 0, 1) := by decide +kernel
theorem dX6_priceOf_33 : decode cX6_priceOf 33 = .ok (.getfield 9, 3) := by decide +kernel
theorem dX6_priceOf_36 : decode cX6_priceOf 36 = .ok (.iconst 0, 1) := by decide +kernel
theorem dX6_priceOf_37 : decode cX6_priceOf 37 = .ok (.iconst 0, 1) := by decide +kernel
theorem dX6_priceOf_38 : decode cX6_priceOf 38 = .ok (.iastore, 1) := by decide +kernel
theorem dX6_priceOf_39 : decode cX6_priceOf 39 = .ok (.iconst 1, 1) := by decide +kernel
theorem dX6_priceOf_40 : decode cX6_priceOf 40 = .ok (.istore 5, 2) := by decide +kernel
theorem dX6_priceOf_42 : decode cX6_priceOf 42 = .ok (.iload 5, 2) := by decide +kernel
theorem dX6_priceOf_44 : decode cX6_priceOf 44 = .ok (.iload 4, 2) := by decide +kernel
theorem dX6_priceOf_46 : decode cX6_priceOf 46 = .ok (.if_icmp .gt 24, 3) := by decide +kernel
theorem dX6_priceOf_49 : decode cX6_priceOf 49 = .ok (.aload_n 0, 1) := by decide +kernel
theorem dX6_priceOf_50 : decode cX6_priceOf 50 = .ok (.getfield 9, 3) := by decide +kernel
theorem dX6_priceOf_53 : decode cX6_priceOf 53 = .ok (.iload 5, 2) := by decide +kernel
theorem dX6_priceOf_55 : decode cX6_priceOf 55 = .ok (.aload_n 0, 1) := by decide +kernel
theorem dX6_priceOf_56 : decode cX6_priceOf 56 = .ok (.aload_n 1, 1) := by decide +kernel
theorem dX6_priceOf_57 : decode cX6_priceOf 57 = .ok (.iload_n 3, 1) := by decide +kernel
theorem dX6_priceOf_58 : decode cX6_priceOf 58 = .ok (.iload 5, 2) := by decide +kernel
theorem dX6_priceOf_60 : decode cX6_priceOf 60 = .ok (.invokevirtual 28, 3) := by decide +kernel
theorem dX6_priceOf_63 : decode cX6_priceOf 63 = .ok (.iastore, 1) := by decide +kernel
theorem dX6_priceOf_64 : decode cX6_priceOf 64 = .ok (.iinc 5 1, 3) := by decide +kernel
theorem dX6_priceOf_67 : decode cX6_priceOf 67 = .ok (.goto (-25), 3) := by decide +kernel
theorem dX6_priceOf_70 : decode cX6_priceOf 70 = .ok (.aload_n 0, 1) := by decide +kernel
theorem dX6_priceOf_71 : decode cX6_priceOf 71 = .ok (.getfield 9, 3) := by decide +kernel
theorem dX6_priceOf_74 : decode cX6_priceOf 74 = .ok (.iload 4, 2) := by decide +kernel
theorem dX6_priceOf_76 : decode cX6_priceOf 76 = .ok (.iaload, 1) := by decide +kernel
theorem dX6_priceOf_77 : decode cX6_priceOf 77 = .ok (.ireturn, 1) := by decide +kernel
theorem dX6_cheapest_0 : decode cX6_cheapest 0 = .ok (.ldc 32, 2) := by decide +kernel
theorem dX6_cheapest_2 : decode cX6_cheapest 2 = .ok (.istore 4, 2) := by decide +kernel
theorem dX6_cheapest_4 : decode cX6_cheapest 4 = .ok (.iconst 0, 1) := by decide +kernel
theorem dX6_cheapest_5 : decode cX6_cheapest 5 = .ok (.istore 5, 2) := by decide +kernel
theorem dX6_cheapest_7 : decode cX6_cheapest 7 = .ok (.iload 5, 2) := by decide +kernel
theorem dX6_cheapest_9 : decode cX6_cheapest 9 = .ok (.bipush 6, 2) := by decide +kernel
theorem dX6_cheapest_11 : decode cX6_cheapest 11 = .ok (.if_icmp .ge 61, 3) := by decide +kernel
theorem dX6_cheapest_14 : decode cX6_cheapest 14 = .ok (.iload_n 2, 1) := by decide +kernel
theorem dX6_cheapest_15 : decode cX6_cheapest 15 = .ok (.iload 5, 2) := by decide +kernel
theorem dX6_cheapest_17 : decode cX6_cheapest 17 = .ok (.invokestatic 33, 3) := by decide +kernel
theorem dX6_cheapest_20 : decode cX6_cheapest 20 = .ok (.ifCond .eq 46, 3) := by decide +kernel
theorem dX6_cheapest_23 : decode cX6_cheapest 23 = .ok (.iload_n 3, 1) := by decide +kernel
theorem dX6_cheapest_24 : decode cX6_cheapest 24 = .ok (.aload_n 1, 1) := by decide +kernel
theorem dX6_cheapest_25 : decode cX6_cheapest 25 = .ok (.getfield 37, 3) := by decide +kernel
theorem dX6_cheapest_28 : decode cX6_cheapest 28 = .ok (.iload 5, 2) := by decide +kernel
theorem dX6_cheapest_30 : decode cX6_cheapest 30 = .ok (.iaload, 1) := by decide +kernel
theorem dX6_cheapest_31 : decode cX6_cheapest 31 = .ok (.isub, 1) := by decide +kernel
theorem dX6_cheapest_32 : decode cX6_cheapest 32 = .ok (.iconst 0, 1) := by decide +kernel
theorem dX6_cheapest_33 : decode cX6_cheapest 33 = .ok (.invokestatic 40, 3) := by decide +kernel
theorem dX6_cheapest_36 : decode cX6_cheapest 36 = .ok (.istore 6, 2) := by decide +kernel
theorem dX6_cheapest_38 : decode cX6_cheapest 38 = .ok (.iload 4, 2) := by decide +kernel
theorem dX6_cheapest_40 : decode cX6_cheapest 40 = .ok (.aload_n 0, 1) := by decide +kernel
theorem dX6_cheapest_41 : decode cX6_cheapest 41 = .ok (.getfield 9, 3) := by decide +kernel
theorem dX6_cheapest_44 : decode cX6_cheapest 44 = .ok (.iload 6, 2) := by decide +kernel
theorem dX6_cheapest_46 : decode cX6_cheapest 46 = .ok (.iaload, 1) := by decide +kernel
theorem dX6_cheapest_47 : decode cX6_cheapest 47 = .ok (.sipush 1000, 3) := by decide +kernel
theorem dX6_cheapest_50 : decode cX6_cheapest 50 = .ok (.aload_n 1, 1) := by decide +kernel
theorem dX6_cheapest_51 : decode cX6_cheapest 51 = .ok (.getfield 46, 3) := by decide +kernel
theorem dX6_cheapest_54 : decode cX6_cheapest 54 = .ok (.iload 5, 2) := by decide +kernel
theorem dX6_cheapest_56 : decode cX6_cheapest 56 = .ok (.iaload, 1) := by decide +kernel
theorem dX6_cheapest_57 : decode cX6_cheapest 57 = .ok (.imul, 1) := by decide +kernel
theorem dX6_cheapest_58 : decode cX6_cheapest 58 = .ok (.iadd, 1) := by decide +kernel
theorem dX6_cheapest_59 : decode cX6_cheapest 59 = .ok (.iconst 1, 1) := by decide +kernel
theorem dX6_cheapest_60 : decode cX6_cheapest 60 = .ok (.iadd, 1) := by decide +kernel
theorem dX6_cheapest_61 : decode cX6_cheapest 61 = .ok (.invokestatic 49, 3) := by decide +kernel
theorem dX6_cheapest_64 : decode cX6_cheapest 64 = .ok (.istore 4, 2) := by decide +kernel
theorem dX6_cheapest_66 : decode cX6_cheapest 66 = .ok (.iinc 5 1, 3) := by decide +kernel
theorem dX6_cheapest_69 : decode cX6_cheapest 69 = .ok (.goto (-62), 3) := by decide +kernel
theorem dX6_cheapest_72 : decode cX6_cheapest 72 = .ok (.iload 4, 2) := by decide +kernel
theorem dX6_cheapest_74 : decode cX6_cheapest 74 = .ok (.ireturn, 1) := by decide +kernel
theorem dX7_init_0 : decode cX7_init 0 = .ok (.aload_n 0, 1) := by decide +kernel
theorem dX7_init_1 : decode cX7_init 1 = .ok (.invokespecial 3, 3) := by decide +kernel
theorem dX7_init_4 : decode cX7_init 4 = .ok (.aload_n 0, 1) := by decide +kernel
theorem dX7_init_5 : decode cX7_init 5 = .ok (.sipush 256, 3) := by decide +kernel
theorem dX7_init_8 : decode cX7_init 8 = .ok (.newarray .int, 2) := by decide +kernel
theorem dX7_init_10 : decode cX7_init 10 = .ok (.putfield 9, 3) := by decide +kernel
theorem dX7_init_13 : decode cX7_init 13 = .ok (.aload_n 0, 1) := by decide +kernel
theorem dX7_init_14 : decode cX7_init 14 = .ok (.iconst 0, 1) := by decide +kernel
theorem dX7_init_15 : decode cX7_init 15 = .ok (.putfield 15, 3) := by decide +kernel
theorem dX7_init_18 : decode cX7_init 18 = .ok (.return_, 1) := by decide +kernel
theorem dX7_find_0 : decode cX7_find 0 = .ok (.aload_n 0, 1) := by decide +kernel
theorem dX7_find_1 : decode cX7_find 1 = .ok (.iconst 0, 1) := by decide +kernel
theorem dX7_find_2 : decode cX7_find 2 = .ok (.putfield 15, 3) := by decide +kernel
theorem dX7_find_5 : decode cX7_find 5 = .ok (.iconst 0, 1) := by decide +kernel
theorem dX7_find_6 : decode cX7_find 6 = .ok (.istore_n 2, 1) := by decide +kernel
theorem dX7_find_7 : decode cX7_find 7 = .ok (.iload_n 2, 1) := by decide +kernel
theorem dX7_find_8 : decode cX7_find 8 = .ok (.sipush 256, 3) := by decide +kernel
theorem dX7_find_11 : decode cX7_find 11 = .ok (.if_icmp .ge 37, 3) := by decide +kernel
theorem dX7_find_14 : decode cX7_find 14 = .ok (.aload_n 1, 1) := by decide +kernel
theorem dX7_find_15 : decode cX7_find 15 = .ok (.iload_n 2, 1) := by decide +kernel
theorem dX7_find_16 : decode cX7_find 16 = .ok (.invokevirtual 19, 3) := by decide +kernel
theorem dX7_find_19 : decode cX7_find 19 = .ok (.ifCond .eq 23, 3) := by decide +kernel
theorem dX7_find_22 : decode cX7_find 22 = .ok (.aload_n 0, 1) := by decide +kernel
theorem dX7_find_23 : decode cX7_find 23 = .ok (.getfield 9, 3) := by decide +kernel
theorem dX7_find_26 : decode cX7_find 26 = .ok (.aload_n 0, 1) := by decide +kernel
theorem dX7_find_27 : decode cX7_find 27 = .ok (.getfield 15, 3) := by decide +kernel
theorem dX7_find_30 : decode cX7_find 30 = .ok (.iload_n 2, 1) := by decide +kernel
theorem dX7_find_31 : decode cX7_find 31 = .ok (.iastore, 1) := by decide +kernel
theorem dX7_find_32 : decode cX7_find 32 = .ok (.aload_n 0, 1) := by decide +kernel
theorem dX7_find_33 : decode cX7_find 33 = .ok (.dup, 1) := by decide +kernel
theorem dX7_find_34 : decode cX7_find 34 = .ok (.getfield 15, 3) := by decide +kernel
theorem dX7_find_37 : decode cX7_find 37 = .ok (.iconst 1, 1) := by decide +kernel
theorem dX7_find_38 : decode cX7_find 38 = .ok (.iadd, 1) := by decide +kernel
theorem dX7_find_39 : decode cX7_find 39 = .ok (.putfield 15, 3) := by decide +kernel
theorem dX7_find_42 : decode cX7_find 42 = .ok (.iinc 2 1, 3) := by decide +kernel
theorem dX7_find_45 : decode cX7_find 45 = .ok (.goto (-38), 3) := by decide +kernel
theorem dX7_find_48 : decode cX7_find 48 = .ok (.return_, 1) := by decide +kernel
theorem dX7_shapeAt_0 : decode cX7_shapeAt 0 = .ok (.iload_n 1, 1) := by decide +kernel
theorem dX7_shapeAt_1 : decode cX7_shapeAt 1 = .ok (.iconst 0, 1) := by decide +kernel
theorem dX7_shapeAt_2 : decode cX7_shapeAt 2 = .ok (.aload_n 0, 1) := by decide +kernel
theorem dX7_shapeAt_3 : decode cX7_shapeAt 3 = .ok (.getfield 15, 3) := by decide +kernel
theorem dX7_shapeAt_6 : decode cX7_shapeAt 6 = .ok (.iconst 1, 1) := by decide +kernel
theorem dX7_shapeAt_7 : decode cX7_shapeAt 7 = .ok (.isub, 1) := by decide +kernel
theorem dX7_shapeAt_8 : decode cX7_shapeAt 8 = .ok (.invokestatic 25, 3) := by decide +kernel
theorem dX7_shapeAt_11 : decode cX7_shapeAt 11 = .ok (.ifCond .eq 12, 3) := by decide +kernel
theorem dX7_shapeAt_14 : decode cX7_shapeAt 14 = .ok (.aload_n 0, 1) := by decide +kernel
theorem dX7_shapeAt_15 : decode cX7_shapeAt 15 = .ok (.getfield 9, 3) := by decide +kernel
theorem dX7_shapeAt_18 : decode cX7_shapeAt 18 = .ok (.iload_n 1, 1) := by decide +kernel
theorem dX7_shapeAt_19 : decode cX7_shapeAt 19 = .ok (.iaload, 1) := by decide +kernel
theorem dX7_shapeAt_20 : decode cX7_shapeAt 20 = .ok (.goto 5, 3) := by decide +kernel
theorem dX7_shapeAt_23 : decode cX7_shapeAt 23 = .ok (.bipush (-6), 2) := by decide +kernel
theorem dX7_shapeAt_25 : decode cX7_shapeAt 25 = .ok (.ireturn, 1) := by decide +kernel
theorem dX7_holdToTry_0 : decode cX7_holdToTry 0 = .ok (.aload_n 0, 1) := by decide +kernel
theorem dX7_holdToTry_1 : decode cX7_holdToTry 1 = .ok (.getfield 15, 3) := by decide +kernel
theorem dX7_holdToTry_4 : decode cX7_holdToTry 4 = .ok (.ifCond .ne 6, 3) := by decide +kernel
theorem dX7_holdToTry_7 : decode cX7_holdToTry 7 = .ok (.bipush (-6), 2) := by decide +kernel
theorem dX7_holdToTry_9 : decode cX7_holdToTry 9 = .ok (.ireturn, 1) := by decide +kernel
theorem dX7_holdToTry_10 : decode cX7_holdToTry 10 = .ok (.iconst 0, 1) := by decide +kernel
theorem dX7_holdToTry_11 : decode cX7_holdToTry 11 = .ok (.istore_n 2, 1) := by decide +kernel
theorem dX7_holdToTry_12 : decode cX7_holdToTry 12 = .ok (.iconst 1, 1) := by decide +kernel
theorem dX7_holdToTry_13 : decode cX7_holdToTry 13 = .ok (.istore_n 3, 1) := by decide +kernel
theorem dX7_holdToTry_14 : decode cX7_holdToTry 14 = .ok (.iload_n 3, 1) := by decide +kernel
theorem dX7_holdToTry_15 : decode cX7_holdToTry 15 = .ok (.bipush 6, 2) := by decide +kernel
theorem dX7_holdToTry_17 : decode cX7_holdToTry 17 = .ok (.if_icmp .ge 34, 3) := by decide +kernel
theorem dX7_holdToTry_20 : decode cX7_holdToTry 20 = .ok (.aload_n 0, 1) := by decide +kernel
theorem dX7_holdToTry_21 : decode cX7_holdToTry 21 = .ok (.aload_n 1, 1) := by decide +kernel
theorem dX7_holdToTry_22 : decode cX7_holdToTry 22 = .ok (.getfield 29, 3) := by decide +kernel
theorem dX7_holdToTry_25 : decode cX7_holdToTry 25 = .ok (.iload_n 3, 1) := by decide +kernel
theorem dX7_holdToTry_26 : decode cX7_holdToTry 26 = .ok (.iaload, 1) := by decide +kernel
theorem dX7_holdToTry_27 : decode cX7_holdToTry 27 = .ok (.invokevirtual 32, 3) := by decide +kernel
theorem dX7_holdToTry_30 : decode cX7_holdToTry 30 = .ok (.aload_n 0, 1) := by decide +kernel
theorem dX7_holdToTry_31 : decode cX7_holdToTry 31 = .ok (.aload_n 1, 1) := by decide +kernel
theorem dX7_holdToTry_32 : decode cX7_holdToTry 32 = .ok (.getfield 29, 3) := by decide +kernel
theorem dX7_holdToTry_35 : decode cX7_holdToTry 35 = .ok (.iload_n 2, 1) := by decide +kernel
theorem dX7_holdToTry_36 : decode cX7_holdToTry 36 = .ok (.iaload, 1) := by decide +kernel
theorem dX7_holdToTry_37 : decode cX7_holdToTry 37 = .ok (.invokevirtual 32, 3) := by decide +kernel
theorem dX7_holdToTry_40 : decode cX7_holdToTry 40 = .ok (.if_icmp .ge 5, 3) := by decide +kernel
theorem dX7_holdToTry_43 : decode cX7_holdToTry 43 = .ok (.iload_n 3, 1) := by decide +kernel
theorem dX7_holdToTry_44 : decode cX7_holdToTry 44 = .ok (.istore_n 2, 1) := by decide +kernel
theorem dX7_holdToTry_45 : decode cX7_holdToTry 45 = .ok (.iinc 3 1, 3) := by decide +kernel
theorem dX7_holdToTry_48 : decode cX7_holdToTry 48 = .ok (.goto (-34), 3) := by decide +kernel
theorem dX7_holdToTry_51 : decode cX7_holdToTry 51 = .ok (.iload_n 2, 1) := by decide +kernel
theorem dX7_holdToTry_52 : decode cX7_holdToTry 52 = .ok (.ireturn, 1) := by decide +kernel
theorem dX7_mostLeftBy_0 : decode cX7_mostLeftBy 0 = .ok (.iconst 0, 1) := by decide +kernel
theorem dX7_mostLeftBy_1 : decode cX7_mostLeftBy 1 = .ok (.istore_n 2, 1) := by decide +kernel
theorem dX7_mostLeftBy_2 : decode cX7_mostLeftBy 2 = .ok (.iconst 0, 1) := by decide +kernel
theorem dX7_mostLeftBy_3 : decode cX7_mostLeftBy 3 = .ok (.istore_n 3, 1) := by decide +kernel
theorem dX7_mostLeftBy_4 : decode cX7_mostLeftBy 4 = .ok (.iload_n 3, 1) := by decide +kernel
theorem dX7_mostLeftBy_5 : decode cX7_mostLeftBy 5 = .ok (.aload_n 0, 1) := by decide +kernel
theorem dX7_mostLeftBy_6 : decode cX7_mostLeftBy 6 = .ok (.getfield 15, 3) := by decide +kernel
theorem dX7_mostLeftBy_9 : decode cX7_mostLeftBy 9 = .ok (.if_icmp .ge 25, 3) := by decide +kernel
theorem dX7_mostLeftBy_12 : decode cX7_mostLeftBy 12 = .ok (.iload_n 1, 1) := by decide +kernel
theorem dX7_mostLeftBy_13 : decode cX7_mostLeftBy 13 = .ok (.aload_n 0, 1) := by decide +kernel
theorem dX7_mostLeftBy_14 : decode cX7_mostLeftBy 14 = .ok (.getfield 9, 3) := by decide +kernel
theorem dX7_mostLeftBy_17 : decode cX7_mostLeftBy 17 = .ok (.iload_n 3, 1) := by decide +kernel
theorem dX7_mostLeftBy_18 : decode cX7_mostLeftBy 18 = .ok (.iaload, 1) := by decide +kernel
theorem dX7_mostLeftBy_19 : decode cX7_mostLeftBy 19 = .ok (.invokestatic 36, 3) := by decide +kernel
theorem dX7_mostLeftBy_22 : decode cX7_mostLeftBy 22 = .ok (.ifCond .eq 6, 3) := by decide +kernel
theorem dX7_mostLeftBy_25 : decode cX7_mostLeftBy 25 = .ok (.iinc 2 1, 3) := by decide +kernel
theorem dX7_mostLeftBy_28 : decode cX7_mostLeftBy 28 = .ok (.iinc 3 1, 3) := by decide +kernel
theorem dX7_mostLeftBy_31 : decode cX7_mostLeftBy 31 = .ok (.goto (-27), 3) := by decide +kernel
theorem dX7_mostLeftBy_34 : decode cX7_mostLeftBy 34 = .ok (.iload_n 2, 1) := by decide +kernel
theorem dX7_mostLeftBy_35 : decode cX7_mostLeftBy 35 = .ok (.aload_n 0, 1) := by decide +kernel
theorem dX7_mostLeftBy_36 : decode cX7_mostLeftBy 36 = .ok (.getfield 15, 3) := by decide +kernel
theorem dX7_mostLeftBy_39 : decode cX7_mostLeftBy 39 = .ok (.iload_n 2, 1) := by decide +kernel
theorem dX7_mostLeftBy_40 : decode cX7_mostLeftBy 40 = .ok (.isub, 1) := by decide +kernel
theorem dX7_mostLeftBy_41 : decode cX7_mostLeftBy 41 = .ok (.invokestatic 40, 3) := by decide +kernel
