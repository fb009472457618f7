theorem dX7_mostLeftBy_44 : decode cX7_mostLeftBy 44 = .ok (.ireturn, 1) := by decide +kernel
theorem dX8_init_0 : decode cX8_init 0 = .ok (.aload_n 0, 1) := by decide +kernel
theorem dX8_init_1 : decode cX8_init 1 = .ok (.invokespecial 1, 3) := by decide +kernel
theorem dX8_init_4 : decode cX8_init 4 = .ok (.aload_n 0, 1) := by decide +kernel
theorem dX8_init_5 : decode cX8_init 5 = .ok (.new 7, 3) := by decide +kernel
theorem dX8_init_8 : decode cX8_init 8 = .ok (.dup, 1) := by decide +kernel
theorem dX8_init_9 : decode cX8_init 9 = .ok (.invokespecial 9, 3) := by decide +kernel
theorem dX8_init_12 : decode cX8_init 12 = .ok (.putfield 10, 3) := by decide +kernel
theorem dX8_init_15 : decode cX8_init 15 = .ok (.aload_n 0, 1) := by decide +kernel
theorem dX8_init_16 : decode cX8_init 16 = .ok (.new 16, 3) := by decide +kernel
theorem dX8_init_19 : decode cX8_init 19 = .ok (.dup, 1) := by decide +kernel
theorem dX8_init_20 : decode cX8_init 20 = .ok (.invokespecial 18, 3) := by decide +kernel
theorem dX8_init_23 : decode cX8_init 23 = .ok (.putfield 19, 3) := by decide +kernel
theorem dX8_init_26 : decode cX8_init 26 = .ok (.aload_n 0, 1) := by decide +kernel
theorem dX8_init_27 : decode cX8_init 27 = .ok (.new 23, 3) := by decide +kernel
theorem dX8_init_30 : decode cX8_init 30 = .ok (.dup, 1) := by decide +kernel
theorem dX8_init_31 : decode cX8_init 31 = .ok (.invokespecial 25, 3) := by decide +kernel
theorem dX8_init_34 : decode cX8_init 34 = .ok (.putfield 26, 3) := by decide +kernel
theorem dX8_init_37 : decode cX8_init 37 = .ok (.aload_n 0, 1) := by decide +kernel
theorem dX8_init_38 : decode cX8_init 38 = .ok (.new 30, 3) := by decide +kernel
theorem dX8_init_41 : decode cX8_init 41 = .ok (.dup, 1) := by decide +kernel
theorem dX8_init_42 : decode cX8_init 42 = .ok (.invokespecial 32, 3) := by decide +kernel
theorem dX8_init_45 : decode cX8_init 45 = .ok (.putfield 33, 3) := by decide +kernel
theorem dX8_init_48 : decode cX8_init 48 = .ok (.aload_n 0, 1) := by decide +kernel
theorem dX8_init_49 : decode cX8_init 49 = .ok (.new 37, 3) := by decide +kernel
theorem dX8_init_52 : decode cX8_init 52 = .ok (.dup, 1) := by decide +kernel
theorem dX8_init_53 : decode cX8_init 53 = .ok (.invokespecial 39, 3) := by decide +kernel
theorem dX8_init_56 : decode cX8_init 56 = .ok (.putfield 40, 3) := by decide +kernel
theorem dX8_init_59 : decode cX8_init 59 = .ok (.aload_n 0, 1) := by decide +kernel
theorem dX8_init_60 : decode cX8_init 60 = .ok (.new 44, 3) := by decide +kernel
theorem dX8_init_63 : decode cX8_init 63 = .ok (.dup, 1) := by decide +kernel
theorem dX8_init_64 : decode cX8_init 64 = .ok (.invokespecial 46, 3) := by decide +kernel
theorem dX8_init_67 : decode cX8_init 67 = .ok (.putfield 47, 3) := by decide +kernel
theorem dX8_init_70 : decode cX8_init 70 = .ok (.aload_n 0, 1) := by decide +kernel
theorem dX8_init_71 : decode cX8_init 71 = .ok (.new 51, 3) := by decide +kernel
theorem dX8_init_74 : decode cX8_init 74 = .ok (.dup, 1) := by decide +kernel
theorem dX8_init_75 : decode cX8_init 75 = .ok (.invokespecial 53, 3) := by decide +kernel
theorem dX8_init_78 : decode cX8_init 78 = .ok (.putfield 54, 3) := by decide +kernel
theorem dX8_init_81 : decode cX8_init 81 = .ok (.aload_n 0, 1) := by decide +kernel
theorem dX8_init_82 : decode cX8_init 82 = .ok (.iconst 2, 1) := by decide +kernel
theorem dX8_init_83 : decode cX8_init 83 = .ok (.anewarray 7, 3) := by decide +kernel
theorem dX8_init_86 : decode cX8_init 86 = .ok (.putfield 58, 3) := by decide +kernel
theorem dX8_init_89 : decode cX8_init 89 = .ok (.return_, 1) := by decide +kernel
theorem dX8_grief_0 : decode cX8_grief 0 = .ok (.iload_n 1, 1) := by decide +kernel
theorem dX8_grief_1 : decode cX8_grief 1 = .ok (.iconst 0, 1) := by decide +kernel
theorem dX8_grief_2 : decode cX8_grief 2 = .ok (.iconst 5, 1) := by decide +kernel
theorem dX8_grief_3 : decode cX8_grief 3 = .ok (.invokestatic 62, 3) := by decide +kernel
theorem dX8_grief_6 : decode cX8_grief 6 = .ok (.ifCond .ne 5, 3) := by decide +kernel
theorem dX8_grief_9 : decode cX8_grief 9 = .ok (.iconst (-1), 1) := by decide +kernel
theorem dX8_grief_10 : decode cX8_grief 10 = .ok (.ireturn, 1) := by decide +kernel
theorem dX8_grief_11 : decode cX8_grief 11 = .ok (.iload_n 2, 1) := by decide +kernel
theorem dX8_grief_12 : decode cX8_grief 12 = .ok (.iconst 1, 1) := by decide +kernel
theorem dX8_grief_13 : decode cX8_grief 13 = .ok (.bipush 99, 2) := by decide +kernel
theorem dX8_grief_15 : decode cX8_grief 15 = .ok (.invokestatic 62, 3) := by decide +kernel
theorem dX8_grief_18 : decode cX8_grief 18 = .ok (.ifCond .eq 10, 3) := by decide +kernel
theorem dX8_grief_21 : decode cX8_grief 21 = .ok (.iload_n 3, 1) := by decide +kernel
theorem dX8_grief_22 : decode cX8_grief 22 = .ok (.invokestatic 66, 3) := by decide +kernel
theorem dX8_grief_25 : decode cX8_grief 25 = .ok (.ifCond .ne 6, 3) := by decide +kernel
theorem dX8_grief_28 : decode cX8_grief 28 = .ok (.bipush (-2), 2) := by decide +kernel
theorem dX8_grief_30 : decode cX8_grief 30 = .ok (.ireturn, 1) := by decide +kernel
theorem dX8_grief_31 : decode cX8_grief 31 = .ok (.aload_n 0, 1) := by decide +kernel
theorem dX8_grief_32 : decode cX8_grief 32 = .ok (.getfield 10, 3) := by decide +kernel
theorem dX8_grief_35 : decode cX8_grief 35 = .ok (.getfield 70, 3) := by decide +kernel
theorem dX8_grief_38 : decode cX8_grief 38 = .ok (.iload_n 1, 1) := by decide +kernel
theorem dX8_grief_39 : decode cX8_grief 39 = .ok (.iload_n 2, 1) := by decide +kernel
theorem dX8_grief_40 : decode cX8_grief 40 = .ok (.iastore, 1) := by decide +kernel
theorem dX8_grief_41 : decode cX8_grief 41 = .ok (.aload_n 0, 1) := by decide +kernel
theorem dX8_grief_42 : decode cX8_grief 42 = .ok (.getfield 10, 3) := by decide +kernel
theorem dX8_grief_45 : decode cX8_grief 45 = .ok (.getfield 74, 3) := by decide +kernel
theorem dX8_grief_48 : decode cX8_grief 48 = .ok (.iload_n 1, 1) := by decide +kernel
theorem dX8_grief_49 : decode cX8_grief 49 = .ok (.iload_n 3, 1) := by decide +kernel
theorem dX8_grief_50 : decode cX8_grief 50 = .ok (.iastore, 1) := by decide +kernel
theorem dX8_grief_51 : decode cX8_grief 51 = .ok (.aload_n 0, 1) := by decide +kernel
theorem dX8_grief_52 : decode cX8_grief 52 = .ok (.getfield 10, 3) := by decide +kernel
theorem dX8_grief_55 : decode cX8_grief 55 = .ok (.invokevirtual 77, 3) := by decide +kernel
theorem dX8_grief_58 : decode cX8_grief 58 = .ok (.invokestatic 81, 3) := by decide +kernel
theorem dX8_grief_61 : decode cX8_grief 61 = .ok (.ireturn, 1) := by decide +kernel
theorem dX8_hold_0 : decode cX8_hold 0 = .ok (.iload_n 1, 1) := by decide +kernel
theorem dX8_hold_1 : decode cX8_hold 1 = .ok (.invokestatic 87, 3) := by decide +kernel
theorem dX8_hold_4 : decode cX8_hold 4 = .ok (.ifCond .ne 5, 3) := by decide +kernel
theorem dX8_hold_7 : decode cX8_hold 7 = .ok (.iconst (-1), 1) := by decide +kernel
theorem dX8_hold_8 : decode cX8_hold 8 = .ok (.ireturn, 1) := by decide +kernel
theorem dX8_hold_9 : decode cX8_hold 9 = .ok (.iload_n 2, 1) := by decide +kernel
theorem dX8_hold_10 : decode cX8_hold 10 = .ok (.invokestatic 66, 3) := by decide +kernel
theorem dX8_hold_13 : decode cX8_hold 13 = .ok (.ifCond .eq 24, 3) := by decide +kernel
theorem dX8_hold_16 : decode cX8_hold 16 = .ok (.iload_n 3, 1) := by decide +kernel
theorem dX8_hold_17 : decode cX8_hold 17 = .ok (.iconst 1, 1) := by decide +kernel
theorem dX8_hold_18 : decode cX8_hold 18 = .ok (.bipush 20, 2) := by decide +kernel
theorem dX8_hold_20 : decode cX8_hold 20 = .ok (.invokestatic 62, 3) := by decide +kernel
theorem dX8_hold_23 : decode cX8_hold 23 = .ok (.ifCond .eq 14, 3) := by decide +kernel
theorem dX8_hold_26 : decode cX8_hold 26 = .ok (.iload 4, 2) := by decide +kernel
theorem dX8_hold_28 : decode cX8_hold 28 = .ok (.iconst 1, 1) := by decide +kernel
theorem dX8_hold_29 : decode cX8_hold 29 = .ok (.bipush 9, 2) := by decide +kernel
theorem dX8_hold_31 : decode cX8_hold 31 = .ok (.invokestatic 62, 3) := by decide +kernel
theorem dX8_hold_34 : decode cX8_hold 34 = .ok (.ifCond .ne 6, 3) := by decide +kernel
theorem dX8_hold_37 : decode cX8_hold 37 = .ok (.bipush (-2), 2) := by decide +kernel
theorem dX8_hold_39 : decode cX8_hold 39 = .ok (.ireturn, 1) := by decide +kernel
theorem dX8_hold_40 : decode cX8_hold 40 = .ok (.aload_n 0, 1) := by decide +kernel
theorem dX8_hold_41 : decode cX8_hold 41 = .ok (.getfield 10, 3) := by decide +kernel
theorem dX8_hold_44 : decode cX8_hold 44 = .ok (.iload_n 1, 1) := by decide +kernel
theorem dX8_hold_45 : decode cX8_hold 45 = .ok (.invokevirtual 90, 3) := by decide +kernel
theorem dX8_hold_48 : decode cX8_hold 48 = .ok (.istore 5, 2) := by decide +kernel
theorem dX8_hold_50 : decode cX8_hold 50 = .ok (.aload_n 0, 1) := by decide +kernel
theorem dX8_hold_51 : decode cX8_hold 51 = .ok (.getfield 10, 3) := by decide +kernel
theorem dX8_hold_54 : decode cX8_hold 54 = .ok (.getfield 93, 3) := by decide +kernel
theorem dX8_hold_57 : decode cX8_hold 57 = .ok (.iload_n 1, 1) := by decide +kernel
theorem dX8_hold_58 : decode cX8_hold 58 = .ok (.iload_n 2, 1) := by decide +kernel
theorem dX8_hold_59 : decode cX8_hold 59 = .ok (.iastore, 1) := by decide +kernel
theorem dX8_hold_60 : decode cX8_hold 60 = .ok (.aload_n 0, 1) := by decide +kernel
theorem dX8_hold_61 : decode cX8_hold 61 = .ok (.getfield 10, 3) := by decide +kernel
theorem dX8_hold_64 : decode cX8_hold 64 = .ok (.getfield 96, 3) := by decide +kernel
theorem dX8_hold_67 : decode cX8_hold 67 = .ok (.iload_n 1, 1) := by decide +kernel
theorem dX8_hold_68 : decode cX8_hold 68 = .ok (.iload_n 3, 1) := by decide +kernel
theorem dX8_hold_69 : decode cX8_hold 69 = .ok (.iastore, 1) := by decide +kernel
theorem dX8_hold_70 : decode cX8_hold 70 = .ok (.aload_n 0, 1) := by decide +kernel
theorem dX8_hold_71 : decode cX8_hold 71 = .ok (.getfield 10, 3) := by decide +kernel
theorem dX8_hold_74 : decode cX8_hold 74 = .ok (.getfield 99, 3) := by decide +kernel
theorem dX8_hold_77 : decode cX8_hold 77 = .ok (.iload_n 1, 1) := by decide +kernel
theorem dX8_hold_78 : decode cX8_hold 78 = .ok (.iload 4, 2) := by decide +kernel
theorem dX8_hold_80 : decode cX8_hold 80 = .ok (.iastore, 1) := by decide +kernel
theorem dX8_hold_81 : decode cX8_hold 81 = .ok (.iload 5, 2) := by decide +kernel
theorem dX8_hold_83 : decode cX8_hold 83 = .ok (.ireturn, 1) := by decide +kernel
theorem dX8_breath_0 : decode cX8_breath 0 = .ok (.iload_n 1, 1) := by decide +kernel
theorem dX8_breath_1 : decode cX8_breath 1 = .ok (.iconst 0, 1) := by decide +kernel
theorem dX8_breath_2 : decode cX8_breath 2 = .ok (.bipush 99, 2) := by decide +kernel
theorem dX8_breath_4 : decode cX8_breath 4 = .ok (.invokestatic 62, 3) := by decide +kernel
theorem dX8_breath_7 : decode cX8_breath 7 = .ok (.ifCond .ne 6, 3) := by decide +kernel
theorem dX8_breath_10 : decode cX8_breath 10 = .ok (.bipush (-2), 2) := by decide +kernel
theorem dX8_breath_12 : decode cX8_breath 12 = .ok (.ireturn, 1) := by decide +kernel
theorem dX8_breath_13 : decode cX8_breath 13 = .ok (.aload_n 0, 1) := by decide +kernel
theorem dX8_breath_14 : decode cX8_breath 14 = .ok (.getfield 10, 3) := by decide +kernel
theorem dX8_breath_17 : decode cX8_breath 17 = .ok (.getfield 102, 3) := by decide +kernel
theorem dX8_breath_20 : decode cX8_breath 20 = .ok (.istore_n 2, 1) := by decide +kernel
theorem dX8_breath_21 : decode cX8_breath 21 = .ok (.aload_n 0, 1) := by decide +kernel
theorem dX8_breath_22 : decode cX8_breath 22 = .ok (.getfield 10, 3) := by decide +kernel
theorem dX8_breath_25 : decode cX8_breath 25 = .ok (.iload_n 1, 1) := by decide +kernel
theorem dX8_breath_26 : decode cX8_breath 26 = .ok (.putfield 102, 3) := by decide +kernel
theorem dX8_breath_29 : decode cX8_breath 29 = .ok (.iload_n 2, 1) := by decide +kernel
theorem dX8_breath_30 : decode cX8_breath 30 = .ok (.ireturn, 1) := by decide +kernel
theorem dX8_coat_0 : decode cX8_coat 0 = .ok (.iload_n 1, 1) := by decide +kernel
theorem dX8_coat_1 : decode cX8_coat 1 = .ok (.iconst 0, 1) := by decide +kernel
theorem dX8_coat_2 : decode cX8_coat 2 = .ok (.bipush 7, 2) := by decide +kernel
theorem dX8_coat_4 : decode cX8_coat 4 = .ok (.invokestatic 62, 3) := by decide +kernel
theorem dX8_coat_7 : decode cX8_coat 7 = .ok (.ifCond .ne 5, 3) := by decide +kernel
theorem dX8_coat_10 : decode cX8_coat 10 = .ok (.iconst (-1), 1) := by decide +kernel
theorem dX8_coat_11 : decode cX8_coat 11 = .ok (.ireturn, 1) := by decide +kernel
theorem dX8_coat_12 : decode cX8_coat 12 = .ok (.iload_n 2, 1) := by decide +kernel
theorem dX8_coat_13 : decode cX8_coat 13 = .ok (.iload_n 3, 1) := by decide +kernel
theorem dX8_coat_14 : decode cX8_coat 14 = .ok (.invokestatic 106, 3) := by decide +kernel
theorem dX8_coat_17 : decode cX8_coat 17 = .ok (.ifCond .ne 6, 3) := by decide +kernel
theorem dX8_coat_20 : decode cX8_coat 20 = .ok (.bipush (-2), 2) := by decide +kernel
theorem dX8_coat_22 : decode cX8_coat 22 = .ok (.ireturn, 1) := by decide +kernel
theorem dX8_coat_23 : decode cX8_coat 23 = .ok (.aload_n 0, 1) := by decide +kernel
theorem dX8_coat_24 : decode cX8_coat 24 = .ok (.getfield 10, 3) := by decide +kernel
theorem dX8_coat_27 : decode cX8_coat 27 = .ok (.iload_n 1, 1) := by decide +kernel
theorem dX8_coat_28 : decode cX8_coat 28 = .ok (.invokevirtual 110, 3) := by decide +kernel
theorem dX8_coat_31 : decode cX8_coat 31 = .ok (.istore 4, 2) := by decide +kernel
theorem dX8_coat_33 : decode cX8_coat 33 = .ok (.aload_n 0, 1) := by decide +kernel
theorem dX8_coat_34 : decode cX8_coat 34 = .ok (.getfield 10, 3) := by decide +kernel
theorem dX8_coat_37 : decode cX8_coat 37 = .ok (.getfield 113, 3) := by decide +kernel
theorem dX8_coat_40 : decode cX8_coat 40 = .ok (.iload_n 1, 1) := by decide +kernel
theorem dX8_coat_41 : decode cX8_coat 41 = .ok (.iload_n 2, 1) := by decide +kernel
theorem dX8_coat_42 : decode cX8_coat 42 = .ok (.iastore, 1) := by decide +kernel
theorem dX8_coat_43 : decode cX8_coat 43 = .ok (.aload_n 0, 1) := by decide +kernel
theorem dX8_coat_44 : decode cX8_coat 44 = .ok (.getfield 10, 3) := by decide +kernel
theorem dX8_coat_47 : decode cX8_coat 47 = .ok (.getfield 116, 3) := by decide +kernel
theorem dX8_coat_50 : decode cX8_coat 50 = .ok (.iload_n 1, 1) := by decide +kernel
theorem dX8_coat_51 : decode cX8_coat 51 = .ok (.iload_n 3, 1) := by decide +kernel
theorem dX8_coat_52 : decode cX8_coat 52 = .ok (.iastore, 1) := by decide +kernel
theorem dX8_coat_53 : decode cX8_coat 53 = .ok (.iload 4, 2) := by decide +kernel
theorem dX8_coat_55 : decode cX8_coat 55 = .ok (.ireturn, 1) := by decide +kernel
theorem dX8_move_0 : decode cX8_move 0 = .ok (.iload_n 1, 1) := by decide +kernel
theorem dX8_move_1 : decode cX8_move 1 = .ok (.invokestatic 119, 3) := by decide +kernel
theorem dX8_move_4 : decode cX8_move 4 = .ok (.ifCond .eq 15, 3) := by decide +kernel
theorem dX8_move_7 : decode cX8_move 7 = .ok (.iload_n 2, 1) := by decide +kernel
theorem dX8_move_8 : decode cX8_move 8 = .ok (.invokestatic 119, 3) := by decide +kernel
theorem dX8_move_11 : decode cX8_move 11 = .ok (.ifCond .eq 8, 3) := by decide +kernel
theorem dX8_move_14 : decode cX8_move 14 = .ok (.iload_n 1, 1) := by decide +kernel
theorem dX8_move_15 : decode cX8_move 15 = .ok (.iload_n 2, 1) := by decide +kernel
theorem dX8_move_16 : decode cX8_move 16 = .ok (.if_icmp .ne 5, 3) := by decide +kernel
theorem dX8_move_19 : decode cX8_move 19 = .ok (.iconst (-1), 1) := by decide +kernel
theorem dX8_move_20 : decode cX8_move 20 = .ok (.ireturn, 1) := by decide +kernel
theorem dX8_move_21 : decode cX8_move 21 = .ok (.iload_n 3, 1) := by decide +kernel
theorem dX8_move_22 : decode cX8_move 22 = .ok (.ifCond .eq 21, 3) := by decide +kernel
theorem dX8_move_25 : decode cX8_move 25 = .ok (.aload_n 0, 1) := by decide +kernel
theorem dX8_move_26 : decode cX8_move 26 = .ok (.getfield 10, 3) := by decide +kernel
theorem dX8_move_29 : decode cX8_move 29 = .ok (.getfield 122, 3) := by decide +kernel
theorem dX8_move_32 : decode cX8_move 32 = .ok (.iload_n 1, 1) := by decide +kernel
theorem dX8_move_33 : decode cX8_move 33 = .ok (.dup2, 1) := by decide +kernel
theorem dX8_move_34 : decode cX8_move 34 = .ok (.iaload, 1) := by decide +kernel
theorem dX8_move_35 : decode cX8_move 35 = .ok (.iconst 1, 1) := by decide +kernel
theorem dX8_move_36 : decode cX8_move 36 = .ok (.iload_n 2, 1) := by decide +kernel
theorem dX8_move_37 : decode cX8_move 37 = .ok (.ishl, 1) := by decide +kernel
theorem dX8_move_38 : decode cX8_move 38 = .ok (.ior, 1) := by decide +kernel
theorem dX8_move_39 : decode cX8_move 39 = .ok (.iastore, 1) := by decide +kernel
theorem dX8_move_40 : decode cX8_move 40 = .ok (.goto 20, 3) := by decide +kernel
theorem dX8_move_43 : decode cX8_move 43 = .ok (.aload_n 0, 1) := by decide +kernel
theorem dX8_move_44 : decode cX8_move 44 = .ok (.getfield 10, 3) := by decide +kernel
theorem dX8_move_47 : decode cX8_move 47 = .ok (.getfield 122, 3) := by decide +kernel
theorem dX8_move_50 : decode cX8_move 50 = .ok (.iload_n 1, 1) := by decide +kernel
theorem dX8_move_51 : decode cX8_move 51 = .ok (.dup2, 1) := by decide +kernel
theorem dX8_move_52 : decode cX8_move 52 = .ok (.iaload, 1) := by decide +kernel
theorem dX8_move_53 : decode cX8_move 53 = .ok (.iconst 1, 1) := by decide +kernel
theorem dX8_move_54 : decode cX8_move 54 = .ok (.iload_n 2, 1) := by decide +kernel
theorem dX8_move_55 : decode cX8_move 55 = .ok (.ishl, 1) := by decide +kernel
theorem dX8_move_56 : decode cX8_move 56 = .ok (.iconst (-1), 1) := by decide +kernel
theorem dX8_move_57 : decode cX8_move 57 = .ok (.ixor, 1) := by decide +kernel
theorem dX8_move_58 : decode cX8_move 58 = .ok (.iand, 1) := by decide +kernel
theorem dX8_move_59 : decode cX8_move 59 = .ok (.iastore, 1) := by decide +kernel
theorem dX8_move_60 : decode cX8_move 60 = .ok (.aload_n 0, 1) := by decide +kernel
theorem dX8_move_61 : decode cX8_move 61 = .ok (.getfield 10, 3) := by decide +kernel
theorem dX8_move_64 : decode cX8_move 64 = .ok (.invokevirtual 125, 3) := by decide +kernel
theorem dX8_move_67 : decode cX8_move 67 = .ok (.ireturn, 1) := by decide +kernel
theorem dX8_say_0 : decode cX8_say 0 = .ok (.iload_n 1, 1) := by decide +kernel
theorem dX8_say_1 : decode cX8_say 1 = .ok (.bipush 33, 2) := by decide +kernel
theorem dX8_say_3 : decode cX8_say 3 = .ok (.bipush 126, 2) := by decide +kernel
theorem dX8_say_5 : decode cX8_say 5 = .ok (.invokestatic 62, 3) := by decide +kernel
theorem dX8_say_8 : decode cX8_say 8 = .ok (.ifCond .ne 6, 3) := by decide +kernel
theorem dX8_say_11 : decode cX8_say 11 = .ok (.bipush (-2), 2) := by decide +kernel
theorem dX8_say_13 : decode cX8_say 13 = .ok (.ireturn, 1) := by decide +kernel
theorem dX8_say_14 : decode cX8_say 14 = .ok (.aload_n 0, 1) := by decide +kernel
theorem dX8_say_15 : decode cX8_say 15 = .ok (.getfield 19, 3) := by decide +kernel
theorem dX8_say_18 : decode cX8_say 18 = .ok (.iload_n 1, 1) := by decide +kernel
theorem dX8_say_19 : decode cX8_say 19 = .ok (.invokevirtual 128, 3) := by decide +kernel
theorem dX8_say_22 : decode cX8_say 22 = .ok (.ifCond .eq 13, 3) := by decide +kernel
theorem dX8_say_25 : decode cX8_say 25 = .ok (.aload_n 0, 1) := by decide +kernel
theorem dX8_say_26 : decode cX8_say 26 = .ok (.getfield 19, 3) := by decide +kernel
theorem dX8_say_29 : decode cX8_say 29 = .ok (.getfield 131, 3) := by decide +kernel
theorem dX8_say_32 : decode cX8_say 32 = .ok (.goto 5, 3) := by decide +kernel
theorem dX8_say_35 : decode cX8_say 35 = .ok (.bipush (-4), 2) := by decide +kernel
theorem dX8_say_37 : decode cX8_say 37 = .ok (.ireturn, 1) := by decide +kernel
theorem dX8_wipe_0 : decode cX8_wipe 0 = .ok (.aload_n 0, 1) := by decide +kernel
theorem dX8_wipe_1 : decode cX8_wipe 1 = .ok (.getfield 19, 3) := by decide +kernel
theorem dX8_wipe_4 : decode cX8_wipe 4 = .ok (.getfield 131, 3) := by decide +kernel
theorem dX8_wipe_7 : decode cX8_wipe 7 = .ok (.istore_n 1, 1) := by decide +kernel
theorem dX8_wipe_8 : decode cX8_wipe 8 = .ok (.aload_n 0, 1) := by decide +kernel
theorem dX8_wipe_9 : decode cX8_wipe 9 = .ok (.getfield 19, 3) := by decide +kernel
theorem dX8_wipe_12 : decode cX8_wipe 12 = .ok (.iconst 0, 1) := by decide +kernel
theorem dX8_wipe_13 : decode cX8_wipe 13 = .ok (.putfield 131, 3) := by decide +kernel
theorem dX8_wipe_16 : decode cX8_wipe 16 = .ok (.iload_n 1, 1) := by decide +kernel
theorem dX8_wipe_17 : decode cX8_wipe 17 = .ok (.ireturn, 1) := by decide +kernel
theorem dX8_fault_0 : decode cX8_fault 0 = .ok (.aload_n 0, 1) := by decide +kernel
theorem dX8_fault_1 : decode cX8_fault 1 = .ok (.getfield 19, 3) := by decide +kernel
theorem dX8_fault_4 : decode cX8_fault 4 = .ok (.invokevirtual 134, 3) := by decide +kernel
theorem dX8_fault_7 : decode cX8_fault 7 = .ok (.ireturn, 1) := by decide +kernel
theorem dX8_judge_0 : decode cX8_judge 0 = .ok (.iload_n 1, 1) := by decide +kernel
theorem dX8_judge_1 : decode cX8_judge 1 = .ok (.iconst 0, 1) := by decide +kernel
theorem dX8_judge_2 : decode cX8_judge 2 = .ok (.iconst 1, 1) := by decide +kernel
theorem dX8_judge_3 : decode cX8_judge 3 = .ok (.invokestatic 62, 3) := by decide +kernel
theorem dX8_judge_6 : decode cX8_judge 6 = .ok (.ifCond .ne 6, 3) := by decide +kernel
theorem dX8_judge_9 : decode cX8_judge 9 = .ok (.bipush (-2), 2) := by decide +kernel
theorem dX8_judge_11 : decode cX8_judge 11 = .ok (.ireturn, 1) := by decide +kernel
theorem dX8_judge_12 : decode cX8_judge 12 = .ok (.aload_n 0, 1) := by decide +kernel
theorem dX8_judge_13 : decode cX8_judge 13 = .ok (.getfield 19, 3) := by decide +kernel
theorem dX8_judge_16 : decode cX8_judge 16 = .ok (.invokevirtual 134, 3) := by decide +kernel
theorem dX8_judge_19 : decode cX8_judge 19 = .ok (.bipush (-6), 2) := by decide +kernel
theorem dX8_judge_21 : decode cX8_judge 21 = .ok (.if_icmp .eq 6, 3) := by decide +kernel
theorem dX8_judge_24 : decode cX8_judge 24 = .ok (.bipush (-5), 2) := by decide +kernel
theorem dX8_judge_26 : decode cX8_judge 26 = .ok (.ireturn, 1) := by decide +kernel
theorem dX8_judge_27 : decode cX8_judge 27 = .ok (.aload_n 0, 1) := by decide +kernel
theorem dX8_judge_28 : decode cX8_judge 28 = .ok (.getfield 26, 3) := by decide +kernel
theorem dX8_judge_31 : decode cX8_judge 31 = .ok (.aload_n 0, 1) := by decide +kernel
theorem dX8_judge_32 : decode cX8_judge 32 = .ok (.getfield 19, 3) := by decide +kernel
theorem dX8_judge_35 : decode cX8_judge 35 = .ok (.aload_n 0, 1) := by decide +kernel
theorem dX8_judge_36 : decode cX8_judge 36 = .ok (.getfield 10, 3) := by decide +kernel
theorem dX8_judge_39 : decode cX8_judge 39 = .ok (.invokevirtual 137, 3) := by decide +kernel
theorem dX8_judge_42 : decode cX8_judge 42 = .ok (.aload_n 0, 1) := by decide +kernel
theorem dX8_judge_43 : decode cX8_judge 43 = .ok (.getfield 26, 3) := by decide +kernel
theorem dX8_judge_46 : decode cX8_judge 46 = .ok (.getfield 141, 3) := by decide +kernel
theorem dX8_judge_49 : decode cX8_judge 49 = .ok (.ifCond .ne 6, 3) := by decide +kernel
theorem dX8_judge_52 : decode cX8_judge 52 = .ok (.bipush (-6), 2) := by decide +kernel
theorem dX8_judge_54 : decode cX8_judge 54 = .ok (.ireturn, 1) := by decide +kernel
theorem dX8_judge_55 : decode cX8_judge 55 = .ok (.iload_n 1, 1) := by decide +kernel
theorem dX8_judge_56 : decode cX8_judge 56 = .ok (.ifCond .ne 13, 3) := by decide +kernel
theorem dX8_judge_59 : decode cX8_judge 59 = .ok (.aload_n 0, 1) := by decide +kernel
theorem dX8_judge_60 : decode cX8_judge 60 = .ok (.getfield 26, 3) := by decide +kernel
theorem dX8_judge_63 : decode cX8_judge 63 = .ok (.getfield 144, 3) := by decide +kernel
theorem dX8_judge_66 : decode cX8_judge 66 = .ok (.goto 10, 3) := by decide +kernel
theorem dX8_judge_69 : decode cX8_judge 69 = .ok (.aload_n 0, 1) := by decide +kernel
theorem dX8_judge_70 : decode cX8_judge 70 = .ok (.getfield 26, 3) := by decide +kernel
theorem dX8_judge_73 : decode cX8_judge 73 = .ok (.getfield 141, 3) := by decide +kernel
theorem dX8_judge_76 : decode cX8_judge 76 = .ok (.ireturn, 1) := by decide +kernel
theorem dX8_done_0 : decode cX8_done 0 = .ok (.aload_n 0, 1) := by decide +kernel
theorem dX8_done_1 : decode cX8_done 1 = .ok (.invokevirtual 147, 3) := by decide +kernel
theorem dX8_done_4 : decode cX8_done 4 = .ok (.ifCond .ne 6, 3) := by decide +kernel
theorem dX8_done_7 : decode cX8_done 7 = .ok (.bipush (-5), 2) := by decide +kernel
theorem dX8_done_9 : decode cX8_done 9 = .ok (.ireturn, 1) := by decide +kernel
theorem dX8_done_10 : decode cX8_done 10 = .ok (.aload_n 0, 1) := by decide +kernel
theorem dX8_done_11 : decode cX8_done 11 = .ok (.getfield 10, 3) := by decide +kernel
theorem dX8_done_14 : decode cX8_done 14 = .ok (.aload_n 0, 1) := by decide +kernel
theorem dX8_done_15 : decode cX8_done 15 = .ok (.getfield 26, 3) := by decide +kernel
theorem dX8_done_18 : decode cX8_done 18 = .ok (.getfield 151, 3) := by decide +kernel
theorem dX8_done_21 : decode cX8_done 21 = .ok (.invokevirtual 154, 3) := by decide +kernel
theorem dX8_done_24 : decode cX8_done 24 = .ok (.aload_n 0, 1) := by decide +kernel
theorem dX8_done_25 : decode cX8_done 25 = .ok (.getfield 19, 3) := by decide +kernel
theorem dX8_done_28 : decode cX8_done 28 = .ok (.iconst 0, 1) := by decide +kernel
theorem dX8_done_29 : decode cX8_done 29 = .ok (.putfield 131, 3) := by decide +kernel
theorem dX8_done_32 : decode cX8_done 32 = .ok (.aload_n 0, 1) := by decide +kernel
theorem dX8_done_33 : decode cX8_done 33 = .ok (.getfield 26, 3) := by decide +kernel
theorem dX8_done_36 : decode cX8_done 36 = .ok (.getfield 144, 3) := by decide +kernel
theorem dX8_done_39 : decode cX8_done 39 = .ok (.ireturn, 1) := by decide +kernel
theorem dX8_behind_0 : decode cX8_behind 0 = .ok (.aload_n 0, 1) := by decide +kernel
theorem dX8_behind_1 : decode cX8_behind 1 = .ok (.getfield 10, 3) := by decide +kernel
theorem dX8_behind_4 : decode cX8_behind 4 = .ok (.iload_n 1, 1) := by decide +kernel
theorem dX8_behind_5 : decode cX8_behind 5 = .ok (.invokevirtual 158, 3) := by decide +kernel
theorem dX8_behind_8 : decode cX8_behind 8 = .ok (.ifCond .ne 5, 3) := by decide +kernel
theorem dX8_behind_11 : decode cX8_behind 11 = .ok (.iconst (-1), 1) := by decide +kernel
theorem dX8_behind_12 : decode cX8_behind 12 = .ok (.ireturn, 1) := by decide +kernel
theorem dX8_behind_13 : decode cX8_behind 13 = .ok (.iload_n 2, 1) := by decide +kernel
theorem dX8_behind_14 : decode cX8_behind 14 = .ok (.iconst 0, 1) := by decide +kernel
theorem dX8_behind_15 : decode cX8_behind 15 = .ok (.iconst 1, 1) := by decide +kernel
theorem dX8_behind_16 : decode cX8_behind 16 = .ok (.invokestatic 62, 3) := by decide +kernel
theorem dX8_behind_19 : decode cX8_behind 19 = .ok (.ifCond .ne 6, 3) := by decide +kernel
theorem dX8_behind_22 : decode cX8_behind 22 = .ok (.bipush (-2), 2) := by decide +kernel
theorem dX8_behind_24 : decode cX8_behind 24 = .ok (.ireturn, 1) := by decide +kernel
theorem dX8_behind_25 : decode cX8_behind 25 = .ok (.aload_n 0, 1) := by decide +kernel
theorem dX8_behind_26 : decode cX8_behind 26 = .ok (.invokevirtual 147, 3) := by decide +kernel
theorem dX8_behind_29 : decode cX8_behind 29 = .ok (.ifCond .ne 6, 3) := by decide +kernel
theorem dX8_behind_32 : decode cX8_behind 32 = .ok (.bipush (-5), 2) := by decide +kernel
theorem dX8_behind_34 : decode cX8_behind 34 = .ok (.ireturn, 1) := by decide +kernel
theorem dX8_behind_35 : decode cX8_behind 35 = .ok (.aload_n 0, 1) := by decide +kernel
theorem dX8_behind_36 : decode cX8_behind 36 = .ok (.getfield 26, 3) := by decide +kernel
theorem dX8_behind_39 : decode cX8_behind 39 = .ok (.getfield 151, 3) := by decide +kernel
theorem dX8_behind_42 : decode cX8_behind 42 = .ok (.iload_n 1, 1) := by decide +kernel
theorem dX8_behind_43 : decode cX8_behind 43 = .ok (.invokevirtual 158, 3) := by decide +kernel
theorem dX8_behind_46 : decode cX8_behind 46 = .ok (.ifCond .eq 18, 3) := by decide +kernel
theorem dX8_behind_49 : decode cX8_behind 49 = .ok (.aload_n 0, 1) := by decide +kernel
theorem dX8_behind_50 : decode cX8_behind 50 = .ok (.getfield 26, 3) := by decide +kernel
theorem dX8_behind_53 : decode cX8_behind 53 = .ok (.getfield 151, 3) := by decide +kernel
theorem dX8_behind_56 : decode cX8_behind 56 = .ok (.iload_n 1, 1) := by decide +kernel
theorem dX8_behind_57 : decode cX8_behind 57 = .ok (.iload_n 2, 1) := by decide +kernel
theorem dX8_behind_58 : decode cX8_behind 58 = .ok (.invokevirtual 161, 3) := by decide +kernel
theorem dX8_behind_61 : decode cX8_behind 61 = .ok (.goto 5, 3) := by decide +kernel
theorem dX8_behind_64 : decode cX8_behind 64 = .ok (.bipush (-6), 2) := by decide +kernel
theorem dX8_behind_66 : decode cX8_behind 66 = .ok (.ireturn, 1) := by decide +kernel
theorem dX8_then_0 : decode cX8_then 0 = .ok (.iload_n 1, 1) := by decide +kernel
theorem dX8_then_1 : decode cX8_then 1 = .ok (.iconst 0, 1) := by decide +kernel
theorem dX8_then_2 : decode cX8_then 2 = .ok (.iconst 5, 1) := by decide +kernel
theorem dX8_then_3 : decode cX8_then 3 = .ok (.invokestatic 62, 3) := by decide +kernel
theorem dX8_then_6 : decode cX8_then 6 = .ok (.ifCond .ne 6, 3) := by decide +kernel
theorem dX8_then_9 : decode cX8_then 9 = .ok (.bipush (-2), 2) := by decide +kernel
theorem dX8_then_11 : decode cX8_then 11 = .ok (.ireturn, 1) := by decide +kernel
theorem dX8_then_12 : decode cX8_then 12 = .ok (.aload_n 0, 1) := by decide +kernel
theorem dX8_then_13 : decode cX8_then 13 = .ok (.invokevirtual 147, 3) := by decide +kernel
theorem dX8_then_16 : decode cX8_then 16 = .ok (.ifCond .ne 6, 3) := by decide +kernel
theorem dX8_then_19 : decode cX8_then 19 = .ok (.bipush (-5), 2) := by decide +kernel
theorem dX8_then_21 : decode cX8_then 21 = .ok (.ireturn, 1) := by decide +kernel
theorem dX8_then_22 : decode cX8_then 22 = .ok (.iload_n 1, 1) := by decide +kernel
theorem dX8_then_23 : decode cX8_then 23 = .ok (.tableswitch 82 0 4 #[33, 44, 55, 66, 74], 33) := by decide +kernel
theorem dX8_then_56 : decode cX8_then 56 = .ok (.aload_n 0, 1) := by decide +kernel
theorem dX8_then_57 : decode cX8_then 57 = .ok (.getfield 26, 3) := by decide +kernel
theorem dX8_then_60 : decode cX8_then 60 = .ok (.getfield 151, 3) := by decide +kernel
theorem dX8_then_63 : decode cX8_then 63 = .ok (.invokevirtual 77, 3) := by decide +kernel
theorem dX8_then_66 : decode cX8_then 66 = .ok (.ireturn, 1) := by decide +kernel
theorem dX8_then_67 : decode cX8_then 67 = .ok (.aload_n 0, 1) := by decide +kernel
theorem dX8_then_68 : decode cX8_then 68 = .ok (.getfield 26, 3) := by decide +kernel
theorem dX8_then_71 : decode cX8_then 71 = .ok (.getfield 151, 3) := by decide +kernel
theorem dX8_then_74 : decode cX8_then 74 = .ok (.getfield 102, 3) := by decide +kernel
theorem dX8_then_77 : decode cX8_then 77 = .ok (.ireturn, 1) := by decide +kernel
theorem dX8_then_78 : decode cX8_then 78 = .ok (.aload_n 0, 1) := by decide +kernel
theorem dX8_then_79 : decode cX8_then 79 = .ok (.getfield 26, 3) := by decide +kernel
theorem dX8_then_82 : decode cX8_then 82 = .ok (.getfield 151, 3) := by decide +kernel
theorem dX8_then_85 : decode cX8_then 85 = .ok (.getfield 165, 3) := by decide +kernel
theorem dX8_then_88 : decode cX8_then 88 = .ok (.ireturn, 1) := by decide +kernel
theorem dX8_then_89 : decode cX8_then 89 = .ok (.aload_n 0, 1) := by decide +kernel
theorem dX8_then_90 : decode cX8_then 90 = .ok (.getfield 26, 3) := by decide +kernel
theorem dX8_then_93 : decode cX8_then 93 = .ok (.getfield 168, 3) := by decide +kernel
theorem dX8_then_96 : decode cX8_then 96 = .ok (.ireturn, 1) := by decide +kernel
theorem dX8_then_97 : decode cX8_then 97 = .ok (.aload_n 0, 1) := by decide +kernel
theorem dX8_then_98 : decode cX8_then 98 = .ok (.getfield 26, 3) := by decide +kernel
theorem dX8_then_101 : decode cX8_then 101 = .ok (.getfield 171, 3) := by decide +kernel
theorem dX8_then_104 : decode cX8_then 104 = .ok (.ireturn, 1) := by decide +kernel
theorem dX8_then_105 : decode cX8_then 105 = .ok (.aload_n 0, 1) := by decide +kernel
theorem dX8_then_106 : decode cX8_then 106 = .ok (.getfield 26, 3) := by decide +kernel
theorem dX8_then_109 : decode cX8_then 109 = .ok (.getfield 174, 3) := by decide +kernel
theorem dX8_then_112 : decode cX8_then 112 = .ok (.ireturn, 1) := by decide +kernel
theorem dX8_fitting_0 : decode cX8_fitting 0 = .ok (.aload_n 0, 1) := by decide +kernel
theorem dX8_fitting_1 : decode cX8_fitting 1 = .ok (.getfield 10, 3) := by decide +kernel
theorem dX8_fitting_4 : decode cX8_fitting 4 = .ok (.iload_n 1, 1) := by decide +kernel
theorem dX8_fitting_5 : decode cX8_fitting 5 = .ok (.invokevirtual 158, 3) := by decide +kernel
theorem dX8_fitting_8 : decode cX8_fitting 8 = .ok (.ifCond .eq 14, 3) := by decide +kernel
theorem dX8_fitting_11 : decode cX8_fitting 11 = .ok (.aload_n 0, 1) := by decide +kernel
theorem dX8_fitting_12 : decode cX8_fitting 12 = .ok (.getfield 10, 3) := by decide +kernel
theorem dX8_fitting_15 : decode cX8_fitting 15 = .ok (.iload_n 1, 1) := by decide +kernel
theorem dX8_fitting_16 : decode cX8_fitting 16 = .ok (.invokevirtual 177, 3) := by decide +kernel
theorem dX8_fitting_19 : decode cX8_fitting 19 = .ok (.goto 4, 3) := by decide +kernel
theorem dX8_fitting_22 : decode cX8_fitting 22 = .ok (.iconst (-1), 1) := by decide +kernel
theorem dX8_fitting_23 : decode cX8_fitting 23 = .ok (.ireturn, 1) := by decide +kernel
theorem dX8_least_0 : decode cX8_least 0 = .ok (.aload_n 0, 1) := by decide +kernel
theorem dX8_least_1 : decode cX8_least 1 = .ok (.getfield 10, 3) := by decide +kernel
theorem dX8_least_4 : decode cX8_least 4 = .ok (.iload_n 1, 1) := by decide +kernel
theorem dX8_least_5 : decode cX8_least 5 = .ok (.invokevirtual 158, 3) := by decide +kernel
theorem dX8_least_8 : decode cX8_least 8 = .ok (.ifCond .ne 5, 3) := by decide +kernel
theorem dX8_least_11 : decode cX8_least 11 = .ok (.iconst (-1), 1) := by decide +kernel
theorem dX8_least_12 : decode cX8_least 12 = .ok (.ireturn, 1) := by decide +kernel
theorem dX8_least_13 : decode cX8_least 13 = .ok (.iload_n 2, 1) := by decide +kernel
theorem dX8_least_14 : decode cX8_least 14 = .ok (.iconst 0, 1) := by decide +kernel
theorem dX8_least_15 : decode cX8_least 15 = .ok (.iconst 1, 1) := by decide +kernel
theorem dX8_least_16 : decode cX8_least 16 = .ok (.invokestatic 62, 3) := by decide +kernel
theorem dX8_least_19 : decode cX8_least 19 = .ok (.ifCond .ne 6, 3) := by decide +kernel
theorem dX8_least_22 : decode cX8_least 22 = .ok (.bipush (-2), 2) := by decide +kernel
theorem dX8_least_24 : decode cX8_least 24 = .ok (.ireturn, 1) := by decide +kernel
theorem dX8_least_25 : decode cX8_least 25 = .ok (.aload_n 0, 1) := by decide +kernel
theorem dX8_least_26 : decode cX8_least 26 = .ok (.getfield 33, 3) := by decide +kernel
theorem dX8_least_29 : decode cX8_least 29 = .ok (.aload_n 0, 1) := by decide +kernel
theorem dX8_least_30 : decode cX8_least 30 = .ok (.getfield 10, 3) := by decide +kernel
theorem dX8_least_33 : decode cX8_least 33 = .ok (.iload_n 1, 1) := by decide +kernel
theorem dX8_least_34 : decode cX8_least 34 = .ok (.invokevirtual 180, 3) := by decide +kernel
theorem dX8_least_37 : decode cX8_least 37 = .ok (.istore_n 3, 1) := by decide +kernel
theorem dX8_least_38 : decode cX8_least 38 = .ok (.iload_n 3, 1) := by decide +kernel
theorem dX8_least_39 : decode cX8_least 39 = .ok (.bipush (-6), 2) := by decide +kernel
theorem dX8_least_41 : decode cX8_least 41 = .ok (.if_icmp .ne 6, 3) := by decide +kernel
theorem dX8_least_44 : decode cX8_least 44 = .ok (.bipush (-6), 2) := by decide +kernel
theorem dX8_least_46 : decode cX8_least 46 = .ok (.ireturn, 1) := by decide +kernel
theorem dX8_least_47 : decode cX8_least 47 = .ok (.iload_n 2, 1) := by decide +kernel
theorem dX8_least_48 : decode cX8_least 48 = .ok (.ifCond .ne 11, 3) := by decide +kernel
theorem dX8_least_51 : decode cX8_least 51 = .ok (.iload_n 3, 1) := by decide +kernel
theorem dX8_least_52 : decode cX8_least 52 = .ok (.sipush 1000, 3) := by decide +kernel
theorem dX8_least_55 : decode cX8_least 55 = .ok (.idiv, 1) := by decide +kernel
theorem dX8_least_56 : decode cX8_least 56 = .ok (.goto 8, 3) := by decide +kernel
theorem dX8_least_59 : decode cX8_least 59 = .ok (.iload_n 3, 1) := by decide +kernel
theorem dX8_least_60 : decode cX8_least 60 = .ok (.sipush 1000, 3) := by decide +kernel
theorem dX8_least_63 : decode cX8_least 63 = .ok (.irem, 1) := by decide +kernel
theorem dX8_least_64 : decode cX8_least 64 = .ok (.ireturn, 1) := by decide +kernel
theorem dX8_order_0 : decode cX8_order 0 = .ok (.iload_n 1, 1) := by decide +kernel
theorem dX8_order_1 : decode cX8_order 1 = .ok (.iconst 0, 1) := by decide +kernel
theorem dX8_order_2 : decode cX8_order 2 = .ok (.iconst 1, 1) := by decide +kernel
theorem dX8_order_3 : decode cX8_order 3 = .ok (.invokestatic 62, 3) := by decide +kernel
theorem dX8_order_6 : decode cX8_order 6 = .ok (.ifCond .ne 6, 3) := by decide +kernel
theorem dX8_order_9 : decode cX8_order 9 = .ok (.bipush (-2), 2) := by decide +kernel
theorem dX8_order_11 : decode cX8_order 11 = .ok (.ireturn, 1) := by decide +kernel
theorem dX8_order_12 : decode cX8_order 12 = .ok (.aload_n 0, 1) := by decide +kernel
theorem dX8_order_13 : decode cX8_order 13 = .ok (.getfield 40, 3) := by decide +kernel
theorem dX8_order_16 : decode cX8_order 16 = .ok (.aload_n 0, 1) := by decide +kernel
theorem dX8_order_17 : decode cX8_order 17 = .ok (.getfield 10, 3) := by decide +kernel
theorem dX8_order_20 : decode cX8_order 20 = .ok (.invokevirtual 184, 3) := by decide +kernel
theorem dX8_order_23 : decode cX8_order 23 = .ok (.iload_n 1, 1) := by decide +kernel
theorem dX8_order_24 : decode cX8_order 24 = .ok (.ifCond .ne 13, 3) := by decide +kernel
theorem dX8_order_27 : decode cX8_order 27 = .ok (.aload_n 0, 1) := by decide +kernel
theorem dX8_order_28 : decode cX8_order 28 = .ok (.getfield 40, 3) := by decide +kernel
theorem dX8_order_31 : decode cX8_order 31 = .ok (.invokevirtual 187, 3) := by decide +kernel
theorem dX8_order_34 : decode cX8_order 34 = .ok (.goto 14, 3) := by decide +kernel
theorem dX8_order_37 : decode cX8_order 37 = .ok (.aload_n 0, 1) := by decide +kernel
theorem dX8_order_38 : decode cX8_order 38 = .ok (.getfield 40, 3) := by decide +kernel
theorem dX8_order_41 : decode cX8_order 41 = .ok (.aload_n 0, 1) := by decide +kernel
theorem dX8_order_42 : decode cX8_order 42 = .ok (.getfield 10, 3) := by decide +kernel
theorem dX8_order_45 : decode cX8_order 45 = .ok (.invokevirtual 190, 3) := by decide +kernel
theorem dX8_order_48 : decode cX8_order 48 = .ok (.ireturn, 1) := by decide +kernel
theorem dX8_make_0 : decode cX8_make 0 = .ok (.iload_n 1, 1) := by decide +kernel
theorem dX8_make_1 : decode cX8_make 1 = .ok (.invokestatic 66, 3) := by decide +kernel
theorem dX8_make_4 : decode cX8_make 4 = .ok (.ifCond .eq 12, 3) := by decide +kernel
theorem dX8_make_7 : decode cX8_make 7 = .ok (.iload_n 2, 1) := by decide +kernel
theorem dX8_make_8 : decode cX8_make 8 = .ok (.iconst 0, 1) := by decide +kernel
theorem dX8_make_9 : decode cX8_make 9 = .ok (.iconst 1, 1) := by decide +kernel
theorem dX8_make_10 : decode cX8_make 10 = .ok (.invokestatic 62, 3) := by decide +kernel
theorem dX8_make_13 : decode cX8_make 13 = .ok (.ifCond .ne 6, 3) := by decide +kernel
theorem dX8_make_16 : decode cX8_make 16 = .ok (.bipush (-2), 2) := by decide +kernel
theorem dX8_make_18 : decode cX8_make 18 = .ok (.ireturn, 1) := by decide +kernel
theorem dX8_make_19 : decode cX8_make 19 = .ok (.aload_n 0, 1) := by decide +kernel
theorem dX8_make_20 : decode cX8_make 20 = .ok (.getfield 10, 3) := by decide +kernel
theorem dX8_make_23 : decode cX8_make 23 = .ok (.iload_n 1, 1) := by decide +kernel
theorem dX8_make_24 : decode cX8_make 24 = .ok (.invokevirtual 194, 3) := by decide +kernel
theorem dX8_make_27 : decode cX8_make 27 = .ok (.istore_n 3, 1) := by decide +kernel
theorem dX8_make_28 : decode cX8_make 28 = .ok (.iload_n 3, 1) := by decide +kernel
theorem dX8_make_29 : decode cX8_make 29 = .ok (.bipush (-6), 2) := by decide +kernel
theorem dX8_make_31 : decode cX8_make 31 = .ok (.if_icmp .eq 8, 3) := by decide +kernel
theorem dX8_make_34 : decode cX8_make 34 = .ok (.iload_n 2, 1) := by decide +kernel
theorem dX8_make_35 : decode cX8_make 35 = .ok (.iconst 1, 1) := by decide +kernel
theorem dX8_make_36 : decode cX8_make 36 = .ok (.if_icmp .ne 7, 3) := by decide +kernel
theorem dX8_make_39 : decode cX8_make 39 = .ok (.iload_n 3, 1) := by decide +kernel
theorem dX8_make_40 : decode cX8_make 40 = .ok (.goto 11, 3) := by decide +kernel
theorem dX8_make_43 : decode cX8_make 43 = .ok (.aload_n 0, 1) := by decide +kernel
theorem dX8_make_44 : decode cX8_make 44 = .ok (.getfield 10, 3) := by decide +kernel
theorem dX8_make_47 : decode cX8_make 47 = .ok (.iload_n 3, 1) := by decide +kernel
theorem dX8_make_48 : decode cX8_make 48 = .ok (.invokevirtual 197, 3) := by decide +kernel
theorem dX8_make_51 : decode cX8_make 51 = .ok (.ireturn, 1) := by decide +kernel
theorem dX8_ring_0 : decode cX8_ring 0 = .ok (.iload_n 1, 1) := by decide +kernel
theorem dX8_ring_1 : decode cX8_ring 1 = .ok (.iload_n 2, 1) := by decide +kernel
theorem dX8_ring_2 : decode cX8_ring 2 = .ok (.invokestatic 106, 3) := by decide +kernel
theorem dX8_ring_5 : decode cX8_ring 5 = .ok (.ifCond .eq 12, 3) := by decide +kernel
theorem dX8_ring_8 : decode cX8_ring 8 = .ok (.iload_n 3, 1) := by decide +kernel
theorem dX8_ring_9 : decode cX8_ring 9 = .ok (.iconst 0, 1) := by decide +kernel
theorem dX8_ring_10 : decode cX8_ring 10 = .ok (.iconst 1, 1) := by decide +kernel
theorem dX8_ring_11 : decode cX8_ring 11 = .ok (.invokestatic 62, 3) := by decide +kernel
theorem dX8_ring_14 : decode cX8_ring 14 = .ok (.ifCond .ne 6, 3) := by decide +kernel
theorem dX8_ring_17 : decode cX8_ring 17 = .ok (.bipush (-2), 2) := by decide +kernel
theorem dX8_ring_19 : decode cX8_ring 19 = .ok (.ireturn, 1) := by decide +kernel
theorem dX8_ring_20 : decode cX8_ring 20 = .ok (.aload_n 0, 1) := by decide +kernel
theorem dX8_ring_21 : decode cX8_ring 21 = .ok (.getfield 10, 3) := by decide +kernel
theorem dX8_ring_24 : decode cX8_ring 24 = .ok (.iload_n 1, 1) := by decide +kernel
theorem dX8_ring_25 : decode cX8_ring 25 = .ok (.iload_n 2, 1) := by decide +kernel
theorem dX8_ring_26 : decode cX8_ring 26 = .ok (.invokestatic 200, 3) := by decide +kernel
theorem dX8_ring_29 : decode cX8_ring 29 = .ok (.invokevirtual 203, 3) := by decide +kernel
theorem dX8_ring_32 : decode cX8_ring 32 = .ok (.istore 4, 2) := by decide +kernel
theorem dX8_ring_34 : decode cX8_ring 34 = .ok (.iload 4, 2) := by decide +kernel
theorem dX8_ring_36 : decode cX8_ring 36 = .ok (.bipush (-6), 2) := by decide +kernel
theorem dX8_ring_38 : decode cX8_ring 38 = .ok (.if_icmp .eq 8, 3) := by decide +kernel
theorem dX8_ring_41 : decode cX8_ring 41 = .ok (.iload_n 3, 1) := by decide +kernel
theorem dX8_ring_42 : decode cX8_ring 42 = .ok (.iconst 1, 1) := by decide +kernel
theorem dX8_ring_43 : decode cX8_ring 43 = .ok (.if_icmp .ne 8, 3) := by decide +kernel
theorem dX8_ring_46 : decode cX8_ring 46 = .ok (.iload 4, 2) := by decide +kernel
theorem dX8_ring_48 : decode cX8_ring 48 = .ok (.goto 8, 3) := by decide +kernel
theorem dX8_ring_51 : decode cX8_ring 51 = .ok (.iload 4, 2) := by decide +kernel
theorem dX8_ring_53 : decode cX8_ring 53 = .ok (.invokestatic 81, 3) := by decide +kernel
theorem dX8_ring_56 : decode cX8_ring 56 = .ok (.ireturn, 1) := by decide +kernel
theorem dX8_seen_0 : decode cX8_seen 0 = .ok (.iload_n 1, 1) := by decide +kernel
theorem dX8_seen_1 : decode cX8_seen 1 = .ok (.invokestatic 87, 3) := by decide +kernel
theorem dX8_seen_4 : decode cX8_seen 4 = .ok (.ifCond .ne 5, 3) := by decide +kernel
theorem dX8_seen_7 : decode cX8_seen 7 = .ok (.iconst (-1), 1) := by decide +kernel
theorem dX8_seen_8 : decode cX8_seen 8 = .ok (.ireturn, 1) := by decide +kernel
theorem dX8_seen_9 : decode cX8_seen 9 = .ok (.aload_n 0, 1) := by decide +kernel
theorem dX8_seen_10 : decode cX8_seen 10 = .ok (.getfield 10, 3) := by decide +kernel
theorem dX8_seen_13 : decode cX8_seen 13 = .ok (.iload_n 1, 1) := by decide +kernel
theorem dX8_seen_14 : decode cX8_seen 14 = .ok (.iload_n 2, 1) := by decide +kernel
theorem dX8_seen_15 : decode cX8_seen 15 = .ok (.invokevirtual 206, 3) := by decide +kernel
theorem dX8_seen_18 : decode cX8_seen 18 = .ok (.ifCond .eq 13, 3) := by decide +kernel
theorem dX8_seen_21 : decode cX8_seen 21 = .ok (.aload_n 0, 1) := by decide +kernel
theorem dX8_seen_22 : decode cX8_seen 22 = .ok (.getfield 10, 3) := by decide +kernel
theorem dX8_seen_25 : decode cX8_seen 25 = .ok (.getfield 210, 3) := by decide +kernel
theorem dX8_seen_28 : decode cX8_seen 28 = .ok (.goto 5, 3) := by decide +kernel
theorem dX8_seen_31 : decode cX8_seen 31 = .ok (.bipush (-4), 2) := by decide +kernel
theorem dX8_seen_33 : decode cX8_seen 33 = .ok (.ireturn, 1) := by decide +kernel
theorem dX8_forget_0 : decode cX8_forget 0 = .ok (.aload_n 0, 1) := by decide +kernel
theorem dX8_forget_1 : decode cX8_forget 1 = .ok (.getfield 10, 3) := by decide +kernel
theorem dX8_forget_4 : decode cX8_forget 4 = .ok (.getfield 210, 3) := by decide +kernel
theorem dX8_forget_7 : decode cX8_forget 7 = .ok (.istore_n 1, 1) := by decide +kernel
theorem dX8_forget_8 : decode cX8_forget 8 = .ok (.aload_n 0, 1) := by decide +kernel
theorem dX8_forget_9 : decode cX8_forget 9 = .ok (.getfield 10, 3) := by decide +kernel
theorem dX8_forget_12 : decode cX8_forget 12 = .ok (.iconst 0, 1) := by decide +kernel
theorem dX8_forget_13 : decode cX8_forget 13 = .ok (.putfield 210, 3) := by decide +kernel
theorem dX8_forget_16 : decode cX8_forget 16 = .ok (.iload_n 1, 1) := by decide +kernel
theorem dX8_forget_17 : decode cX8_forget 17 = .ok (.ireturn, 1) := by decide +kernel
theorem dX8_shape_0 : decode cX8_shape 0 = .ok (.aload_n 0, 1) := by decide +kernel
theorem dX8_shape_1 : decode cX8_shape 1 = .ok (.getfield 47, 3) := by decide +kernel
theorem dX8_shape_4 : decode cX8_shape 4 = .ok (.aload_n 0, 1) := by decide +kernel
theorem dX8_shape_5 : decode cX8_shape 5 = .ok (.getfield 10, 3) := by decide +kernel
theorem dX8_shape_8 : decode cX8_shape 8 = .ok (.invokevirtual 213, 3) := by decide +kernel
theorem dX8_shape_11 : decode cX8_shape 11 = .ok (.iload_n 1, 1) := by decide +kernel
theorem dX8_shape_12 : decode cX8_shape 12 = .ok (.iconst (-1), 1) := by decide +kernel
theorem dX8_shape_13 : decode cX8_shape 13 = .ok (.if_icmp .ne 13, 3) := by decide +kernel
theorem dX8_shape_16 : decode cX8_shape 16 = .ok (.aload_n 0, 1) := by decide +kernel
theorem dX8_shape_17 : decode cX8_shape 17 = .ok (.getfield 47, 3) := by decide +kernel
theorem dX8_shape_20 : decode cX8_shape 20 = .ok (.getfield 216, 3) := by decide +kernel
theorem dX8_shape_23 : decode cX8_shape 23 = .ok (.goto 11, 3) := by decide +kernel
theorem dX8_shape_26 : decode cX8_shape 26 = .ok (.aload_n 0, 1) := by decide +kernel
theorem dX8_shape_27 : decode cX8_shape 27 = .ok (.getfield 47, 3) := by decide +kernel
theorem dX8_shape_30 : decode cX8_shape 30 = .ok (.iload_n 1, 1) := by decide +kernel
theorem dX8_shape_31 : decode cX8_shape 31 = .ok (.invokevirtual 217, 3) := by decide +kernel
theorem dX8_shape_34 : decode cX8_shape 34 = .ok (.ireturn, 1) := by decide +kernel
theorem dX8_ask_0 : decode cX8_ask 0 = .ok (.iload_n 1, 1) := by decide +kernel
theorem dX8_ask_1 : decode cX8_ask 1 = .ok (.iconst 0, 1) := by decide +kernel
theorem dX8_ask_2 : decode cX8_ask 2 = .ok (.iconst 1, 1) := by decide +kernel
theorem dX8_ask_3 : decode cX8_ask 3 = .ok (.invokestatic 62, 3) := by decide +kernel
theorem dX8_ask_6 : decode cX8_ask 6 = .ok (.ifCond .ne 6, 3) := by decide +kernel
theorem dX8_ask_9 : decode cX8_ask 9 = .ok (.bipush (-2), 2) := by decide +kernel
theorem dX8_ask_11 : decode cX8_ask 11 = .ok (.ireturn, 1) := by decide +kernel
theorem dX8_ask_12 : decode cX8_ask 12 = .ok (.aload_n 0, 1) := by decide +kernel
theorem dX8_ask_13 : decode cX8_ask 13 = .ok (.getfield 47, 3) := by decide +kernel
theorem dX8_ask_16 : decode cX8_ask 16 = .ok (.aload_n 0, 1) := by decide +kernel
theorem dX8_ask_17 : decode cX8_ask 17 = .ok (.getfield 10, 3) := by decide +kernel
theorem dX8_ask_20 : decode cX8_ask 20 = .ok (.invokevirtual 213, 3) := by decide +kernel
theorem dX8_ask_23 : decode cX8_ask 23 = .ok (.aload_n 0, 1) := by decide +kernel
theorem dX8_ask_24 : decode cX8_ask 24 = .ok (.getfield 47, 3) := by decide +kernel
theorem dX8_ask_27 : decode cX8_ask 27 = .ok (.aload_n 0, 1) := by decide +kernel
theorem dX8_ask_28 : decode cX8_ask 28 = .ok (.getfield 10, 3) := by decide +kernel
theorem dX8_ask_31 : decode cX8_ask 31 = .ok (.invokevirtual 220, 3) := by decide +kernel
theorem dX8_ask_34 : decode cX8_ask 34 = .ok (.istore_n 2, 1) := by decide +kernel
theorem dX8_ask_35 : decode cX8_ask 35 = .ok (.iload_n 2, 1) := by decide +kernel
theorem dX8_ask_36 : decode cX8_ask 36 = .ok (.bipush (-6), 2) := by decide +kernel
theorem dX8_ask_38 : decode cX8_ask 38 = .ok (.if_icmp .eq 7, 3) := by decide +kernel
theorem dX8_ask_41 : decode cX8_ask 41 = .ok (.iload_n 1, 1) := by decide +kernel
theorem dX8_ask_42 : decode cX8_ask 42 = .ok (.ifCond .ne 7, 3) := by decide +kernel
theorem dX8_ask_45 : decode cX8_ask 45 = .ok (.iload_n 2, 1) := by decide +kernel
theorem dX8_ask_46 : decode cX8_ask 46 = .ok (.goto 19, 3) := by decide +kernel
theorem dX8_ask_49 : decode cX8_ask 49 = .ok (.aload_n 0, 1) := by decide +kernel
theorem dX8_ask_50 : decode cX8_ask 50 = .ok (.getfield 47, 3) := by decide +kernel
theorem dX8_ask_53 : decode cX8_ask 53 = .ok (.aload_n 0, 1) := by decide +kernel
theorem dX8_ask_54 : decode cX8_ask 54 = .ok (.getfield 10, 3) := by decide +kernel
theorem dX8_ask_57 : decode cX8_ask 57 = .ok (.getfield 93, 3) := by decide +kernel
theorem dX8_ask_60 : decode cX8_ask 60 = .ok (.iload_n 2, 1) := by decide +kernel
theorem dX8_ask_61 : decode cX8_ask 61 = .ok (.iaload, 1) := by decide +kernel
theorem dX8_ask_62 : decode cX8_ask 62 = .ok (.invokevirtual 223, 3) := by decide +kernel
theorem dX8_ask_65 : decode cX8_ask 65 = .ok (.ireturn, 1) := by decide +kernel
theorem dX8_play_0 : decode cX8_play 0 = .ok (.iload_n 1, 1) := by decide +kernel
theorem dX8_play_1 : decode cX8_play 1 = .ok (.invokestatic 119, 3) := by decide +kernel
theorem dX8_play_4 : decode cX8_play 4 = .ok (.ifCond .ne 5, 3) := by decide +kernel
theorem dX8_play_7 : decode cX8_play 7 = .ok (.iconst (-1), 1) := by decide +kernel
theorem dX8_play_8 : decode cX8_play 8 = .ok (.ireturn, 1) := by decide +kernel
theorem dX8_play_9 : decode cX8_play 9 = .ok (.iload_n 2, 1) := by decide +kernel
theorem dX8_play_10 : decode cX8_play 10 = .ok (.iconst 0, 1) := by decide +kernel
theorem dX8_play_11 : decode cX8_play 11 = .ok (.iconst 2, 1) := by decide +kernel
theorem dX8_play_12 : decode cX8_play 12 = .ok (.invokestatic 62, 3) := by decide +kernel
theorem dX8_play_15 : decode cX8_play 15 = .ok (.ifCond .ne 6, 3) := by decide +kernel
theorem dX8_play_18 : decode cX8_play 18 = .ok (.bipush (-2), 2) := by decide +kernel
theorem dX8_play_20 : decode cX8_play 20 = .ok (.ireturn, 1) := by decide +kernel
theorem dX8_play_21 : decode cX8_play 21 = .ok (.aload_n 0, 1) := by decide +kernel
theorem dX8_play_22 : decode cX8_play 22 = .ok (.getfield 54, 3) := by decide +kernel
theorem dX8_play_25 : decode cX8_play 25 = .ok (.aload_n 0, 1) := by decide +kernel
theorem dX8_play_26 : decode cX8_play 26 = .ok (.getfield 10, 3) := by decide +kernel
theorem dX8_play_29 : decode cX8_play 29 = .ok (.getfield 122, 3) := by decide +kernel
theorem dX8_play_32 : decode cX8_play 32 = .ok (.invokevirtual 226, 3) := by decide +kernel
theorem dX8_play_35 : decode cX8_play 35 = .ok (.iload_n 2, 1) := by decide +kernel
theorem dX8_play_36 : decode cX8_play 36 = .ok (.lookupswitch 48 #[(0, 28), (1, 38)], 28) := by decide +kernel
theorem dX8_play_64 : decode cX8_play 64 = .ok (.aload_n 0, 1) := by decide +kernel
theorem dX8_play_65 : decode cX8_play 65 = .ok (.getfield 54, 3) := by decide +kernel
theorem dX8_play_68 : decode cX8_play 68 = .ok (.getfield 230, 3) := by decide +kernel
theorem dX8_play_71 : decode cX8_play 71 = .ok (.iload_n 1, 1) := by decide +kernel
theorem dX8_play_72 : decode cX8_play 72 = .ok (.iaload, 1) := by decide +kernel
theorem dX8_play_73 : decode cX8_play 73 = .ok (.ireturn, 1) := by decide +kernel
theorem dX8_play_74 : decode cX8_play 74 = .ok (.aload_n 0, 1) := by decide +kernel
theorem dX8_play_75 : decode cX8_play 75 = .ok (.getfield 54, 3) := by decide +kernel
theorem dX8_play_78 : decode cX8_play 78 = .ok (.getfield 233, 3) := by decide +kernel
theorem dX8_play_81 : decode cX8_play 81 = .ok (.iload_n 1, 1) := by decide +kernel
theorem dX8_play_82 : decode cX8_play 82 = .ok (.iaload, 1) := by decide +kernel
theorem dX8_play_83 : decode cX8_play 83 = .ok (.ireturn, 1) := by decide +kernel
theorem dX8_play_84 : decode cX8_play 84 = .ok (.aload_n 0, 1) := by decide +kernel
theorem dX8_play_85 : decode cX8_play 85 = .ok (.getfield 54, 3) := by decide +kernel
theorem dX8_play_88 : decode cX8_play 88 = .ok (.aload_n 0, 1) := by decide +kernel
theorem dX8_play_89 : decode cX8_play 89 = .ok (.getfield 10, 3) := by decide +kernel
theorem dX8_play_92 : decode cX8_play 92 = .ok (.getfield 122, 3) := by decide +kernel
theorem dX8_play_95 : decode cX8_play 95 = .ok (.iload_n 1, 1) := by decide +kernel
theorem dX8_play_96 : decode cX8_play 96 = .ok (.invokevirtual 236, 3) := by decide +kernel
theorem dX8_play_99 : decode cX8_play 99 = .ok (.ireturn, 1) := by decide +kernel
theorem dX8_themselves_0 : decode cX8_themselves 0 = .ok (.iload_n 1, 1) := by decide +kernel
theorem dX8_themselves_1 : decode cX8_themselves 1 = .ok (.iconst 0, 1) := by decide +kernel
theorem dX8_themselves_2 : decode cX8_themselves 2 = .ok (.bipush 17, 2) := by decide +kernel
theorem dX8_themselves_4 : decode cX8_themselves 4 = .ok (.invokestatic 62, 3) := by decide +kernel
theorem dX8_themselves_7 : decode cX8_themselves 7 = .ok (.ifCond .eq 32, 3) := by decide +kernel
theorem dX8_themselves_10 : decode cX8_themselves 10 = .ok (.iload_n 2, 1) := by decide +kernel
theorem dX8_themselves_11 : decode cX8_themselves 11 = .ok (.iconst 0, 1) := by decide +kernel
theorem dX8_themselves_12 : decode cX8_themselves 12 = .ok (.bipush 10, 2) := by decide +kernel
theorem dX8_themselves_14 : decode cX8_themselves 14 = .ok (.invokestatic 62, 3) := by decide +kernel
theorem dX8_themselves_17 : decode cX8_themselves 17 = .ok (.ifCond .eq 22, 3) := by decide +kernel
theorem dX8_themselves_20 : decode cX8_themselves 20 = .ok (.iload_n 3, 1) := by decide +kernel
theorem dX8_themselves_21 : decode cX8_themselves 21 = .ok (.iconst 0, 1) := by decide +kernel
theorem dX8_themselves_22 : decode cX8_themselves 22 = .ok (.iload_n 1, 1) := by decide +kernel
theorem dX8_themselves_23 : decode cX8_themselves 23 = .ok (.invokestatic 62, 3) := by decide +kernel
theorem dX8_themselves_26 : decode cX8_themselves 26 = .ok (.ifCond .eq 13, 3) := by decide +kernel
theorem dX8_themselves_29 : decode cX8_themselves 29 = .ok (.iload 4, 2) := by decide +kernel
theorem dX8_themselves_31 : decode cX8_themselves 31 = .ok (.iconst 0, 1) := by decide +kernel
theorem dX8_themselves_32 : decode cX8_themselves 32 = .ok (.iconst 1, 1) := by decide +kernel
theorem dX8_themselves_33 : decode cX8_themselves 33 = .ok (.invokestatic 62, 3) := by decide +kernel
theorem dX8_themselves_36 : decode cX8_themselves 36 = .ok (.ifCond .ne 7, 3) := by decide +kernel
theorem dX8_themselves_39 : decode cX8_themselves 39 = .ok (.ldc2_w 240, 3) := by decide +kernel
theorem dX8_themselves_42 : decode cX8_themselves 42 = .ok (.lreturn, 1) := by decide +kernel
theorem dX8_themselves_43 : decode cX8_themselves 43 = .ok (.iload_n 1, 1) := by decide +kernel
theorem dX8_themselves_44 : decode cX8_themselves 44 = .ok (.iload_n 3, 1) := by decide +kernel
theorem dX8_themselves_45 : decode cX8_themselves 45 = .ok (.invokestatic 242, 3) := by decide +kernel
theorem dX8_themselves_48 : decode cX8_themselves 48 = .ok (.iload_n 2, 1) := by decide +kernel
theorem dX8_themselves_49 : decode cX8_themselves 49 = .ok (.i2l, 1) := by decide +kernel
theorem dX8_themselves_50 : decode cX8_themselves 50 = .ok (.iload_n 3, 1) := by decide +kernel
theorem dX8_themselves_51 : decode cX8_themselves 51 = .ok (.invokestatic 246, 3) := by decide +kernel
theorem dX8_themselves_54 : decode cX8_themselves 54 = .ok (.lmul, 1) := by decide +kernel
theorem dX8_themselves_55 : decode cX8_themselves 55 = .ok (.bipush 10, 2) := by decide +kernel
theorem dX8_themselves_57 : decode cX8_themselves 57 = .ok (.iload_n 2, 1) := by decide +kernel
theorem dX8_themselves_58 : decode cX8_themselves 58 = .ok (.isub, 1) := by decide +kernel
theorem dX8_themselves_59 : decode cX8_themselves 59 = .ok (.i2l, 1) := by decide +kernel
theorem dX8_themselves_60 : decode cX8_themselves 60 = .ok (.iload_n 1, 1) := by decide +kernel
theorem dX8_themselves_61 : decode cX8_themselves 61 = .ok (.iload_n 3, 1) := by decide +kernel
theorem dX8_themselves_62 : decode cX8_themselves 62 = .ok (.isub, 1) := by decide +kernel
theorem dX8_themselves_63 : decode cX8_themselves 63 = .ok (.invokestatic 246, 3) := by decide +kernel
theorem dX8_themselves_66 : decode cX8_themselves 66 = .ok (.lmul, 1) := by decide +kernel
theorem dX8_themselves_67 : decode cX8_themselves 67 = .ok (.lstore 5, 2) := by decide +kernel
theorem dX8_themselves_69 : decode cX8_themselves 69 = .ok (.ldc2_w 250, 3) := by decide +kernel
theorem dX8_themselves_72 : decode cX8_themselves 72 = .ok (.iload_n 1, 1) := by decide +kernel
theorem dX8_themselves_73 : decode cX8_themselves 73 = .ok (.invokestatic 246, 3) := by decide +kernel
theorem dX8_themselves_76 : decode cX8_themselves 76 = .ok (.lstore 7, 2) := by decide +kernel
theorem dX8_themselves_78 : decode cX8_themselves 78 = .ok (.iconst 0, 1) := by decide +kernel
theorem dX8_themselves_79 : decode cX8_themselves 79 = .ok (.istore 9, 2) := by decide +kernel
theorem dX8_themselves_81 : decode cX8_themselves 81 = .ok (.iload 9, 2) := by decide +kernel
theorem dX8_themselves_83 : decode cX8_themselves 83 = .ok (.iload_n 1, 1) := by decide +kernel
theorem dX8_themselves_84 : decode cX8_themselves 84 = .ok (.if_icmp .ge 85, 3) := by decide +kernel
theorem dX8_themselves_87 : decode cX8_themselves 87 = .ok (.lload 5, 2) := by decide +kernel
theorem dX8_themselves_89 : decode cX8_themselves 89 = .ok (.ldc2_w 252, 3) := by decide +kernel
theorem dX8_themselves_92 : decode cX8_themselves 92 = .ok (.lrem, 1) := by decide +kernel
theorem dX8_themselves_93 : decode cX8_themselves 93 = .ok (.lconst 0, 1) := by decide +kernel
theorem dX8_themselves_94 : decode cX8_themselves 94 = .ok (.lcmp, 1) := by decide +kernel
theorem dX8_themselves_95 : decode cX8_themselves 95 = .ok (.ifCond .ne 30, 3) := by decide +kernel
theorem dX8_themselves_98 : decode cX8_themselves 98 = .ok (.lload 7, 2) := by decide +kernel
theorem dX8_themselves_100 : decode cX8_themselves 100 = .ok (.ldc2_w 252, 3) := by decide +kernel
theorem dX8_themselves_103 : decode cX8_themselves 103 = .ok (.lrem, 1) := by decide +kernel
theorem dX8_themselves_104 : decode cX8_themselves 104 = .ok (.lconst 0, 1) := by decide +kernel
theorem dX8_themselves_105 : decode cX8_themselves 105 = .ok (.lcmp, 1) := by decide +kernel
theorem dX8_themselves_106 : decode cX8_themselves 106 = .ok (.ifCond .ne 19, 3) := by decide +kernel
theorem dX8_themselves_109 : decode cX8_themselves 109 = .ok (.lload 5, 2) := by decide +kernel
theorem dX8_themselves_111 : decode cX8_themselves 111 = .ok (.ldc2_w 252, 3) := by decide +kernel
theorem dX8_themselves_114 : decode cX8_themselves 114 = .ok (.ldiv, 1) := by decide +kernel
theorem dX8_themselves_115 : decode cX8_themselves 115 = .ok (.lstore 5, 2) := by decide +kernel
theorem dX8_themselves_117 : decode cX8_themselves 117 = .ok (.lload 7, 2) := by decide +kernel
theorem dX8_themselves_119 : decode cX8_themselves 119 = .ok (.ldc2_w 252, 3) := by decide +kernel
theorem dX8_themselves_122 : decode cX8_themselves 122 = .ok (.ldiv, 1) := by decide +kernel
theorem dX8_themselves_123 : decode cX8_themselves 123 = .ok (.lstore 7, 2) := by decide +kernel
theorem dX8_themselves_125 : decode cX8_themselves 125 = .ok (.lload 5, 2) := by decide +kernel
theorem dX8_themselves_127 : decode cX8_themselves 127 = .ok (.ldc2_w 254, 3) := by decide +kernel
theorem dX8_themselves_130 : decode cX8_themselves 130 = .ok (.lrem, 1) := by decide +kernel
theorem dX8_themselves_131 : decode cX8_themselves 131 = .ok (.lconst 0, 1) := by decide +kernel
theorem dX8_themselves_132 : decode cX8_themselves 132 = .ok (.lcmp, 1) := by decide +kernel
theorem dX8_themselves_133 : decode cX8_themselves 133 = .ok (.ifCond .ne 30, 3) := by decide +kernel
theorem dX8_themselves_136 : decode cX8_themselves 136 = .ok (.lload 7, 2) := by decide +kernel
theorem dX8_themselves_138 : decode cX8_themselves 138 = .ok (.ldc2_w 254, 3) := by decide +kernel
theorem dX8_themselves_141 : decode cX8_themselves 141 = .ok (.lrem, 1) := by decide +kernel
theorem dX8_themselves_142 : decode cX8_themselves 142 = .ok (.lconst 0, 1) := by decide +kernel
theorem dX8_themselves_143 : decode cX8_themselves 143 = .ok (.lcmp, 1) := by decide +kernel
theorem dX8_themselves_144 : decode cX8_themselves 144 = .ok (.ifCond .ne 19, 3) := by decide +kernel
theorem dX8_themselves_147 : decode cX8_themselves 147 = .ok (.lload 5, 2) := by decide +kernel
theorem dX8_themselves_149 : decode cX8_themselves 149 = .ok (.ldc2_w 254, 3) := by decide +kernel
theorem dX8_themselves_152 : decode cX8_themselves 152 = .ok (.ldiv, 1) := by decide +kernel
theorem dX8_themselves_153 : decode cX8_themselves 153 = .ok (.lstore 5, 2) := by decide +kernel
theorem dX8_themselves_155 : decode cX8_themselves 155 = .ok (.lload 7, 2) := by decide +kernel
theorem dX8_themselves_157 : decode cX8_themselves 157 = .ok (.ldc2_w 254, 3) := by decide +kernel
theorem dX8_themselves_160 : decode cX8_themselves 160 = .ok (.ldiv, 1) := by decide +kernel
theorem dX8_themselves_161 : decode cX8_themselves 161 = .ok (.lstore 7, 2) := by decide +kernel
theorem dX8_themselves_163 : decode cX8_themselves 163 = .ok (.iinc 9 1, 3) := by decide +kernel
theorem dX8_themselves_166 : decode cX8_themselves 166 = .ok (.goto (-85), 3) := by decide +kernel
theorem dX8_themselves_169 : decode cX8_themselves 169 = .ok (.iload 4, 2) := by decide +kernel
theorem dX8_themselves_171 : decode cX8_themselves 171 = .ok (.ifCond .ne 8, 3) := by decide +kernel
theorem dX8_themselves_174 : decode cX8_themselves 174 = .ok (.lload 5, 2) := by decide +kernel
theorem dX8_themselves_176 : decode cX8_themselves 176 = .ok (.goto 5, 3) := by decide +kernel
theorem dX8_themselves_179 : decode cX8_themselves 179 = .ok (.lload 7, 2) := by decide +kernel
theorem dX8_themselves_181 : decode cX8_themselves 181 = .ok (.lreturn, 1) := by decide +kernel
theorem dX8_year_0 : decode cX8_year 0 = .ok (.iload_n 1, 1) := by decide +kernel
theorem dX8_year_1 : decode cX8_year 1 = .ok (.iconst 0, 1) := by decide +kernel
theorem dX8_year_2 : decode cX8_year 2 = .ok (.sipush 9999, 3) := by decide +kernel
theorem dX8_year_5 : decode cX8_year 5 = .ok (.invokestatic 62, 3) := by decide +kernel
theorem dX8_year_8 : decode cX8_year 8 = .ok (.ifCond .eq 22, 3) := by decide +kernel
theorem dX8_year_11 : decode cX8_year 11 = .ok (.iload_n 2, 1) := by decide +kernel
theorem dX8_year_12 : decode cX8_year 12 = .ok (.iconst 1, 1) := by decide +kernel
theorem dX8_year_13 : decode cX8_year 13 = .ok (.bipush 99, 2) := by decide +kernel
theorem dX8_year_15 : decode cX8_year 15 = .ok (.invokestatic 62, 3) := by decide +kernel
theorem dX8_year_18 : decode cX8_year 18 = .ok (.ifCond .eq 12, 3) := by decide +kernel
theorem dX8_year_21 : decode cX8_year 21 = .ok (.iload_n 3, 1) := by decide +kernel
theorem dX8_year_22 : decode cX8_year 22 = .ok (.iconst 0, 1) := by decide +kernel
theorem dX8_year_23 : decode cX8_year 23 = .ok (.iconst 2, 1) := by decide +kernel
theorem dX8_year_24 : decode cX8_year 24 = .ok (.invokestatic 62, 3) := by decide +kernel
theorem dX8_year_27 : decode cX8_year 27 = .ok (.ifCond .ne 6, 3) := by decide +kernel
theorem dX8_year_30 : decode cX8_year 30 = .ok (.bipush (-2), 2) := by decide +kernel
theorem dX8_year_32 : decode cX8_year 32 = .ok (.ireturn, 1) := by decide +kernel
theorem dX8_year_33 : decode cX8_year 33 = .ok (.aload_n 0, 1) := by decide +kernel
theorem dX8_year_34 : decode cX8_year 34 = .ok (.getfield 26, 3) := by decide +kernel
theorem dX8_year_37 : decode cX8_year 37 = .ok (.iload_n 1, 1) := by decide +kernel
theorem dX8_year_38 : decode cX8_year 38 = .ok (.iload_n 2, 1) := by decide +kernel
theorem dX8_year_39 : decode cX8_year 39 = .ok (.aload_n 0, 1) := by decide +kernel
theorem dX8_year_40 : decode cX8_year 40 = .ok (.getfield 10, 3) := by decide +kernel
theorem dX8_year_43 : decode cX8_year 43 = .ok (.invokevirtual 256, 3) := by decide +kernel
theorem dX8_year_46 : decode cX8_year 46 = .ok (.aload_n 0, 1) := by decide +kernel
theorem dX8_year_47 : decode cX8_year 47 = .ok (.getfield 26, 3) := by decide +kernel
theorem dX8_year_50 : decode cX8_year 50 = .ok (.getfield 151, 3) := by decide +kernel
theorem dX8_year_53 : decode cX8_year 53 = .ok (.invokevirtual 77, 3) := by decide +kernel
theorem dX8_year_56 : decode cX8_year 56 = .ok (.istore 4, 2) := by decide +kernel
theorem dX8_year_58 : decode cX8_year 58 = .ok (.iload_n 3, 1) := by decide +kernel
theorem dX8_year_59 : decode cX8_year 59 = .ok (.lookupswitch 42 #[(0, 25), (1, 31)], 25) := by decide +kernel
theorem dX8_year_84 : decode cX8_year 84 = .ok (.iload 4, 2) := by decide +kernel
theorem dX8_year_86 : decode cX8_year 86 = .ok (.invokestatic 81, 3) := by decide +kernel
theorem dX8_year_89 : decode cX8_year 89 = .ok (.ireturn, 1) := by decide +kernel
theorem dX8_year_90 : decode cX8_year 90 = .ok (.aload_n 0, 1) := by decide +kernel
theorem dX8_year_91 : decode cX8_year 91 = .ok (.getfield 26, 3) := by decide +kernel
theorem dX8_year_94 : decode cX8_year 94 = .ok (.getfield 151, 3) := by decide +kernel
theorem dX8_year_97 : decode cX8_year 97 = .ok (.getfield 102, 3) := by decide +kernel
theorem dX8_year_100 : decode cX8_year 100 = .ok (.ireturn, 1) := by decide +kernel
theorem dX8_year_101 : decode cX8_year 101 = .ok (.aload_n 0, 1) := by decide +kernel
theorem dX8_year_102 : decode cX8_year 102 = .ok (.getfield 26, 3) := by decide +kernel
theorem dX8_year_105 : decode cX8_year 105 = .ok (.getfield 151, 3) := by decide +kernel
theorem dX8_year_108 : decode cX8_year 108 = .ok (.iload 4, 2) := by decide +kernel
theorem dX8_year_110 : decode cX8_year 110 = .ok (.invokevirtual 197, 3) := by decide +kernel
theorem dX8_year_113 : decode cX8_year 113 = .ok (.ireturn, 1) := by decide +kernel
theorem dX8_image_0 : decode cX8_image 0 = .ok (.iload_n 1, 1) := by decide +kernel
theorem dX8_image_1 : decode cX8_image 1 = .ok (.iconst 0, 1) := by decide +kernel
theorem dX8_image_2 : decode cX8_image 2 = .ok (.iconst 1, 1) := by decide +kernel
theorem dX8_image_3 : decode cX8_image 3 = .ok (.invokestatic 62, 3) := by decide +kernel
theorem dX8_image_6 : decode cX8_image 6 = .ok (.ifCond .ne 6, 3) := by decide +kernel
theorem dX8_image_9 : decode cX8_image 9 = .ok (.bipush (-2), 2) := by decide +kernel
theorem dX8_image_11 : decode cX8_image 11 = .ok (.ireturn, 1) := by decide +kernel
theorem dX8_image_12 : decode cX8_image 12 = .ok (.aload_n 0, 1) := by decide +kernel
theorem dX8_image_13 : decode cX8_image 13 = .ok (.getfield 58, 3) := by decide +kernel
theorem dX8_image_16 : decode cX8_image 16 = .ok (.iload_n 1, 1) := by decide +kernel
theorem dX8_image_17 : decode cX8_image 17 = .ok (.aaload, 1) := by decide +kernel
theorem dX8_image_18 : decode cX8_image 18 = .ok (.ifnonnull 16, 3) := by decide +kernel
theorem dX8_image_21 : decode cX8_image 21 = .ok (.aload_n 0, 1) := by decide +kernel
theorem dX8_image_22 : decode cX8_image 22 = .ok (.getfield 58, 3) := by decide +kernel
theorem dX8_image_25 : decode cX8_image 25 = .ok (.iload_n 1, 1) := by decide +kernel
theorem dX8_image_26 : decode cX8_image 26 = .ok (.new 7, 3) := by decide +kernel
theorem dX8_image_29 : decode cX8_image 29 = .ok (.dup, 1) := by decide +kernel
theorem dX8_image_30 : decode cX8_image 30 = .ok (.invokespecial 9, 3) := by decide +kernel
theorem dX8_image_33 : decode cX8_image 33 = .ok (.aastore, 1) := by decide +kernel
theorem dX8_image_34 : decode cX8_image 34 = .ok (.aload_n 0, 1) := by decide +kernel
theorem dX8_image_35 : decode cX8_image 35 = .ok (.getfield 58, 3) := by decide +kernel
theorem dX8_image_38 : decode cX8_image 38 = .ok (.iload_n 1, 1) := by decide +kernel
theorem dX8_image_39 : decode cX8_image 39 = .ok (.aaload, 1) := by decide +kernel
theorem dX8_image_40 : decode cX8_image 40 = .ok (.aload_n 0, 1) := by decide +kernel
theorem dX8_image_41 : decode cX8_image 41 = .ok (.getfield 10, 3) := by decide +kernel
theorem dX8_image_44 : decode cX8_image 44 = .ok (.invokevirtual 154, 3) := by decide +kernel
theorem dX8_image_47 : decode cX8_image 47 = .ok (.iconst 1, 1) := by decide +kernel
theorem dX8_image_48 : decode cX8_image 48 = .ok (.ireturn, 1) := by decide +kernel
theorem dX8_restore_0 : decode cX8_restore 0 = .ok (.iload_n 1, 1) := by decide +kernel
theorem dX8_restore_1 : decode cX8_restore 1 = .ok (.iconst 0, 1) := by decide +kernel
theorem dX8_restore_2 : decode cX8_restore 2 = .ok (.iconst 1, 1) := by decide +kernel
theorem dX8_restore_3 : decode cX8_restore 3 = .ok (.invokestatic 62, 3) := by decide +kernel
theorem dX8_restore_6 : decode cX8_restore 6 = .ok (.ifCond .ne 6, 3) := by decide +kernel
theorem dX8_restore_9 : decode cX8_restore 9 = .ok (.bipush (-2), 2) := by decide +kernel
theorem dX8_restore_11 : decode cX8_restore 11 = .ok (.ireturn, 1) := by decide +kernel
theorem dX8_restore_12 : decode cX8_restore 12 = .ok (.aload_n 0, 1) := by decide +kernel
theorem dX8_restore_13 : decode cX8_restore 13 = .ok (.getfield 58, 3) := by decide +kernel
theorem dX8_restore_16 : decode cX8_restore 16 = .ok (.iload_n 1, 1) := by decide +kernel
theorem dX8_restore_17 : decode cX8_restore 17 = .ok (.aaload, 1) := by decide +kernel
theorem dX8_restore_18 : decode cX8_restore 18 = .ok (.ifnonnull 6, 3) := by decide +kernel
theorem dX8_restore_21 : decode cX8_restore 21 = .ok (.bipush (-3), 2) := by decide +kernel
theorem dX8_restore_23 : decode cX8_restore 23 = .ok (.ireturn, 1) := by decide +kernel
theorem dX8_restore_24 : decode cX8_restore 24 = .ok (.aload_n 0, 1) := by decide +kernel
theorem dX8_restore_25 : decode cX8_restore 25 = .ok (.getfield 10, 3) := by decide +kernel
theorem dX8_restore_28 : decode cX8_restore 28 = .ok (.aload_n 0, 1) := by decide +kernel
theorem dX8_restore_29 : decode cX8_restore 29 = .ok (.getfield 58, 3) := by decide +kernel
theorem dX8_restore_32 : decode cX8_restore 32 = .ok (.iload_n 1, 1) := by decide +kernel
theorem dX8_restore_33 : decode cX8_restore 33 = .ok (.aaload, 1) := by decide +kernel
theorem dX8_restore_34 : decode cX8_restore 34 = .ok (.invokevirtual 154, 3) := by decide +kernel
theorem dX8_restore_37 : decode cX8_restore 37 = .ok (.iconst 1, 1) := by decide +kernel
theorem dX8_restore_38 : decode cX8_restore 38 = .ok (.ireturn, 1) := by decide +kernel
theorem dX8_told_0 : decode cX8_told 0 = .ok (.iload_n 1, 1) := by decide +kernel
theorem dX8_told_1 : decode cX8_told 1 = .ok (.bipush 10, 2) := by decide +kernel
theorem dX8_told_3 : decode cX8_told 3 = .ok (.bipush 19, 2) := by decide +kernel
theorem dX8_told_5 : decode cX8_told 5 = .ok (.invokestatic 62, 3) := by decide +kernel
theorem dX8_told_8 : decode cX8_told 8 = .ok (.ifCond .eq 16, 3) := by decide +kernel
theorem dX8_told_11 : decode cX8_told 11 = .ok (.aload_n 0, 1) := by decide +kernel
theorem dX8_told_12 : decode cX8_told 12 = .ok (.getfield 10, 3) := by decide +kernel
theorem dX8_told_15 : decode cX8_told 15 = .ok (.getfield 122, 3) := by decide +kernel
theorem dX8_told_18 : decode cX8_told 18 = .ok (.iload_n 1, 1) := by decide +kernel
theorem dX8_told_19 : decode cX8_told 19 = .ok (.bipush 10, 2) := by decide +kernel
theorem dX8_told_21 : decode cX8_told 21 = .ok (.isub, 1) := by decide +kernel
theorem dX8_told_22 : decode cX8_told 22 = .ok (.iaload, 1) := by decide +kernel
theorem dX8_told_23 : decode cX8_told 23 = .ok (.ireturn, 1) := by decide +kernel
theorem dX8_told_24 : decode cX8_told 24 = .ok (.iload_n 1, 1) := by decide +kernel
theorem dX8_told_25 : decode cX8_told 25 = .ok (.bipush 20, 2) := by decide +kernel
theorem dX8_told_27 : decode cX8_told 27 = .ok (.bipush 27, 2) := by decide +kernel
theorem dX8_told_29 : decode cX8_told 29 = .ok (.invokestatic 62, 3) := by decide +kernel
theorem dX8_told_32 : decode cX8_told 32 = .ok (.ifCond .eq 15, 3) := by decide +kernel
theorem dX8_told_35 : decode cX8_told 35 = .ok (.aload_n 0, 1) := by decide +kernel
theorem dX8_told_36 : decode cX8_told 36 = .ok (.getfield 10, 3) := by decide +kernel
theorem dX8_told_39 : decode cX8_told 39 = .ok (.iload_n 1, 1) := by decide +kernel
theorem dX8_told_40 : decode cX8_told 40 = .ok (.bipush 20, 2) := by decide +kernel
theorem dX8_told_42 : decode cX8_told 42 = .ok (.isub, 1) := by decide +kernel
theorem dX8_told_43 : decode cX8_told 43 = .ok (.invokevirtual 110, 3) := by decide +kernel
theorem dX8_told_46 : decode cX8_told 46 = .ok (.ireturn, 1) := by decide +kernel
theorem dX8_told_47 : decode cX8_told 47 = .ok (.iload_n 1, 1) := by decide +kernel
theorem dX8_told_48 : decode cX8_told 48 = .ok (.bipush 30, 2) := by decide +kernel
theorem dX8_told_50 : decode cX8_told 50 = .ok (.bipush 35, 2) := by decide +kernel
theorem dX8_told_52 : decode cX8_told 52 = .ok (.invokestatic 62, 3) := by decide +kernel
theorem dX8_told_55 : decode cX8_told 55 = .ok (.ifCond .eq 15, 3) := by decide +kernel
theorem dX8_told_58 : decode cX8_told 58 = .ok (.aload_n 0, 1) := by decide +kernel
theorem dX8_told_59 : decode cX8_told 59 = .ok (.getfield 10, 3) := by decide +kernel
theorem dX8_told_62 : decode cX8_told 62 = .ok (.iload_n 1, 1) := by decide +kernel
theorem dX8_told_63 : decode cX8_told 63 = .ok (.bipush 30, 2) := by decide +kernel
theorem dX8_told_65 : decode cX8_told 65 = .ok (.isub, 1) := by decide +kernel
theorem dX8_told_66 : decode cX8_told 66 = .ok (.invokevirtual 90, 3) := by decide +kernel
theorem dX8_told_69 : decode cX8_told 69 = .ok (.ireturn, 1) := by decide +kernel
theorem dX8_told_70 : decode cX8_told 70 = .ok (.iload_n 1, 1) := by decide +kernel
theorem dX8_told_71 : decode cX8_told 71 = .ok (.bipush 100, 2) := by decide +kernel
theorem dX8_told_73 : decode cX8_told 73 = .ok (.if_icmp .lt 22, 3) := by decide +kernel
theorem dX8_told_76 : decode cX8_told 76 = .ok (.aload_n 0, 1) := by decide +kernel
theorem dX8_told_77 : decode cX8_told 77 = .ok (.iload_n 1, 1) := by decide +kernel
theorem dX8_told_78 : decode cX8_told 78 = .ok (.bipush 100, 2) := by decide +kernel
theorem dX8_told_80 : decode cX8_told 80 = .ok (.isub, 1) := by decide +kernel
theorem dX8_told_81 : decode cX8_told 81 = .ok (.bipush 10, 2) := by decide +kernel
theorem dX8_told_83 : decode cX8_told 83 = .ok (.idiv, 1) := by decide +kernel
theorem dX8_told_84 : decode cX8_told 84 = .ok (.iload_n 1, 1) := by decide +kernel
theorem dX8_told_85 : decode cX8_told 85 = .ok (.bipush 100, 2) := by decide +kernel
theorem dX8_told_87 : decode cX8_told 87 = .ok (.isub, 1) := by decide +kernel
theorem dX8_told_88 : decode cX8_told 88 = .ok (.bipush 10, 2) := by decide +kernel
theorem dX8_told_90 : decode cX8_told 90 = .ok (.irem, 1) := by decide +kernel
theorem dX8_told_91 : decode cX8_told 91 = .ok (.invokevirtual 260, 3) := by decide +kernel
theorem dX8_told_94 : decode cX8_told 94 = .ok (.ireturn, 1) := by decide +kernel
theorem dX8_told_95 : decode cX8_told 95 = .ok (.iload_n 1, 1) := by decide +kernel
theorem dX8_told_96 : decode cX8_told 96 = .ok (.tableswitch 76 0 4 #[36, 44, 52, 60, 68], 36) := by decide +kernel
theorem dX8_told_132 : decode cX8_told 132 = .ok (.aload_n 0, 1) := by decide +kernel
theorem dX8_told_133 : decode cX8_told 133 = .ok (.getfield 19, 3) := by decide +kernel
theorem dX8_told_136 : decode cX8_told 136 = .ok (.getfield 131, 3) := by decide +kernel
theorem dX8_told_139 : decode cX8_told 139 = .ok (.ireturn, 1) := by decide +kernel
theorem dX8_told_140 : decode cX8_told 140 = .ok (.aload_n 0, 1) := by decide +kernel
theorem dX8_told_141 : decode cX8_told 141 = .ok (.getfield 10, 3) := by decide +kernel
theorem dX8_told_144 : decode cX8_told 144 = .ok (.invokevirtual 77, 3) := by decide +kernel
theorem dX8_told_147 : decode cX8_told 147 = .ok (.ireturn, 1) := by decide +kernel
theorem dX8_told_148 : decode cX8_told 148 = .ok (.aload_n 0, 1) := by decide +kernel
theorem dX8_told_149 : decode cX8_told 149 = .ok (.getfield 10, 3) := by decide +kernel
theorem dX8_told_152 : decode cX8_told 152 = .ok (.getfield 102, 3) := by decide +kernel
theorem dX8_told_155 : decode cX8_told 155 = .ok (.ireturn, 1) := by decide +kernel
theorem dX8_told_156 : decode cX8_told 156 = .ok (.aload_n 0, 1) := by decide +kernel
theorem dX8_told_157 : decode cX8_told 157 = .ok (.getfield 10, 3) := by decide +kernel
theorem dX8_told_160 : decode cX8_told 160 = .ok (.getfield 165, 3) := by decide +kernel
theorem dX8_told_163 : decode cX8_told 163 = .ok (.ireturn, 1) := by decide +kernel
theorem dX8_told_164 : decode cX8_told 164 = .ok (.aload_n 0, 1) := by decide +kernel
theorem dX8_told_165 : decode cX8_told 165 = .ok (.getfield 10, 3) := by decide +kernel
theorem dX8_told_168 : decode cX8_told 168 = .ok (.getfield 210, 3) := by decide +kernel
theorem dX8_told_171 : decode cX8_told 171 = .ok (.ireturn, 1) := by decide +kernel
theorem dX8_told_172 : decode cX8_told 172 = .ok (.bipush (-2), 2) := by decide +kernel
theorem dX8_told_174 : decode cX8_told 174 = .ok (.ireturn, 1) := by decide +kernel
theorem dX8_toldOfGrief_0 : decode cX8_toldOfGrief 0 = .ok (.aload_n 0, 1) := by decide +kernel
theorem dX8_toldOfGrief_1 : decode cX8_toldOfGrief 1 = .ok (.getfield 10, 3) := by decide +kernel
theorem dX8_toldOfGrief_4 : decode cX8_toldOfGrief 4 = .ok (.iload_n 1, 1) := by decide +kernel
theorem dX8_toldOfGrief_5 : decode cX8_toldOfGrief 5 = .ok (.invokevirtual 158, 3) := by decide +kernel
theorem dX8_toldOfGrief_8 : decode cX8_toldOfGrief 8 = .ok (.ifCond .eq 24, 3) := by decide +kernel
theorem dX8_toldOfGrief_11 : decode cX8_toldOfGrief 11 = .ok (.iload_n 2, 1) := by decide +kernel
theorem dX8_toldOfGrief_12 : decode cX8_toldOfGrief 12 = .ok (.iconst 0, 1) := by decide +kernel
theorem dX8_toldOfGrief_13 : decode cX8_toldOfGrief 13 = .ok (.iconst 1, 1) := by decide +kernel
theorem dX8_toldOfGrief_14 : decode cX8_toldOfGrief 14 = .ok (.invokestatic 62, 3) := by decide +kernel
theorem dX8_toldOfGrief_17 : decode cX8_toldOfGrief 17 = .ok (.ifCond .eq 15, 3) := by decide +kernel
theorem dX8_toldOfGrief_20 : decode cX8_toldOfGrief 20 = .ok (.aload_n 0, 1) := by decide +kernel
theorem dX8_toldOfGrief_21 : decode cX8_toldOfGrief 21 = .ok (.getfield 10, 3) := by decide +kernel
theorem dX8_toldOfGrief_24 : decode cX8_toldOfGrief 24 = .ok (.iload_n 1, 1) := by decide +kernel
theorem dX8_toldOfGrief_25 : decode cX8_toldOfGrief 25 = .ok (.iload_n 2, 1) := by decide +kernel
theorem dX8_toldOfGrief_26 : decode cX8_toldOfGrief 26 = .ok (.invokevirtual 161, 3) := by decide +kernel
theorem dX8_toldOfGrief_29 : decode cX8_toldOfGrief 29 = .ok (.goto 5, 3) := by decide +kernel
theorem dX8_toldOfGrief_32 : decode cX8_toldOfGrief 32 = .ok (.bipush (-2), 2) := by decide +kernel
theorem dX8_toldOfGrief_34 : decode cX8_toldOfGrief 34 = .ok (.ireturn, 1) := by decide +kernel
theorem dX8_tryDays_0 : decode cX8_tryDays 0 = .ok (.aload_n 0, 1) := by decide +kernel
theorem dX8_tryDays_1 : decode cX8_tryDays 1 = .ok (.getfield 19, 3) := by decide +kernel
theorem dX8_tryDays_4 : decode cX8_tryDays 4 = .ok (.invokevirtual 134, 3) := by decide +kernel
theorem dX8_tryDays_7 : decode cX8_tryDays 7 = .ok (.bipush (-6), 2) := by decide +kernel
theorem dX8_tryDays_9 : decode cX8_tryDays 9 = .ok (.if_icmp .eq 5, 3) := by decide +kernel
theorem dX8_tryDays_12 : decode cX8_tryDays 12 = .ok (.iconst 0, 1) := by decide +kernel
theorem dX8_tryDays_13 : decode cX8_tryDays 13 = .ok (.ireturn, 1) := by decide +kernel
theorem dX8_tryDays_14 : decode cX8_tryDays 14 = .ok (.aload_n 0, 1) := by decide +kernel
theorem dX8_tryDays_15 : decode cX8_tryDays 15 = .ok (.getfield 26, 3) := by decide +kernel
theorem dX8_tryDays_18 : decode cX8_tryDays 18 = .ok (.aload_n 0, 1) := by decide +kernel
theorem dX8_tryDays_19 : decode cX8_tryDays 19 = .ok (.getfield 19, 3) := by decide +kernel
theorem dX8_tryDays_22 : decode cX8_tryDays 22 = .ok (.aload_n 0, 1) := by decide +kernel
theorem dX8_tryDays_23 : decode cX8_tryDays 23 = .ok (.getfield 10, 3) := by decide +kernel
theorem dX8_tryDays_26 : decode cX8_tryDays 26 = .ok (.invokevirtual 137, 3) := by decide +kernel
theorem dX8_tryDays_29 : decode cX8_tryDays 29 = .ok (.aload_n 0, 1) := by decide +kernel
theorem dX8_tryDays_30 : decode cX8_tryDays 30 = .ok (.getfield 26, 3) := by decide +kernel
theorem dX8_tryDays_33 : decode cX8_tryDays 33 = .ok (.getfield 141, 3) := by decide +kernel
theorem dX8_tryDays_36 : decode cX8_tryDays 36 = .ok (.ifCond .ne 7, 3) := by decide +kernel
theorem dX8_tryDays_39 : decode cX8_tryDays 39 = .ok (.iconst 1, 1) := by decide +kernel
theorem dX8_tryDays_40 : decode cX8_tryDays 40 = .ok (.goto 4, 3) := by decide +kernel
theorem dX8_tryDays_43 : decode cX8_tryDays 43 = .ok (.iconst 0, 1) := by decide +kernel
theorem dX8_tryDays_44 : decode cX8_tryDays 44 = .ok (.ireturn, 1) := by decide +kernel
theorem dX8_isFrom_0 : decode cX8_isFrom 0 = .ok (.iload_n 0, 1) := by decide +kernel
theorem dX8_isFrom_1 : decode cX8_isFrom 1 = .ok (.iload_n 1, 1) := by decide +kernel
theorem dX8_isFrom_2 : decode cX8_isFrom 2 = .ok (.if_icmp .lt 12, 3) := by decide +kernel
theorem dX8_isFrom_5 : decode cX8_isFrom 5 = .ok (.iload_n 0, 1) := by decide +kernel
theorem dX8_isFrom_6 : decode cX8_isFrom 6 = .ok (.iload_n 2, 1) := by decide +kernel
theorem dX8_isFrom_7 : decode cX8_isFrom 7 = .ok (.if_icmp .gt 7, 3) := by decide +kernel
theorem dX8_isFrom_10 : decode cX8_isFrom 10 = .ok (.iconst 1, 1) := by decide +kernel
theorem dX8_isFrom_11 : decode cX8_isFrom 11 = .ok (.goto 4, 3) := by decide +kernel
theorem dX8_isFrom_14 : decode cX8_isFrom 14 = .ok (.iconst 0, 1) := by decide +kernel
theorem dX8_isFrom_15 : decode cX8_isFrom 15 = .ok (.ireturn, 1) := by decide +kernel
theorem dX8_isHold_0 : decode cX8_isHold 0 = .ok (.iload_n 0, 1) := by decide +kernel
theorem dX8_isHold_1 : decode cX8_isHold 1 = .ok (.iconst 0, 1) := by decide +kernel
theorem dX8_isHold_2 : decode cX8_isHold 2 = .ok (.iconst 5, 1) := by decide +kernel
theorem dX8_isHold_3 : decode cX8_isHold 3 = .ok (.invokestatic 62, 3) := by decide +kernel
theorem dX8_isHold_6 : decode cX8_isHold 6 = .ok (.ireturn, 1) := by decide +kernel
theorem dX8_isState_0 : decode cX8_isState 0 = .ok (.iload_n 0, 1) := by decide +kernel
theorem dX8_isState_1 : decode cX8_isState 1 = .ok (.iconst 0, 1) := by decide +kernel
theorem dX8_isState_2 : decode cX8_isState 2 = .ok (.bipush 9, 2) := by decide +kernel
theorem dX8_isState_4 : decode cX8_isState 4 = .ok (.invokestatic 62, 3) := by decide +kernel
theorem dX8_isState_7 : decode cX8_isState 7 = .ok (.ireturn, 1) := by decide +kernel
theorem dX8_isSetOfMarks_0 : decode cX8_isSetOfMarks 0 = .ok (.iload_n 0, 1) := by decide +kernel
theorem dX8_isSetOfMarks_1 : decode cX8_isSetOfMarks 1 = .ok (.iconst 0, 1) := by decide +kernel
theorem dX8_isSetOfMarks_2 : decode cX8_isSetOfMarks 2 = .ok (.sipush 255, 3) := by decide +kernel
theorem dX8_isSetOfMarks_5 : decode cX8_isSetOfMarks 5 = .ok (.invokestatic 62, 3) := by decide +kernel
theorem dX8_isSetOfMarks_8 : decode cX8_isSetOfMarks 8 = .ok (.ireturn, 1) := by decide +kernel
theorem dX8_areHours_0 : decode cX8_areHours 0 = .ok (.iload_n 0, 1) := by decide +kernel
theorem dX8_areHours_1 : decode cX8_areHours 1 = .ok (.iconst 0, 1) := by decide +kernel
theorem dX8_areHours_2 : decode cX8_areHours 2 = .ok (.bipush 23, 2) := by decide +kernel
theorem dX8_areHours_4 : decode cX8_areHours 4 = .ok (.invokestatic 62, 3) := by decide +kernel
theorem dX8_areHours_7 : decode cX8_areHours 7 = .ok (.ifCond .eq 17, 3) := by decide +kernel
theorem dX8_areHours_10 : decode cX8_areHours 10 = .ok (.iload_n 1, 1) := by decide +kernel
theorem dX8_areHours_11 : decode cX8_areHours 11 = .ok (.iload_n 0, 1) := by decide +kernel
theorem dX8_areHours_12 : decode cX8_areHours 12 = .ok (.bipush 23, 2) := by decide +kernel
theorem dX8_areHours_14 : decode cX8_areHours 14 = .ok (.invokestatic 62, 3) := by decide +kernel
theorem dX8_areHours_17 : decode cX8_areHours 17 = .ok (.ifCond .eq 7, 3) := by decide +kernel
theorem dX8_areHours_20 : decode cX8_areHours 20 = .ok (.iconst 1, 1) := by decide +kernel
theorem dX8_areHours_21 : decode cX8_areHours 21 = .ok (.goto 4, 3) := by decide +kernel
theorem dX8_areHours_24 : decode cX8_areHours 24 = .ok (.iconst 0, 1) := by decide +kernel
theorem dX8_areHours_25 : decode cX8_areHours 25 = .ok (.ireturn, 1) := by decide +kernel
theorem dX8_isIn_0 : decode cX8_isIn 0 = .ok (.iload_n 0, 1) := by decide +kernel
theorem dX8_isIn_1 : decode cX8_isIn 1 = .ok (.iload_n 1, 1) := by decide +kernel
theorem dX8_isIn_2 : decode cX8_isIn 2 = .ok (.ishr, 1) := by decide +kernel
theorem dX8_isIn_3 : decode cX8_isIn 3 = .ok (.iconst 1, 1) := by decide +kernel
theorem dX8_isIn_4 : decode cX8_isIn 4 = .ok (.iand, 1) := by decide +kernel
theorem dX8_isIn_5 : decode cX8_isIn 5 = .ok (.iconst 1, 1) := by decide +kernel
theorem dX8_isIn_6 : decode cX8_isIn 6 = .ok (.if_icmp .ne 7, 3) := by decide +kernel
theorem dX8_isIn_9 : decode cX8_isIn 9 = .ok (.iconst 1, 1) := by decide +kernel
theorem dX8_isIn_10 : decode cX8_isIn 10 = .ok (.goto 4, 3) := by decide +kernel
theorem dX8_isIn_13 : decode cX8_isIn 13 = .ok (.iconst 0, 1) := by decide +kernel
theorem dX8_isIn_14 : decode cX8_isIn 14 = .ok (.ireturn, 1) := by decide +kernel
theorem dX8_isWithin_0 : decode cX8_isWithin 0 = .ok (.iload_n 0, 1) := by decide +kernel
theorem dX8_isWithin_1 : decode cX8_isWithin 1 = .ok (.iload_n 1, 1) := by decide +kernel
theorem dX8_isWithin_2 : decode cX8_isWithin 2 = .ok (.iconst (-1), 1) := by decide +kernel
theorem dX8_isWithin_3 : decode cX8_isWithin 3 = .ok (.ixor, 1) := by decide +kernel
theorem dX8_isWithin_4 : decode cX8_isWithin 4 = .ok (.iand, 1) := by decide +kernel
theorem dX8_isWithin_5 : decode cX8_isWithin 5 = .ok (.ifCond .ne 7, 3) := by decide +kernel
theorem dX8_isWithin_8 : decode cX8_isWithin 8 = .ok (.iconst 1, 1) := by decide +kernel
theorem dX8_isWithin_9 : decode cX8_isWithin 9 = .ok (.goto 4, 3) := by decide +kernel
theorem dX8_isWithin_12 : decode cX8_isWithin 12 = .ok (.iconst 0, 1) := by decide +kernel
theorem dX8_isWithin_13 : decode cX8_isWithin 13 = .ok (.ireturn, 1) := by decide +kernel
theorem dX8_hoursFrom_0 : decode cX8_hoursFrom 0 = .ok (.iconst 1, 1) := by decide +kernel
theorem dX8_hoursFrom_1 : decode cX8_hoursFrom 1 = .ok (.iload_n 1, 1) := by decide +kernel
theorem dX8_hoursFrom_2 : decode cX8_hoursFrom 2 = .ok (.iconst 1, 1) := by decide +kernel
theorem dX8_hoursFrom_3 : decode cX8_hoursFrom 3 = .ok (.iadd, 1) := by decide +kernel
theorem dX8_hoursFrom_4 : decode cX8_hoursFrom 4 = .ok (.ishl, 1) := by decide +kernel
theorem dX8_hoursFrom_5 : decode cX8_hoursFrom 5 = .ok (.iconst 1, 1) := by decide +kernel
theorem dX8_hoursFrom_6 : decode cX8_hoursFrom 6 = .ok (.iload_n 0, 1) := by decide +kernel
theorem dX8_hoursFrom_7 : decode cX8_hoursFrom 7 = .ok (.ishl, 1) := by decide +kernel
theorem dX8_hoursFrom_8 : decode cX8_hoursFrom 8 = .ok (.isub, 1) := by decide +kernel
theorem dX8_hoursFrom_9 : decode cX8_hoursFrom 9 = .ok (.ireturn, 1) := by decide +kernel
theorem dX8_choose_0 : decode cX8_choose 0 = .ok (.lconst 1, 1) := by decide +kernel
theorem dX8_choose_1 : decode cX8_choose 1 = .ok (.lstore_n 2, 1) := by decide +kernel
theorem dX8_choose_2 : decode cX8_choose 2 = .ok (.iconst 1, 1) := by decide +kernel
theorem dX8_choose_3 : decode cX8_choose 3 = .ok (.istore 4, 2) := by decide +kernel
theorem dX8_choose_5 : decode cX8_choose 5 = .ok (.iload 4, 2) := by decide +kernel
theorem dX8_choose_7 : decode cX8_choose 7 = .ok (.iload_n 1, 1) := by decide +kernel
theorem dX8_choose_8 : decode cX8_choose 8 = .ok (.if_icmp .gt 23, 3) := by decide +kernel
theorem dX8_choose_11 : decode cX8_choose 11 = .ok (.lload_n 2, 1) := by decide +kernel
theorem dX8_choose_12 : decode cX8_choose 12 = .ok (.iload_n 0, 1) := by decide +kernel
theorem dX8_choose_13 : decode cX8_choose 13 = .ok (.iload_n 1, 1) := by decide +kernel
theorem dX8_choose_14 : decode cX8_choose 14 = .ok (.isub, 1) := by decide +kernel
theorem dX8_choose_15 : decode cX8_choose 15 = .ok (.iload 4, 2) := by decide +kernel
theorem dX8_choose_17 : decode cX8_choose 17 = .ok (.iadd, 1) := by decide +kernel
theorem dX8_choose_18 : decode cX8_choose 18 = .ok (.i2l, 1) := by decide +kernel
theorem dX8_choose_19 : decode cX8_choose 19 = .ok (.lmul, 1) := by decide +kernel
theorem dX8_choose_20 : decode cX8_choose 20 = .ok (.iload 4, 2) := by decide +kernel
theorem dX8_choose_22 : decode cX8_choose 22 = .ok (.i2l, 1) := by decide +kernel
theorem dX8_choose_23 : decode cX8_choose 23 = .ok (.ldiv, 1) := by decide +kernel
theorem dX8_choose_24 : decode cX8_choose 24 = .ok (.lstore_n 2, 1) := by decide +kernel
theorem dX8_choose_25 : decode cX8_choose 25 = .ok (.iinc 4 1, 3) := by decide +kernel
theorem dX8_choose_28 : decode cX8_choose 28 = .ok (.goto (-23), 3) := by decide +kernel
theorem dX8_choose_31 : decode cX8_choose 31 = .ok (.lload_n 2, 1) := by decide +kernel
theorem dX8_choose_32 : decode cX8_choose 32 = .ok (.lreturn, 1) := by decide +kernel
theorem dX8_power_0 : decode cX8_power 0 = .ok (.lconst 1, 1) := by decide +kernel
theorem dX8_power_1 : decode cX8_power 1 = .ok (.lstore_n 3, 1) := by decide +kernel
theorem dX8_power_2 : decode cX8_power 2 = .ok (.iconst 0, 1) := by decide +kernel
theorem dX8_power_3 : decode cX8_power 3 = .ok (.istore 5, 2) := by decide +kernel
theorem dX8_power_5 : decode cX8_power 5 = .ok (.iload 5, 2) := by decide +kernel
theorem dX8_power_7 : decode cX8_power 7 = .ok (.iload_n 2, 1) := by decide +kernel
theorem dX8_power_8 : decode cX8_power 8 = .ok (.if_icmp .ge 13, 3) := by decide +kernel
theorem dX8_power_11 : decode cX8_power 11 = .ok (.lload_n 3, 1) := by decide +kernel
theorem dX8_power_12 : decode cX8_power 12 = .ok (.lload_n 0, 1) := by decide +kernel
theorem dX8_power_13 : decode cX8_power 13 = .ok (.lmul, 1) := by decide +kernel
theorem dX8_power_14 : decode cX8_power 14 = .ok (.lstore_n 3, 1) := by decide +kernel
theorem dX8_power_15 : decode cX8_power 15 = .ok (.iinc 5 1, 3) := by decide +kernel
theorem dX8_power_18 : decode cX8_power 18 = .ok (.goto (-13), 3) := by decide +kernel
theorem dX8_power_21 : decode cX8_power 21 = .ok (.lload_n 3, 1) := by decide +kernel
theorem dX8_power_22 : decode cX8_power 22 = .ok (.lreturn, 1) := by decide +kernel
theorem dX8_copyRow_0 : decode cX8_copyRow 0 = .ok (.aload_n 0, 1) := by decide +kernel
theorem dX8_copyRow_1 : decode cX8_copyRow 1 = .ok (.iconst 0, 1) := by decide +kernel
theorem dX8_copyRow_2 : decode cX8_copyRow 2 = .ok (.aload_n 1, 1) := by decide +kernel
theorem dX8_copyRow_3 : decode cX8_copyRow 3 = .ok (.iconst 0, 1) := by decide +kernel
theorem dX8_copyRow_4 : decode cX8_copyRow 4 = .ok (.aload_n 0, 1) := by decide +kernel
theorem dX8_copyRow_5 : decode cX8_copyRow 5 = .ok (.arraylength, 1) := by decide +kernel
theorem dX8_copyRow_6 : decode cX8_copyRow 6 = .ok (.aload_n 1, 1) := by decide +kernel
theorem dX8_copyRow_7 : decode cX8_copyRow 7 = .ok (.arraylength, 1) := by decide +kernel
theorem dX8_copyRow_8 : decode cX8_copyRow 8 = .ok (.invokestatic 263, 3) := by decide +kernel
theorem dX8_copyRow_11 : decode cX8_copyRow 11 = .ok (.invokestatic 268, 3) := by decide +kernel
theorem dX8_copyRow_14 : decode cX8_copyRow 14 = .ok (.return_, 1) := by decide +kernel
theorem dX9_init_0 : decode cX9_init 0 = .ok (.aload_n 0, 1) := by decide +kernel
theorem dX9_init_1 : decode cX9_init 1 = .ok (.invokespecial 1, 3) := by decide +kernel
theorem dX9_init_4 : decode cX9_init 4 = .ok (.aload_n 0, 1) := by decide +kernel
theorem dX9_init_5 : decode cX9_init 5 = .ok (.bipush 15, 2) := by decide +kernel
theorem dX9_init_7 : decode cX9_init 7 = .ok (.newarray .int, 2) := by decide +kernel
theorem dX9_init_9 : decode cX9_init 9 = .ok (.putfield 7, 3) := by decide +kernel
theorem dX9_init_12 : decode cX9_init 12 = .ok (.aload_n 0, 1) := by decide +kernel
theorem dX9_init_13 : decode cX9_init 13 = .ok (.bipush 15, 2) := by decide +kernel
theorem dX9_init_15 : decode cX9_init 15 = .ok (.newarray .int, 2) := by decide +kernel
theorem dX9_init_17 : decode cX9_init 17 = .ok (.putfield 13, 3) := by decide +kernel
theorem dX9_init_20 : decode cX9_init 20 = .ok (.aload_n 0, 1) := by decide +kernel
theorem dX9_init_21 : decode cX9_init 21 = .ok (.bipush 6, 2) := by decide +kernel
theorem dX9_init_23 : decode cX9_init 23 = .ok (.newarray .int, 2) := by decide +kernel
theorem dX9_init_25 : decode cX9_init 25 = .ok (.putfield 16, 3) := by decide +kernel
theorem dX9_init_28 : decode cX9_init 28 = .ok (.aload_n 0, 1) := by decide +kernel
theorem dX9_init_29 : decode cX9_init 29 = .ok (.bipush 6, 2) := by decide +kernel
theorem dX9_init_31 : decode cX9_init 31 = .ok (.newarray .int, 2) := by decide +kernel
theorem dX9_init_33 : decode cX9_init 33 = .ok (.putfield 19, 3) := by decide +kernel
theorem dX9_init_36 : decode cX9_init 36 = .ok (.aload_n 0, 1) := by decide +kernel
theorem dX9_init_37 : decode cX9_init 37 = .ok (.bipush 6, 2) := by decide +kernel
theorem dX9_init_39 : decode cX9_init 39 = .ok (.newarray .int, 2) := by decide +kernel
theorem dX9_init_41 : decode cX9_init 41 = .ok (.putfield 22, 3) := by decide +kernel
theorem dX9_init_44 : decode cX9_init 44 = .ok (.aload_n 0, 1) := by decide +kernel
theorem dX9_init_45 : decode cX9_init 45 = .ok (.bipush 8, 2) := by decide +kernel
theorem dX9_init_47 : decode cX9_init 47 = .ok (.newarray .int, 2) := by decide +kernel
theorem dX9_init_49 : decode cX9_init 49 = .ok (.putfield 25, 3) := by decide +kernel
theorem dX9_init_52 : decode cX9_init 52 = .ok (.aload_n 0, 1) := by decide +kernel
theorem dX9_init_53 : decode cX9_init 53 = .ok (.bipush 10, 2) := by decide +kernel
theorem dX9_init_55 : decode cX9_init 55 = .ok (.newarray .int, 2) := by decide +kernel
theorem dX9_init_57 : decode cX9_init 57 = .ok (.putfield 28, 3) := by decide +kernel
theorem dX9_init_60 : decode cX9_init 60 = .ok (.aload_n 0, 1) := by decide +kernel
theorem dX9_init_61 : decode cX9_init 61 = .ok (.bipush 16, 2) := by decide +kernel
theorem dX9_init_63 : decode cX9_init 63 = .ok (.newarray .int, 2) := by decide +kernel
theorem dX9_init_65 : decode cX9_init 65 = .ok (.putfield 31, 3) := by decide +kernel
theorem dX9_init_68 : decode cX9_init 68 = .ok (.aload_n 0, 1) := by decide +kernel
theorem dX9_init_69 : decode cX9_init 69 = .ok (.bipush 60, 2) := by decide +kernel
theorem dX9_init_71 : decode cX9_init 71 = .ok (.newarray .int, 2) := by decide +kernel
theorem dX9_init_73 : decode cX9_init 73 = .ok (.putfield 34, 3) := by decide +kernel
theorem dX9_init_76 : decode cX9_init 76 = .ok (.aload_n 0, 1) := by decide +kernel
theorem dX9_init_77 : decode cX9_init 77 = .ok (.bipush 100, 2) := by decide +kernel
theorem dX9_init_79 : decode cX9_init 79 = .ok (.newarray .int, 2) := by decide +kernel
theorem dX9_init_81 : decode cX9_init 81 = .ok (.putfield 37, 3) := by decide +kernel
theorem dX9_init_84 : decode cX9_init 84 = .ok (.aload_n 0, 1) := by decide +kernel
theorem dX9_init_85 : decode cX9_init 85 = .ok (.bipush 6, 2) := by decide +kernel
theorem dX9_init_87 : decode cX9_init 87 = .ok (.newarray .int, 2) := by decide +kernel
theorem dX9_init_89 : decode cX9_init 89 = .ok (.putfield 40, 3) := by decide +kernel
theorem dX9_init_92 : decode cX9_init 92 = .ok (.aload_n 0, 1) := by decide +kernel
theorem dX9_init_93 : decode cX9_init 93 = .ok (.bipush 64, 2) := by decide +kernel
theorem dX9_init_95 : decode cX9_init 95 = .ok (.newarray .int, 2) := by decide +kernel
theorem dX9_init_97 : decode cX9_init 97 = .ok (.putfield 43, 3) := by decide +kernel
theorem dX9_init_100 : decode cX9_init 100 = .ok (.aload_n 0, 1) := by decide +kernel
theorem dX9_init_101 : decode cX9_init 101 = .ok (.bipush 10, 2) := by decide +kernel
theorem dX9_init_103 : decode cX9_init 103 = .ok (.newarray .int, 2) := by decide +kernel
theorem dX9_init_105 : decode cX9_init 105 = .ok (.putfield 46, 3) := by decide +kernel
theorem dX9_init_108 : decode cX9_init 108 = .ok (.aload_n 0, 1) := by decide +kernel
theorem dX9_init_109 : decode cX9_init 109 = .ok (.bipush 10, 2) := by decide +kernel
theorem dX9_init_111 : decode cX9_init 111 = .ok (.newarray .int, 2) := by decide +kernel
theorem dX9_init_113 : decode cX9_init 113 = .ok (.putfield 49, 3) := by decide +kernel
theorem dX9_init_116 : decode cX9_init 116 = .ok (.aload_n 0, 1) := by decide +kernel
theorem dX9_init_117 : decode cX9_init 117 = .ok (.bipush 19, 2) := by decide +kernel
theorem dX9_init_119 : decode cX9_init 119 = .ok (.newarray .long, 2) := by decide +kernel
theorem dX9_init_121 : decode cX9_init 121 = .ok (.putfield 52, 3) := by decide +kernel
theorem dX9_init_124 : decode cX9_init 124 = .ok (.aload_n 0, 1) := by decide +kernel
theorem dX9_init_125 : decode cX9_init 125 = .ok (.sipush 160, 3) := by decide +kernel
theorem dX9_init_128 : decode cX9_init 128 = .ok (.newarray .int, 2) := by decide +kernel
theorem dX9_init_130 : decode cX9_init 130 = .ok (.putfield 56, 3) := by decide +kernel
theorem dX9_init_133 : decode cX9_init 133 = .ok (.aload_n 0, 1) := by decide +kernel
theorem dX9_init_134 : decode cX9_init 134 = .ok (.iconst 2, 1) := by decide +kernel
theorem dX9_init_135 : decode cX9_init 135 = .ok (.newarray .boolean, 2) := by decide +kernel
theorem dX9_init_137 : decode cX9_init 137 = .ok (.putfield 59, 3) := by decide +kernel
theorem dX9_init_140 : decode cX9_init 140 = .ok (.iconst 0, 1) := by decide +kernel
theorem dX9_init_141 : decode cX9_init 141 = .ok (.istore_n 1, 1) := by decide +kernel
theorem dX9_init_142 : decode cX9_init 142 = .ok (.iload_n 1, 1) := by decide +kernel
theorem dX9_init_143 : decode cX9_init 143 = .ok (.bipush 6, 2) := by decide +kernel
theorem dX9_init_145 : decode cX9_init 145 = .ok (.if_icmp .ge 23, 3) := by decide +kernel
theorem dX9_init_148 : decode cX9_init 148 = .ok (.aload_n 0, 1) := by decide +kernel
theorem dX9_init_149 : decode cX9_init 149 = .ok (.getfield 19, 3) := by decide +kernel
theorem dX9_init_152 : decode cX9_init 152 = .ok (.iload_n 1, 1) := by decide +kernel
theorem dX9_init_153 : decode cX9_init 153 = .ok (.iconst 5, 1) := by decide +kernel
theorem dX9_init_154 : decode cX9_init 154 = .ok (.iastore, 1) := by decide +kernel
theorem dX9_init_155 : decode cX9_init 155 = .ok (.aload_n 0, 1) := by decide +kernel
theorem dX9_init_156 : decode cX9_init 156 = .ok (.getfield 22, 3) := by decide +kernel
theorem dX9_init_159 : decode cX9_init 159 = .ok (.iload_n 1, 1) := by decide +kernel
theorem dX9_init_160 : decode cX9_init 160 = .ok (.iconst 2, 1) := by decide +kernel
theorem dX9_init_161 : decode cX9_init 161 = .ok (.iastore, 1) := by decide +kernel
theorem dX9_init_162 : decode cX9_init 162 = .ok (.iinc 1 1, 3) := by decide +kernel
theorem dX9_init_165 : decode cX9_init 165 = .ok (.goto (-23), 3) := by decide +kernel
theorem dX9_init_168 : decode cX9_init 168 = .ok (.aload_n 0, 1) := by decide +kernel
theorem dX9_init_169 : decode cX9_init 169 = .ok (.getfield 7, 3) := by decide +kernel
theorem dX9_init_172 : decode cX9_init 172 = .ok (.bipush 13, 2) := by decide +kernel
theorem dX9_init_174 : decode cX9_init 174 = .ok (.bipush 50, 2) := by decide +kernel
theorem dX9_init_176 : decode cX9_init 176 = .ok (.iastore, 1) := by decide +kernel
theorem dX9_init_177 : decode cX9_init 177 = .ok (.return_, 1) := by decide +kernel
theorem dX9_in_0 : decode cX9_in 0 = .ok (.iload_n 0, 1) := by decide +kernel
theorem dX9_in_1 : decode cX9_in 1 = .ok (.iload_n 1, 1) := by decide +kernel
theorem dX9_in_2 : decode cX9_in 2 = .ok (.if_icmp .lt 12, 3) := by decide +kernel
theorem dX9_in_5 : decode cX9_in 5 = .ok (.iload_n 0, 1) := by decide +kernel
theorem dX9_in_6 : decode cX9_in 6 = .ok (.iload_n 2, 1) := by decide +kernel
theorem dX9_in_7 : decode cX9_in 7 = .ok (.if_icmp .gt 7, 3) := by decide +kernel
theorem dX9_in_10 : decode cX9_in 10 = .ok (.iconst 1, 1) := by decide +kernel
theorem dX9_in_11 : decode cX9_in 11 = .ok (.goto 4, 3) := by decide +kernel
theorem dX9_in_14 : decode cX9_in 14 = .ok (.iconst 0, 1) := by decide +kernel
theorem dX9_in_15 : decode cX9_in 15 = .ok (.ireturn, 1) := by decide +kernel
theorem dX9_has_0 : decode cX9_has 0 = .ok (.iload_n 0, 1) := by decide +kernel
theorem dX9_has_1 : decode cX9_has 1 = .ok (.iload_n 1, 1) := by decide +kernel
theorem dX9_has_2 : decode cX9_has 2 = .ok (.ishr, 1) := by decide +kernel
theorem dX9_has_3 : decode cX9_has 3 = .ok (.iconst 1, 1) := by decide +kernel
theorem dX9_has_4 : decode cX9_has 4 = .ok (.iand, 1) := by decide +kernel
theorem dX9_has_5 : decode cX9_has 5 = .ok (.iconst 1, 1) := by decide +kernel
theorem dX9_has_6 : decode cX9_has 6 = .ok (.if_icmp .ne 7, 3) := by decide +kernel
theorem dX9_has_9 : decode cX9_has 9 = .ok (.iconst 1, 1) := by decide +kernel
theorem dX9_has_10 : decode cX9_has 10 = .ok (.goto 4, 3) := by decide +kernel
theorem dX9_has_13 : decode cX9_has 13 = .ok (.iconst 0, 1) := by decide +kernel
theorem dX9_has_14 : decode cX9_has 14 = .ok (.ireturn, 1) := by decide +kernel
theorem dX9_bits_0 : decode cX9_bits 0 = .ok (.iconst 0, 1) := by decide +kernel
theorem dX9_bits_1 : decode cX9_bits 1 = .ok (.istore_n 1, 1) := by decide +kernel
theorem dX9_bits_2 : decode cX9_bits 2 = .ok (.iconst 0, 1) := by decide +kernel
theorem dX9_bits_3 : decode cX9_bits 3 = .ok (.istore_n 2, 1) := by decide +kernel
theorem dX9_bits_4 : decode cX9_bits 4 = .ok (.iload_n 2, 1) := by decide +kernel
theorem dX9_bits_5 : decode cX9_bits 5 = .ok (.bipush 10, 2) := by decide +kernel
theorem dX9_bits_7 : decode cX9_bits 7 = .ok (.if_icmp .ge 17, 3) := by decide +kernel
theorem dX9_bits_10 : decode cX9_bits 10 = .ok (.iload_n 1, 1) := by decide +kernel
theorem dX9_bits_11 : decode cX9_bits 11 = .ok (.iload_n 0, 1) := by decide +kernel
theorem dX9_bits_12 : decode cX9_bits 12 = .ok (.iload_n 2, 1) := by decide +kernel
theorem dX9_bits_13 : decode cX9_bits 13 = .ok (.ishr, 1) := by decide +kernel
theorem dX9_bits_14 : decode cX9_bits 14 = .ok (.iconst 1, 1) := by decide +kernel
theorem dX9_bits_15 : decode cX9_bits 15 = .ok (.iand, 1) := by decide +kernel
theorem dX9_bits_16 : decode cX9_bits 16 = .ok (.iadd, 1) := by decide +kernel
theorem dX9_bits_17 : decode cX9_bits 17 = .ok (.istore_n 1, 1) := by decide +kernel
theorem dX9_bits_18 : decode cX9_bits 18 = .ok (.iinc 2 1, 3) := by decide +kernel
theorem dX9_bits_21 : decode cX9_bits 21 = .ok (.goto (-17), 3) := by decide +kernel
theorem dX9_bits_24 : decode cX9_bits 24 = .ok (.iload_n 1, 1) := by decide +kernel
theorem dX9_bits_25 : decode cX9_bits 25 = .ok (.ireturn, 1) := by decide +kernel
theorem dX9_isThere_0 : decode cX9_isThere 0 = .ok (.iload_n 1, 1) := by decide +kernel
theorem dX9_isThere_1 : decode cX9_isThere 1 = .ok (.iconst 0, 1) := by decide +kernel
theorem dX9_isThere_2 : decode cX9_isThere 2 = .ok (.iconst 5, 1) := by decide +kernel
theorem dX9_isThere_3 : decode cX9_isThere 3 = .ok (.invokestatic 63, 3) := by decide +kernel
theorem dX9_isThere_6 : decode cX9_isThere 6 = .ok (.ifCond .eq 21, 3) := by decide +kernel
theorem dX9_isThere_9 : decode cX9_isThere 9 = .ok (.aload_n 0, 1) := by decide +kernel
theorem dX9_isThere_10 : decode cX9_isThere 10 = .ok (.getfield 7, 3) := by decide +kernel
theorem dX9_isThere_13 : decode cX9_isThere 13 = .ok (.bipush 12, 2) := by decide +kernel
theorem dX9_isThere_15 : decode cX9_isThere 15 = .ok (.iaload, 1) := by decide +kernel
theorem dX9_isThere_16 : decode cX9_isThere 16 = .ok (.iload_n 1, 1) := by decide +kernel
theorem dX9_isThere_17 : decode cX9_isThere 17 = .ok (.invokestatic 67, 3) := by decide +kernel
theorem dX9_isThere_20 : decode cX9_isThere 20 = .ok (.ifCond .eq 7, 3) := by decide +kernel
theorem dX9_isThere_23 : decode cX9_isThere 23 = .ok (.iconst 1, 1) := by decide +kernel
theorem dX9_isThere_24 : decode cX9_isThere 24 = .ok (.goto 4, 3) := by decide +kernel
theorem dX9_isThere_27 : decode cX9_isThere 27 = .ok (.iconst 0, 1) := by decide +kernel
theorem dX9_isThere_28 : decode cX9_isThere 28 = .ok (.ireturn, 1) := by decide +kernel
theorem dX9_grief_0 : decode cX9_grief 0 = .ok (.iload_n 1, 1) := by decide +kernel
theorem dX9_grief_1 : decode cX9_grief 1 = .ok (.iconst 0, 1) := by decide +kernel
theorem dX9_grief_2 : decode cX9_grief 2 = .ok (.iconst 5, 1) := by decide +kernel
theorem dX9_grief_3 : decode cX9_grief 3 = .ok (.invokestatic 63, 3) := by decide +kernel
theorem dX9_grief_6 : decode cX9_grief 6 = .ok (.ifCond .ne 5, 3) := by decide +kernel
theorem dX9_grief_9 : decode cX9_grief 9 = .ok (.iconst (-1), 1) := by decide +kernel
theorem dX9_grief_10 : decode cX9_grief 10 = .ok (.ireturn, 1) := by decide +kernel
theorem dX9_grief_11 : decode cX9_grief 11 = .ok (.iload_n 2, 1) := by decide +kernel
theorem dX9_grief_12 : decode cX9_grief 12 = .ok (.iconst 1, 1) := by decide +kernel
theorem dX9_grief_13 : decode cX9_grief 13 = .ok (.bipush 99, 2) := by decide +kernel
theorem dX9_grief_15 : decode cX9_grief 15 = .ok (.invokestatic 63, 3) := by decide +kernel
theorem dX9_grief_18 : decode cX9_grief 18 = .ok (.ifCond .eq 14, 3) := by decide +kernel
theorem dX9_grief_21 : decode cX9_grief 21 = .ok (.iload_n 3, 1) := by decide +kernel
theorem dX9_grief_22 : decode cX9_grief 22 = .ok (.iconst 0, 1) := by decide +kernel
theorem dX9_grief_23 : decode cX9_grief 23 = .ok (.sipush 255, 3) := by decide +kernel
theorem dX9_grief_26 : decode cX9_grief 26 = .ok (.invokestatic 63, 3) := by decide +kernel
theorem dX9_grief_29 : decode cX9_grief 29 = .ok (.ifCond .ne 6, 3) := by decide +kernel
theorem dX9_grief_32 : decode cX9_grief 32 = .ok (.bipush (-2), 2) := by decide +kernel
theorem dX9_grief_34 : decode cX9_grief 34 = .ok (.ireturn, 1) := by decide +kernel
theorem dX9_grief_35 : decode cX9_grief 35 = .ok (.aload_n 0, 1) := by decide +kernel
theorem dX9_grief_36 : decode cX9_grief 36 = .ok (.getfield 7, 3) := by decide +kernel
theorem dX9_grief_39 : decode cX9_grief 39 = .ok (.iload_n 1, 1) := by decide +kernel
theorem dX9_grief_40 : decode cX9_grief 40 = .ok (.iload_n 2, 1) := by decide +kernel
theorem dX9_grief_41 : decode cX9_grief 41 = .ok (.iastore, 1) := by decide +kernel
theorem dX9_grief_42 : decode cX9_grief 42 = .ok (.aload_n 0, 1) := by decide +kernel
theorem dX9_grief_43 : decode cX9_grief 43 = .ok (.getfield 7, 3) := by decide +kernel
theorem dX9_grief_46 : decode cX9_grief 46 = .ok (.bipush 6, 2) := by decide +kernel
theorem dX9_grief_48 : decode cX9_grief 48 = .ok (.iload_n 1, 1) := by decide +kernel
theorem dX9_grief_49 : decode cX9_grief 49 = .ok (.iadd, 1) := by decide +kernel
theorem dX9_grief_50 : decode cX9_grief 50 = .ok (.iload_n 3, 1) := by decide +kernel
theorem dX9_grief_51 : decode cX9_grief 51 = .ok (.iastore, 1) := by decide +kernel
theorem dX9_grief_52 : decode cX9_grief 52 = .ok (.aload_n 0, 1) := by decide +kernel
theorem dX9_grief_53 : decode cX9_grief 53 = .ok (.getfield 7, 3) := by decide +kernel
theorem dX9_grief_56 : decode cX9_grief 56 = .ok (.bipush 12, 2) := by decide +kernel
theorem dX9_grief_58 : decode cX9_grief 58 = .ok (.dup2, 1) := by decide +kernel
theorem dX9_grief_59 : decode cX9_grief 59 = .ok (.iaload, 1) := by decide +kernel
theorem dX9_grief_60 : decode cX9_grief 60 = .ok (.iconst 1, 1) := by decide +kernel
theorem dX9_grief_61 : decode cX9_grief 61 = .ok (.iload_n 1, 1) := by decide +kernel
theorem dX9_grief_62 : decode cX9_grief 62 = .ok (.ishl, 1) := by decide +kernel
theorem dX9_grief_63 : decode cX9_grief 63 = .ok (.ior, 1) := by decide +kernel
theorem dX9_grief_64 : decode cX9_grief 64 = .ok (.iastore, 1) := by decide +kernel
theorem dX9_grief_65 : decode cX9_grief 65 = .ok (.aload_n 0, 1) := by decide +kernel
theorem dX9_grief_66 : decode cX9_grief 66 = .ok (.getfield 7, 3) := by decide +kernel
theorem dX9_grief_69 : decode cX9_grief 69 = .ok (.bipush 12, 2) := by decide +kernel
theorem dX9_grief_71 : decode cX9_grief 71 = .ok (.iaload, 1) := by decide +kernel
theorem dX9_grief_72 : decode cX9_grief 72 = .ok (.invokestatic 71, 3) := by decide +kernel
theorem dX9_grief_75 : decode cX9_grief 75 = .ok (.ireturn, 1) := by decide +kernel
theorem dX9_hold_0 : decode cX9_hold 0 = .ok (.iload_n 1, 1) := by decide +kernel
theorem dX9_hold_1 : decode cX9_hold 1 = .ok (.iconst 0, 1) := by decide +kernel
theorem dX9_hold_2 : decode cX9_hold 2 = .ok (.iconst 5, 1) := by decide +kernel
theorem dX9_hold_3 : decode cX9_hold 3 = .ok (.invokestatic 63, 3) := by decide +kernel
theorem dX9_hold_6 : decode cX9_hold 6 = .ok (.ifCond .ne 5, 3) := by decide +kernel
theorem dX9_hold_9 : decode cX9_hold 9 = .ok (.iconst (-1), 1) := by decide +kernel
theorem dX9_hold_10 : decode cX9_hold 10 = .ok (.ireturn, 1) := by decide +kernel
theorem dX9_hold_11 : decode cX9_hold 11 = .ok (.iload_n 2, 1) := by decide +kernel
theorem dX9_hold_12 : decode cX9_hold 12 = .ok (.iconst 0, 1) := by decide +kernel
theorem dX9_hold_13 : decode cX9_hold 13 = .ok (.sipush 255, 3) := by decide +kernel
theorem dX9_hold_16 : decode cX9_hold 16 = .ok (.invokestatic 63, 3) := by decide +kernel
theorem dX9_hold_19 : decode cX9_hold 19 = .ok (.ifCond .eq 24, 3) := by decide +kernel
theorem dX9_hold_22 : decode cX9_hold 22 = .ok (.iload_n 3, 1) := by decide +kernel
theorem dX9_hold_23 : decode cX9_hold 23 = .ok (.iconst 1, 1) := by decide +kernel
theorem dX9_hold_24 : decode cX9_hold 24 = .ok (.bipush 20, 2) := by decide +kernel
theorem dX9_hold_26 : decode cX9_hold 26 = .ok (.invokestatic 63, 3) := by decide +kernel
theorem dX9_hold_29 : decode cX9_hold 29 = .ok (.ifCond .eq 14, 3) := by decide +kernel
theorem dX9_hold_32 : decode cX9_hold 32 = .ok (.iload 4, 2) := by decide +kernel
theorem dX9_hold_34 : decode cX9_hold 34 = .ok (.iconst 1, 1) := by decide +kernel
theorem dX9_hold_35 : decode cX9_hold 35 = .ok (.bipush 9, 2) := by decide +kernel
theorem dX9_hold_37 : decode cX9_hold 37 = .ok (.invokestatic 63, 3) := by decide +kernel
theorem dX9_hold_40 : decode cX9_hold 40 = .ok (.ifCond .ne 6, 3) := by decide +kernel
theorem dX9_hold_43 : decode cX9_hold 43 = .ok (.bipush (-2), 2) := by decide +kernel
theorem dX9_hold_45 : decode cX9_hold 45 = .ok (.ireturn, 1) := by decide +kernel
theorem dX9_hold_46 : decode cX9_hold 46 = .ok (.sipush 1000, 3) := by decide +kernel
theorem dX9_hold_49 : decode cX9_hold 49 = .ok (.aload_n 0, 1) := by decide +kernel
theorem dX9_hold_50 : decode cX9_hold 50 = .ok (.getfield 16, 3) := by decide +kernel
theorem dX9_hold_53 : decode cX9_hold 53 = .ok (.iload_n 1, 1) := by decide +kernel
theorem dX9_hold_54 : decode cX9_hold 54 = .ok (.iaload, 1) := by decide +kernel
theorem dX9_hold_55 : decode cX9_hold 55 = .ok (.imul, 1) := by decide +kernel
theorem dX9_hold_56 : decode cX9_hold 56 = .ok (.bipush 10, 2) := by decide +kernel
theorem dX9_hold_58 : decode cX9_hold 58 = .ok (.aload_n 0, 1) := by decide +kernel
theorem dX9_hold_59 : decode cX9_hold 59 = .ok (.getfield 19, 3) := by decide +kernel
theorem dX9_hold_62 : decode cX9_hold 62 = .ok (.iload_n 1, 1) := by decide +kernel
theorem dX9_hold_63 : decode cX9_hold 63 = .ok (.iaload, 1) := by decide +kernel
theorem dX9_hold_64 : decode cX9_hold 64 = .ok (.imul, 1) := by decide +kernel
theorem dX9_hold_65 : decode cX9_hold 65 = .ok (.iadd, 1) := by decide +kernel
theorem dX9_hold_66 : decode cX9_hold 66 = .ok (.aload_n 0, 1) := by decide +kernel
theorem dX9_hold_67 : decode cX9_hold 67 = .ok (.getfield 22, 3) := by decide +kernel
theorem dX9_hold_70 : decode cX9_hold 70 = .ok (.iload_n 1, 1) := by decide +kernel
theorem dX9_hold_71 : decode cX9_hold 71 = .ok (.iaload, 1) := by decide +kernel
theorem dX9_hold_72 : decode cX9_hold 72 = .ok (.iadd, 1) := by decide +kernel
theorem dX9_hold_73 : decode cX9_hold 73 = .ok (.istore 5, 2) := by decide +kernel
theorem dX9_hold_75 : decode cX9_hold 75 = .ok (.aload_n 0, 1) := by decide +kernel
theorem dX9_hold_76 : decode cX9_hold 76 = .ok (.getfield 16, 3) := by decide +kernel
theorem dX9_hold_79 : decode cX9_hold 79 = .ok (.iload_n 1, 1) := by decide +kernel
theorem dX9_hold_80 : decode cX9_hold 80 = .ok (.iload_n 2, 1) := by decide +kernel
theorem dX9_hold_81 : decode cX9_hold 81 = .ok (.iastore, 1) := by decide +kernel
theorem dX9_hold_82 : decode cX9_hold 82 = .ok (.aload_n 0, 1) := by decide +kernel
theorem dX9_hold_83 : decode cX9_hold 83 = .ok (.getfield 19, 3) := by decide +kernel
theorem dX9_hold_86 : decode cX9_hold 86 = .ok (.iload_n 1, 1) := by decide +kernel
theorem dX9_hold_87 : decode cX9_hold 87 = .ok (.iload_n 3, 1) := by decide +kernel
theorem dX9_hold_88 : decode cX9_hold 88 = .ok (.iastore, 1) := by decide +kernel
theorem dX9_hold_89 : decode cX9_hold 89 = .ok (.aload_n 0, 1) := by decide +kernel
theorem dX9_hold_90 : decode cX9_hold 90 = .ok (.getfield 22, 3) := by decide +kernel
theorem dX9_hold_93 : decode cX9_hold 93 = .ok (.iload_n 1, 1) := by decide +kernel
theorem dX9_hold_94 : decode cX9_hold 94 = .ok (.iload 4, 2) := by decide +kernel
theorem dX9_hold_96 : decode cX9_hold 96 = .ok (.iastore, 1) := by decide +kernel
theorem dX9_hold_97 : decode cX9_hold 97 = .ok (.iload 5, 2) := by decide +kernel
theorem dX9_hold_99 : decode cX9_hold 99 = .ok (.ireturn, 1) := by decide +kernel
theorem dX9_breath_0 : decode cX9_breath 0 = .ok (.iload_n 1, 1) := by decide +kernel
theorem dX9_breath_1 : decode cX9_breath 1 = .ok (.iconst 0, 1) := by decide +kernel
theorem dX9_breath_2 : decode cX9_breath 2 = .ok (.bipush 99, 2) := by decide +kernel
theorem dX9_breath_4 : decode cX9_breath 4 = .ok (.invokestatic 63, 3) := by decide +kernel
theorem dX9_breath_7 : decode cX9_breath 7 = .ok (.ifCond .ne 6, 3) := by decide +kernel
theorem dX9_breath_10 : decode cX9_breath 10 = .ok (.bipush (-2), 2) := by decide +kernel
theorem dX9_breath_12 : decode cX9_breath 12 = .ok (.ireturn, 1) := by decide +kernel
theorem dX9_breath_13 : decode cX9_breath 13 = .ok (.aload_n 0, 1) := by decide +kernel
theorem dX9_breath_14 : decode cX9_breath 14 = .ok (.getfield 7, 3) := by decide +kernel
theorem dX9_breath_17 : decode cX9_breath 17 = .ok (.bipush 13, 2) := by decide +kernel
theorem dX9_breath_19 : decode cX9_breath 19 = .ok (.iaload, 1) := by decide +kernel
theorem dX9_breath_20 : decode cX9_breath 20 = .ok (.istore_n 2, 1) := by decide +kernel
theorem dX9_breath_21 : decode cX9_breath 21 = .ok (.aload_n 0, 1) := by decide +kernel
theorem dX9_breath_22 : decode cX9_breath 22 = .ok (.getfield 7, 3) := by decide +kernel
theorem dX9_breath_25 : decode cX9_breath 25 = .ok (.bipush 13, 2) := by decide +kernel
theorem dX9_breath_27 : decode cX9_breath 27 = .ok (.iload_n 1, 1) := by decide +kernel
theorem dX9_breath_28 : decode cX9_breath 28 = .ok (.iastore, 1) := by decide +kernel
theorem dX9_breath_29 : decode cX9_breath 29 = .ok (.iload_n 2, 1) := by decide +kernel
theorem dX9_breath_30 : decode cX9_breath 30 = .ok (.ireturn, 1) := by decide +kernel
theorem dX9_coat_0 : decode cX9_coat 0 = .ok (.iload_n 1, 1) := by decide +kernel
theorem dX9_coat_1 : decode cX9_coat 1 = .ok (.iconst 0, 1) := by decide +kernel
theorem dX9_coat_2 : decode cX9_coat 2 = .ok (.bipush 7, 2) := by decide +kernel
theorem dX9_coat_4 : decode cX9_coat 4 = .ok (.invokestatic 63, 3) := by decide +kernel
theorem dX9_coat_7 : decode cX9_coat 7 = .ok (.ifCond .ne 5, 3) := by decide +kernel
theorem dX9_coat_10 : decode cX9_coat 10 = .ok (.iconst (-1), 1) := by decide +kernel
theorem dX9_coat_11 : decode cX9_coat 11 = .ok (.ireturn, 1) := by decide +kernel
theorem dX9_coat_12 : decode cX9_coat 12 = .ok (.iload_n 2, 1) := by decide +kernel
theorem dX9_coat_13 : decode cX9_coat 13 = .ok (.iconst 0, 1) := by decide +kernel
theorem dX9_coat_14 : decode cX9_coat 14 = .ok (.bipush 23, 2) := by decide +kernel
theorem dX9_coat_16 : decode cX9_coat 16 = .ok (.invokestatic 63, 3) := by decide +kernel
theorem dX9_coat_19 : decode cX9_coat 19 = .ok (.ifCond .eq 13, 3) := by decide +kernel
theorem dX9_coat_22 : decode cX9_coat 22 = .ok (.iload_n 3, 1) := by decide +kernel
theorem dX9_coat_23 : decode cX9_coat 23 = .ok (.iload_n 2, 1) := by decide +kernel
theorem dX9_coat_24 : decode cX9_coat 24 = .ok (.bipush 23, 2) := by decide +kernel
theorem dX9_coat_26 : decode cX9_coat 26 = .ok (.invokestatic 63, 3) := by decide +kernel
theorem dX9_coat_29 : decode cX9_coat 29 = .ok (.ifCond .ne 6, 3) := by decide +kernel
theorem dX9_coat_32 : decode cX9_coat 32 = .ok (.bipush (-2), 2) := by decide +kernel
theorem dX9_coat_34 : decode cX9_coat 34 = .ok (.ireturn, 1) := by decide +kernel
theorem dX9_coat_35 : decode cX9_coat 35 = .ok (.aload_n 0, 1) := by decide +kernel
theorem dX9_coat_36 : decode cX9_coat 36 = .ok (.getfield 25, 3) := by decide +kernel
theorem dX9_coat_39 : decode cX9_coat 39 = .ok (.iload_n 1, 1) := by decide +kernel
theorem dX9_coat_40 : decode cX9_coat 40 = .ok (.iaload, 1) := by decide +kernel
theorem dX9_coat_41 : decode cX9_coat 41 = .ok (.istore 4, 2) := by decide +kernel
theorem dX9_coat_43 : decode cX9_coat 43 = .ok (.aload_n 0, 1) := by decide +kernel
theorem dX9_coat_44 : decode cX9_coat 44 = .ok (.getfield 25, 3) := by decide +kernel
theorem dX9_coat_47 : decode cX9_coat 47 = .ok (.iload_n 1, 1) := by decide +kernel
theorem dX9_coat_48 : decode cX9_coat 48 = .ok (.bipush 100, 2) := by decide +kernel
theorem dX9_coat_50 : decode cX9_coat 50 = .ok (.iload_n 2, 1) := by decide +kernel
theorem dX9_coat_51 : decode cX9_coat 51 = .ok (.imul, 1) := by decide +kernel
theorem dX9_coat_52 : decode cX9_coat 52 = .ok (.iload_n 3, 1) := by decide +kernel
theorem dX9_coat_53 : decode cX9_coat 53 = .ok (.iadd, 1) := by decide +kernel
theorem dX9_coat_54 : decode cX9_coat 54 = .ok (.iastore, 1) := by decide +kernel
theorem dX9_coat_55 : decode cX9_coat 55 = .ok (.iload 4, 2) := by decide +kernel
theorem dX9_coat_57 : decode cX9_coat 57 = .ok (.ireturn, 1) := by decide +kernel
theorem dX9_move_0 : decode cX9_move 0 = .ok (.iload_n 1, 1) := by decide +kernel
theorem dX9_move_1 : decode cX9_move 1 = .ok (.iconst 0, 1) := by decide +kernel
theorem dX9_move_2 : decode cX9_move 2 = .ok (.bipush 9, 2) := by decide +kernel
theorem dX9_move_4 : decode cX9_move 4 = .ok (.invokestatic 63, 3) := by decide +kernel
theorem dX9_move_7 : decode cX9_move 7 = .ok (.ifCond .eq 18, 3) := by decide +kernel
theorem dX9_move_10 : decode cX9_move 10 = .ok (.iload_n 2, 1) := by decide +kernel
theorem dX9_move_11 : decode cX9_move 11 = .ok (.iconst 0, 1) := by decide +kernel
theorem dX9_move_12 : decode cX9_move 12 = .ok (.bipush 9, 2) := by decide +kernel
theorem dX9_move_14 : decode cX9_move 14 = .ok (.invokestatic 63, 3) := by decide +kernel
theorem dX9_move_17 : decode cX9_move 17 = .ok (.ifCond .eq 8, 3) := by decide +kernel
theorem dX9_move_20 : decode cX9_move 20 = .ok (.iload_n 1, 1) := by decide +kernel
theorem dX9_move_21 : decode cX9_move 21 = .ok (.iload_n 2, 1) := by decide +kernel
theorem dX9_move_22 : decode cX9_move 22 = .ok (.if_icmp .ne 5, 3) := by decide +kernel
theorem dX9_move_25 : decode cX9_move 25 = .ok (.iconst (-1), 1) := by decide +kernel
theorem dX9_move_26 : decode cX9_move 26 = .ok (.ireturn, 1) := by decide +kernel
theorem dX9_move_27 : decode cX9_move 27 = .ok (.aload_n 0, 1) := by decide +kernel
theorem dX9_move_28 : decode cX9_move 28 = .ok (.getfield 28, 3) := by decide +kernel
theorem dX9_move_31 : decode cX9_move 31 = .ok (.iload_n 1, 1) := by decide +kernel
theorem dX9_move_32 : decode cX9_move 32 = .ok (.dup2, 1) := by decide +kernel
theorem dX9_move_33 : decode cX9_move 33 = .ok (.iaload, 1) := by decide +kernel
theorem dX9_move_34 : decode cX9_move 34 = .ok (.iconst 1, 1) := by decide +kernel
theorem dX9_move_35 : decode cX9_move 35 = .ok (.iload_n 2, 1) := by decide +kernel
theorem dX9_move_36 : decode cX9_move 36 = .ok (.ishl, 1) := by decide +kernel
theorem dX9_move_37 : decode cX9_move 37 = .ok (.iconst (-1), 1) := by decide +kernel
theorem dX9_move_38 : decode cX9_move 38 = .ok (.ixor, 1) := by decide +kernel
theorem dX9_move_39 : decode cX9_move 39 = .ok (.iand, 1) := by decide +kernel
theorem dX9_move_40 : decode cX9_move 40 = .ok (.iastore, 1) := by decide +kernel
theorem dX9_move_41 : decode cX9_move 41 = .ok (.aload_n 0, 1) := by decide +kernel
theorem dX9_move_42 : decode cX9_move 42 = .ok (.getfield 28, 3) := by decide +kernel
theorem dX9_move_45 : decode cX9_move 45 = .ok (.iload_n 1, 1) := by decide +kernel
theorem dX9_move_46 : decode cX9_move 46 = .ok (.dup2, 1) := by decide +kernel
theorem dX9_move_47 : decode cX9_move 47 = .ok (.iaload, 1) := by decide +kernel
theorem dX9_move_48 : decode cX9_move 48 = .ok (.iload_n 3, 1) := by decide +kernel
theorem dX9_move_49 : decode cX9_move 49 = .ok (.ifCond .eq 9, 3) := by decide +kernel
theorem dX9_move_52 : decode cX9_move 52 = .ok (.iconst 1, 1) := by decide +kernel
theorem dX9_move_53 : decode cX9_move 53 = .ok (.iload_n 2, 1) := by decide +kernel
theorem dX9_move_54 : decode cX9_move 54 = .ok (.ishl, 1) := by decide +kernel
theorem dX9_move_55 : decode cX9_move 55 = .ok (.goto 4, 3) := by decide +kernel
theorem dX9_move_58 : decode cX9_move 58 = .ok (.iconst 0, 1) := by decide +kernel
theorem dX9_move_59 : decode cX9_move 59 = .ok (.ior, 1) := by decide +kernel
theorem dX9_move_60 : decode cX9_move 60 = .ok (.iastore, 1) := by decide +kernel
theorem dX9_move_61 : decode cX9_move 61 = .ok (.iconst 0, 1) := by decide +kernel
theorem dX9_move_62 : decode cX9_move 62 = .ok (.istore 4, 2) := by decide +kernel
theorem dX9_move_64 : decode cX9_move 64 = .ok (.iconst 0, 1) := by decide +kernel
theorem dX9_move_65 : decode cX9_move 65 = .ok (.istore 5, 2) := by decide +kernel
theorem dX9_move_67 : decode cX9_move 67 = .ok (.iload 5, 2) := by decide +kernel
theorem dX9_move_69 : decode cX9_move 69 = .ok (.bipush 10, 2) := by decide +kernel
theorem dX9_move_71 : decode cX9_move 71 = .ok (.if_icmp .ge 24, 3) := by decide +kernel
theorem dX9_move_74 : decode cX9_move 74 = .ok (.iload 4, 2) := by decide +kernel
theorem dX9_move_76 : decode cX9_move 76 = .ok (.aload_n 0, 1) := by decide +kernel
theorem dX9_move_77 : decode cX9_move 77 = .ok (.getfield 28, 3) := by decide +kernel
theorem dX9_move_80 : decode cX9_move 80 = .ok (.iload 5, 2) := by decide +kernel
theorem dX9_move_82 : decode cX9_move 82 = .ok (.iaload, 1) := by decide +kernel
theorem dX9_move_83 : decode cX9_move 83 = .ok (.invokestatic 71, 3) := by decide +kernel
theorem dX9_move_86 : decode cX9_move 86 = .ok (.iadd, 1) := by decide +kernel
theorem dX9_move_87 : decode cX9_move 87 = .ok (.istore 4, 2) := by decide +kernel
theorem dX9_move_89 : decode cX9_move 89 = .ok (.iinc 5 1, 3) := by decide +kernel
theorem dX9_move_92 : decode cX9_move 92 = .ok (.goto (-25), 3) := by decide +kernel
theorem dX9_move_95 : decode cX9_move 95 = .ok (.iload 4, 2) := by decide +kernel
theorem dX9_move_97 : decode cX9_move 97 = .ok (.ireturn, 1) := by decide +kernel
theorem dX9_say_0 : decode cX9_say 0 = .ok (.iload_n 1, 1) := by decide +kernel
theorem dX9_say_1 : decode cX9_say 1 = .ok (.bipush 33, 2) := by decide +kernel
theorem dX9_say_3 : decode cX9_say 3 = .ok (.bipush 126, 2) := by decide +kernel
theorem dX9_say_5 : decode cX9_say 5 = .ok (.invokestatic 63, 3) := by decide +kernel
theorem dX9_say_8 : decode cX9_say 8 = .ok (.ifCond .ne 6, 3) := by decide +kernel
theorem dX9_say_11 : decode cX9_say 11 = .ok (.bipush (-2), 2) := by decide +kernel
theorem dX9_say_13 : decode cX9_say 13 = .ok (.ireturn, 1) := by decide +kernel
theorem dX9_say_14 : decode cX9_say 14 = .ok (.aload_n 0, 1) := by decide +kernel
theorem dX9_say_15 : decode cX9_say 15 = .ok (.getfield 75, 3) := by decide +kernel
theorem dX9_say_18 : decode cX9_say 18 = .ok (.bipush 60, 2) := by decide +kernel
theorem dX9_say_20 : decode cX9_say 20 = .ok (.if_icmp .ne 6, 3) := by decide +kernel
theorem dX9_say_23 : decode cX9_say 23 = .ok (.bipush (-4), 2) := by decide +kernel
theorem dX9_say_25 : decode cX9_say 25 = .ok (.ireturn, 1) := by decide +kernel
theorem dX9_say_26 : decode cX9_say 26 = .ok (.aload_n 0, 1) := by decide +kernel
theorem dX9_say_27 : decode cX9_say 27 = .ok (.getfield 34, 3) := by decide +kernel
theorem dX9_say_30 : decode cX9_say 30 = .ok (.aload_n 0, 1) := by decide +kernel
theorem dX9_say_31 : decode cX9_say 31 = .ok (.getfield 75, 3) := by decide +kernel
theorem dX9_say_34 : decode cX9_say 34 = .ok (.iload_n 1, 1) := by decide +kernel
theorem dX9_say_35 : decode cX9_say 35 = .ok (.iastore, 1) := by decide +kernel
theorem dX9_say_36 : decode cX9_say 36 = .ok (.aload_n 0, 1) := by decide +kernel
theorem dX9_say_37 : decode cX9_say 37 = .ok (.dup, 1) := by decide +kernel
theorem dX9_say_38 : decode cX9_say 38 = .ok (.getfield 75, 3) := by decide +kernel
theorem dX9_say_41 : decode cX9_say 41 = .ok (.iconst 1, 1) := by decide +kernel
theorem dX9_say_42 : decode cX9_say 42 = .ok (.iadd, 1) := by decide +kernel
theorem dX9_say_43 : decode cX9_say 43 = .ok (.putfield 75, 3) := by decide +kernel
theorem dX9_say_46 : decode cX9_say 46 = .ok (.aload_n 0, 1) := by decide +kernel
theorem dX9_say_47 : decode cX9_say 47 = .ok (.getfield 75, 3) := by decide +kernel
theorem dX9_say_50 : decode cX9_say 50 = .ok (.ireturn, 1) := by decide +kernel
theorem dX9_wipe_0 : decode cX9_wipe 0 = .ok (.aload_n 0, 1) := by decide +kernel
theorem dX9_wipe_1 : decode cX9_wipe 1 = .ok (.getfield 75, 3) := by decide +kernel
theorem dX9_wipe_4 : decode cX9_wipe 4 = .ok (.istore_n 1, 1) := by decide +kernel
theorem dX9_wipe_5 : decode cX9_wipe 5 = .ok (.aload_n 0, 1) := by decide +kernel
theorem dX9_wipe_6 : decode cX9_wipe 6 = .ok (.iconst 0, 1) := by decide +kernel
theorem dX9_wipe_7 : decode cX9_wipe 7 = .ok (.putfield 75, 3) := by decide +kernel
theorem dX9_wipe_10 : decode cX9_wipe 10 = .ok (.iload_n 1, 1) := by decide +kernel
theorem dX9_wipe_11 : decode cX9_wipe 11 = .ok (.ireturn, 1) := by decide +kernel
theorem dX9_faultOf_0 : decode cX9_faultOf 0 = .ok (.iconst 0, 1) := by decide +kernel
theorem dX9_faultOf_1 : decode cX9_faultOf 1 = .ok (.istore_n 1, 1) := by decide +kernel
theorem dX9_faultOf_2 : decode cX9_faultOf 2 = .ok (.iconst 0, 1) := by decide +kernel
theorem dX9_faultOf_3 : decode cX9_faultOf 3 = .ok (.istore_n 2, 1) := by decide +kernel
theorem dX9_faultOf_4 : decode cX9_faultOf 4 = .ok (.iload_n 2, 1) := by decide +kernel
theorem dX9_faultOf_5 : decode cX9_faultOf 5 = .ok (.aload_n 0, 1) := by decide +kernel
theorem dX9_faultOf_6 : decode cX9_faultOf 6 = .ok (.getfield 75, 3) := by decide +kernel
theorem dX9_faultOf_9 : decode cX9_faultOf 9 = .ok (.if_icmp .ge 136, 3) := by decide +kernel
theorem dX9_faultOf_12 : decode cX9_faultOf 12 = .ok (.aload_n 0, 1) := by decide +kernel
theorem dX9_faultOf_13 : decode cX9_faultOf 13 = .ok (.getfield 34, 3) := by decide +kernel
theorem dX9_faultOf_16 : decode cX9_faultOf 16 = .ok (.iload_n 2, 1) := by decide +kernel
theorem dX9_faultOf_17 : decode cX9_faultOf 17 = .ok (.iaload, 1) := by decide +kernel
theorem dX9_faultOf_18 : decode cX9_faultOf 18 = .ok (.istore_n 3, 1) := by decide +kernel
theorem dX9_faultOf_19 : decode cX9_faultOf 19 = .ok (.iload_n 3, 1) := by decide +kernel
theorem dX9_faultOf_20 : decode cX9_faultOf 20 = .ok (.bipush 65, 2) := by decide +kernel
theorem dX9_faultOf_22 : decode cX9_faultOf 22 = .ok (.bipush 70, 2) := by decide +kernel
theorem dX9_faultOf_24 : decode cX9_faultOf 24 = .ok (.invokestatic 63, 3) := by decide +kernel
theorem dX9_faultOf_27 : decode cX9_faultOf 27 = .ok (.istore 4, 2) := by decide +kernel
theorem dX9_faultOf_29 : decode cX9_faultOf 29 = .ok (.iload_n 1, 1) := by decide +kernel
theorem dX9_faultOf_30 : decode cX9_faultOf 30 = .ok (.ifCond .ne 28, 3) := by decide +kernel
theorem dX9_faultOf_33 : decode cX9_faultOf 33 = .ok (.iload 4, 2) := by decide +kernel
theorem dX9_faultOf_35 : decode cX9_faultOf 35 = .ok (.ifCond .ne 15, 3) := by decide +kernel
theorem dX9_faultOf_38 : decode cX9_faultOf 38 = .ok (.iload_n 3, 1) := by decide +kernel
theorem dX9_faultOf_39 : decode cX9_faultOf 39 = .ok (.bipush 126, 2) := by decide +kernel
theorem dX9_faultOf_41 : decode cX9_faultOf 41 = .ok (.if_icmp .eq 9, 3) := by decide +kernel
theorem dX9_faultOf_44 : decode cX9_faultOf 44 = .ok (.iload_n 3, 1) := by decide +kernel
theorem dX9_faultOf_45 : decode cX9_faultOf 45 = .ok (.bipush 46, 2) := by decide +kernel
theorem dX9_faultOf_47 : decode cX9_faultOf 47 = .ok (.if_icmp .ne 7, 3) := by decide +kernel
theorem dX9_faultOf_50 : decode cX9_faultOf 50 = .ok (.iconst 1, 1) := by decide +kernel
theorem dX9_faultOf_51 : decode cX9_faultOf 51 = .ok (.goto 45, 3) := by decide +kernel
theorem dX9_faultOf_54 : decode cX9_faultOf 54 = .ok (.iconst 0, 1) := by decide +kernel
theorem dX9_faultOf_55 : decode cX9_faultOf 55 = .ok (.goto 41, 3) := by decide +kernel
theorem dX9_faultOf_58 : decode cX9_faultOf 58 = .ok (.iload_n 1, 1) := by decide +kernel
theorem dX9_faultOf_59 : decode cX9_faultOf 59 = .ok (.iconst 1, 1) := by decide +kernel
theorem dX9_faultOf_60 : decode cX9_faultOf 60 = .ok (.if_icmp .ne 34, 3) := by decide +kernel
theorem dX9_faultOf_63 : decode cX9_faultOf 63 = .ok (.iload_n 3, 1) := by decide +kernel
theorem dX9_faultOf_64 : decode cX9_faultOf 64 = .ok (.bipush 48, 2) := by decide +kernel
theorem dX9_faultOf_66 : decode cX9_faultOf 66 = .ok (.bipush 53, 2) := by decide +kernel
theorem dX9_faultOf_68 : decode cX9_faultOf 68 = .ok (.invokestatic 63, 3) := by decide +kernel
theorem dX9_faultOf_71 : decode cX9_faultOf 71 = .ok (.ifCond .ne 15, 3) := by decide +kernel
theorem dX9_faultOf_74 : decode cX9_faultOf 74 = .ok (.iload_n 3, 1) := by decide +kernel
theorem dX9_faultOf_75 : decode cX9_faultOf 75 = .ok (.bipush 43, 2) := by decide +kernel
theorem dX9_faultOf_77 : decode cX9_faultOf 77 = .ok (.if_icmp .eq 9, 3) := by decide +kernel
theorem dX9_faultOf_80 : decode cX9_faultOf 80 = .ok (.iload_n 3, 1) := by decide +kernel
theorem dX9_faultOf_81 : decode cX9_faultOf 81 = .ok (.bipush 95, 2) := by decide +kernel
theorem dX9_faultOf_83 : decode cX9_faultOf 83 = .ok (.if_icmp .ne 7, 3) := by decide +kernel
theorem dX9_faultOf_86 : decode cX9_faultOf 86 = .ok (.iconst 1, 1) := by decide +kernel
theorem dX9_faultOf_87 : decode cX9_faultOf 87 = .ok (.goto 9, 3) := by decide +kernel
theorem dX9_faultOf_90 : decode cX9_faultOf 90 = .ok (.iconst 0, 1) := by decide +kernel
theorem dX9_faultOf_91 : decode cX9_faultOf 91 = .ok (.goto 5, 3) := by decide +kernel
theorem dX9_faultOf_94 : decode cX9_faultOf 94 = .ok (.iload 4, 2) := by decide +kernel
theorem dX9_faultOf_96 : decode cX9_faultOf 96 = .ok (.istore 5, 2) := by decide +kernel
theorem dX9_faultOf_98 : decode cX9_faultOf 98 = .ok (.iload 5, 2) := by decide +kernel
theorem dX9_faultOf_100 : decode cX9_faultOf 100 = .ok (.ifCond .ne 5, 3) := by decide +kernel
theorem dX9_faultOf_103 : decode cX9_faultOf 103 = .ok (.iload_n 2, 1) := by decide +kernel
theorem dX9_faultOf_104 : decode cX9_faultOf 104 = .ok (.ireturn, 1) := by decide +kernel
theorem dX9_faultOf_105 : decode cX9_faultOf 105 = .ok (.iload_n 1, 1) := by decide +kernel
theorem dX9_faultOf_106 : decode cX9_faultOf 106 = .ok (.ifCond .ne 16, 3) := by decide +kernel
theorem dX9_faultOf_109 : decode cX9_faultOf 109 = .ok (.iload 4, 2) := by decide +kernel
theorem dX9_faultOf_111 : decode cX9_faultOf 111 = .ok (.ifCond .eq 7, 3) := by decide +kernel
theorem dX9_faultOf_114 : decode cX9_faultOf 114 = .ok (.iconst 1, 1) := by decide +kernel
theorem dX9_faultOf_115 : decode cX9_faultOf 115 = .ok (.goto 23, 3) := by decide +kernel
theorem dX9_faultOf_118 : decode cX9_faultOf 118 = .ok (.iconst 0, 1) := by decide +kernel
theorem dX9_faultOf_119 : decode cX9_faultOf 119 = .ok (.goto 19, 3) := by decide +kernel
theorem dX9_faultOf_122 : decode cX9_faultOf 122 = .ok (.iload_n 1, 1) := by decide +kernel
theorem dX9_faultOf_123 : decode cX9_faultOf 123 = .ok (.iconst 1, 1) := by decide +kernel
theorem dX9_faultOf_124 : decode cX9_faultOf 124 = .ok (.if_icmp .ne 13, 3) := by decide +kernel
theorem dX9_faultOf_127 : decode cX9_faultOf 127 = .ok (.iload_n 3, 1) := by decide +kernel
theorem dX9_faultOf_128 : decode cX9_faultOf 128 = .ok (.bipush 43, 2) := by decide +kernel
theorem dX9_faultOf_130 : decode cX9_faultOf 130 = .ok (.if_icmp .ne 7, 3) := by decide +kernel
theorem dX9_faultOf_133 : decode cX9_faultOf 133 = .ok (.iconst 2, 1) := by decide +kernel
theorem dX9_faultOf_134 : decode cX9_faultOf 134 = .ok (.goto 4, 3) := by decide +kernel
theorem dX9_faultOf_137 : decode cX9_faultOf 137 = .ok (.iconst 0, 1) := by decide +kernel
theorem dX9_faultOf_138 : decode cX9_faultOf 138 = .ok (.istore_n 1, 1) := by decide +kernel
theorem dX9_faultOf_139 : decode cX9_faultOf 139 = .ok (.iinc 2 1, 3) := by decide +kernel
theorem dX9_faultOf_142 : decode cX9_faultOf 142 = .ok (.goto (-138), 3) := by decide +kernel
theorem dX9_faultOf_145 : decode cX9_faultOf 145 = .ok (.iload_n 1, 1) := by decide +kernel
theorem dX9_faultOf_146 : decode cX9_faultOf 146 = .ok (.ifCond .ne 8, 3) := by decide +kernel
theorem dX9_faultOf_149 : decode cX9_faultOf 149 = .ok (.bipush (-6), 2) := by decide +kernel
theorem dX9_faultOf_151 : decode cX9_faultOf 151 = .ok (.goto 7, 3) := by decide +kernel
theorem dX9_faultOf_154 : decode cX9_faultOf 154 = .ok (.aload_n 0, 1) := by decide +kernel
theorem dX9_faultOf_155 : decode cX9_faultOf 155 = .ok (.getfield 75, 3) := by decide +kernel
theorem dX9_faultOf_158 : decode cX9_faultOf 158 = .ok (.ireturn, 1) := by decide +kernel
theorem dX9_fault_0 : decode cX9_fault 0 = .ok (.aload_n 0, 1) := by decide +kernel
theorem dX9_fault_1 : decode cX9_fault 1 = .ok (.invokevirtual 79, 3) := by decide +kernel
theorem dX9_fault_4 : decode cX9_fault 4 = .ok (.ireturn, 1) := by decide +kernel
theorem dX9_asNow_0 : decode cX9_asNow 0 = .ok (.iconst 0, 1) := by decide +kernel
theorem dX9_asNow_1 : decode cX9_asNow 1 = .ok (.istore_n 1, 1) := by decide +kernel
theorem dX9_asNow_2 : decode cX9_asNow 2 = .ok (.iload_n 1, 1) := by decide +kernel
theorem dX9_asNow_3 : decode cX9_asNow 3 = .ok (.bipush 15, 2) := by decide +kernel
theorem dX9_asNow_5 : decode cX9_asNow 5 = .ok (.if_icmp .ge 21, 3) := by decide +kernel
theorem dX9_asNow_8 : decode cX9_asNow 8 = .ok (.aload_n 0, 1) := by decide +kernel
theorem dX9_asNow_9 : decode cX9_asNow 9 = .ok (.getfield 13, 3) := by decide +kernel
theorem dX9_asNow_12 : decode cX9_asNow 12 = .ok (.iload_n 1, 1) := by decide +kernel
theorem dX9_asNow_13 : decode cX9_asNow 13 = .ok (.aload_n 0, 1) := by decide +kernel
theorem dX9_asNow_14 : decode cX9_asNow 14 = .ok (.getfield 7, 3) := by decide +kernel
theorem dX9_asNow_17 : decode cX9_asNow 17 = .ok (.iload_n 1, 1) := by decide +kernel
theorem dX9_asNow_18 : decode cX9_asNow 18 = .ok (.iaload, 1) := by decide +kernel
theorem dX9_asNow_19 : decode cX9_asNow 19 = .ok (.iastore, 1) := by decide +kernel
theorem dX9_asNow_20 : decode cX9_asNow 20 = .ok (.iinc 1 1, 3) := by decide +kernel
theorem dX9_asNow_23 : decode cX9_asNow 23 = .ok (.goto (-21), 3) := by decide +kernel
theorem dX9_asNow_26 : decode cX9_asNow 26 = .ok (.aload_n 0, 1) := by decide +kernel
theorem dX9_asNow_27 : decode cX9_asNow 27 = .ok (.iconst 0, 1) := by decide +kernel
theorem dX9_asNow_28 : decode cX9_asNow 28 = .ok (.putfield 83, 3) := by decide +kernel
theorem dX9_asNow_31 : decode cX9_asNow 31 = .ok (.aload_n 0, 1) := by decide +kernel
theorem dX9_asNow_32 : decode cX9_asNow 32 = .ok (.bipush (-6), 2) := by decide +kernel
theorem dX9_asNow_34 : decode cX9_asNow 34 = .ok (.putfield 86, 3) := by decide +kernel
theorem dX9_asNow_37 : decode cX9_asNow 37 = .ok (.aload_n 0, 1) := by decide +kernel
theorem dX9_asNow_38 : decode cX9_asNow 38 = .ok (.bipush (-6), 2) := by decide +kernel
theorem dX9_asNow_40 : decode cX9_asNow 40 = .ok (.putfield 89, 3) := by decide +kernel
theorem dX9_asNow_43 : decode cX9_asNow 43 = .ok (.return_, 1) := by decide +kernel
theorem dX9_stands_0 : decode cX9_stands 0 = .ok (.iload_n 1, 1) := by decide +kernel
theorem dX9_stands_1 : decode cX9_stands 1 = .ok (.iconst 0, 1) := by decide +kernel
theorem dX9_stands_2 : decode cX9_stands 2 = .ok (.iconst 5, 1) := by decide +kernel
theorem dX9_stands_3 : decode cX9_stands 3 = .ok (.invokestatic 63, 3) := by decide +kernel
theorem dX9_stands_6 : decode cX9_stands 6 = .ok (.ifCond .eq 21, 3) := by decide +kernel
theorem dX9_stands_9 : decode cX9_stands 9 = .ok (.aload_n 0, 1) := by decide +kernel
theorem dX9_stands_10 : decode cX9_stands 10 = .ok (.getfield 13, 3) := by decide +kernel
theorem dX9_stands_13 : decode cX9_stands 13 = .ok (.bipush 12, 2) := by decide +kernel
theorem dX9_stands_15 : decode cX9_stands 15 = .ok (.iaload, 1) := by decide +kernel
theorem dX9_stands_16 : decode cX9_stands 16 = .ok (.iload_n 1, 1) := by decide +kernel
theorem dX9_stands_17 : decode cX9_stands 17 = .ok (.invokestatic 67, 3) := by decide +kernel
theorem dX9_stands_20 : decode cX9_stands 20 = .ok (.ifCond .eq 7, 3) := by decide +kernel
theorem dX9_stands_23 : decode cX9_stands 23 = .ok (.iconst 1, 1) := by decide +kernel
theorem dX9_stands_24 : decode cX9_stands 24 = .ok (.goto 4, 3) := by decide +kernel
theorem dX9_stands_27 : decode cX9_stands 27 = .ok (.iconst 0, 1) := by decide +kernel
theorem dX9_stands_28 : decode cX9_stands 28 = .ok (.ireturn, 1) := by decide +kernel
theorem dX9_grip_0 : decode cX9_grip 0 = .ok (.aload_n 0, 1) := by decide +kernel
theorem dX9_grip_1 : decode cX9_grip 1 = .ok (.iload_n 1, 1) := by decide +kernel
theorem dX9_grip_2 : decode cX9_grip 2 = .ok (.invokevirtual 92, 3) := by decide +kernel
theorem dX9_grip_5 : decode cX9_grip 5 = .ok (.ifCond .ne 5, 3) := by decide +kernel
theorem dX9_grip_8 : decode cX9_grip 8 = .ok (.iconst 1, 1) := by decide +kernel
theorem dX9_grip_9 : decode cX9_grip 9 = .ok (.ireturn, 1) := by decide +kernel
theorem dX9_grip_10 : decode cX9_grip 10 = .ok (.aload_n 0, 1) := by decide +kernel
theorem dX9_grip_11 : decode cX9_grip 11 = .ok (.getfield 16, 3) := by decide +kernel
theorem dX9_grip_14 : decode cX9_grip 14 = .ok (.iload_n 2, 1) := by decide +kernel
theorem dX9_grip_15 : decode cX9_grip 15 = .ok (.iaload, 1) := by decide +kernel
theorem dX9_grip_16 : decode cX9_grip 16 = .ok (.aload_n 0, 1) := by decide +kernel
theorem dX9_grip_17 : decode cX9_grip 17 = .ok (.getfield 13, 3) := by decide +kernel
theorem dX9_grip_20 : decode cX9_grip 20 = .ok (.bipush 6, 2) := by decide +kernel
theorem dX9_grip_22 : decode cX9_grip 22 = .ok (.iload_n 1, 1) := by decide +kernel
theorem dX9_grip_23 : decode cX9_grip 23 = .ok (.iadd, 1) := by decide +kernel
