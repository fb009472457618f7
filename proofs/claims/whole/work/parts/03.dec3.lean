theorem dX9_grip_24 : decode cX9_grip 24 = .ok (.iaload, 1) := by decide +kernel
theorem dX9_grip_25 : decode cX9_grip 25 = .ok (.iconst (-1), 1) := by decide +kernel
theorem dX9_grip_26 : decode cX9_grip 26 = .ok (.ixor, 1) := by decide +kernel
theorem dX9_grip_27 : decode cX9_grip 27 = .ok (.iand, 1) := by decide +kernel
theorem dX9_grip_28 : decode cX9_grip 28 = .ok (.ifCond .eq 5, 3) := by decide +kernel
theorem dX9_grip_31 : decode cX9_grip 31 = .ok (.iconst 2, 1) := by decide +kernel
theorem dX9_grip_32 : decode cX9_grip 32 = .ok (.ireturn, 1) := by decide +kernel
theorem dX9_grip_33 : decode cX9_grip 33 = .ok (.aload_n 0, 1) := by decide +kernel
theorem dX9_grip_34 : decode cX9_grip 34 = .ok (.getfield 13, 3) := by decide +kernel
theorem dX9_grip_37 : decode cX9_grip 37 = .ok (.bipush 13, 2) := by decide +kernel
theorem dX9_grip_39 : decode cX9_grip 39 = .ok (.iaload, 1) := by decide +kernel
theorem dX9_grip_40 : decode cX9_grip 40 = .ok (.aload_n 0, 1) := by decide +kernel
theorem dX9_grip_41 : decode cX9_grip 41 = .ok (.getfield 22, 3) := by decide +kernel
theorem dX9_grip_44 : decode cX9_grip 44 = .ok (.iload_n 2, 1) := by decide +kernel
theorem dX9_grip_45 : decode cX9_grip 45 = .ok (.iaload, 1) := by decide +kernel
theorem dX9_grip_46 : decode cX9_grip 46 = .ok (.if_icmp .ge 5, 3) := by decide +kernel
theorem dX9_grip_49 : decode cX9_grip 49 = .ok (.iconst 3, 1) := by decide +kernel
theorem dX9_grip_50 : decode cX9_grip 50 = .ok (.ireturn, 1) := by decide +kernel
theorem dX9_grip_51 : decode cX9_grip 51 = .ok (.aload_n 0, 1) := by decide +kernel
theorem dX9_grip_52 : decode cX9_grip 52 = .ok (.getfield 13, 3) := by decide +kernel
theorem dX9_grip_55 : decode cX9_grip 55 = .ok (.bipush 13, 2) := by decide +kernel
theorem dX9_grip_57 : decode cX9_grip 57 = .ok (.dup2, 1) := by decide +kernel
theorem dX9_grip_58 : decode cX9_grip 58 = .ok (.iaload, 1) := by decide +kernel
theorem dX9_grip_59 : decode cX9_grip 59 = .ok (.aload_n 0, 1) := by decide +kernel
theorem dX9_grip_60 : decode cX9_grip 60 = .ok (.getfield 22, 3) := by decide +kernel
theorem dX9_grip_63 : decode cX9_grip 63 = .ok (.iload_n 2, 1) := by decide +kernel
theorem dX9_grip_64 : decode cX9_grip 64 = .ok (.iaload, 1) := by decide +kernel
theorem dX9_grip_65 : decode cX9_grip 65 = .ok (.isub, 1) := by decide +kernel
theorem dX9_grip_66 : decode cX9_grip 66 = .ok (.iastore, 1) := by decide +kernel
theorem dX9_grip_67 : decode cX9_grip 67 = .ok (.aload_n 0, 1) := by decide +kernel
theorem dX9_grip_68 : decode cX9_grip 68 = .ok (.getfield 13, 3) := by decide +kernel
theorem dX9_grip_71 : decode cX9_grip 71 = .ok (.iload_n 1, 1) := by decide +kernel
theorem dX9_grip_72 : decode cX9_grip 72 = .ok (.dup2, 1) := by decide +kernel
theorem dX9_grip_73 : decode cX9_grip 73 = .ok (.iaload, 1) := by decide +kernel
theorem dX9_grip_74 : decode cX9_grip 74 = .ok (.aload_n 0, 1) := by decide +kernel
theorem dX9_grip_75 : decode cX9_grip 75 = .ok (.getfield 19, 3) := by decide +kernel
theorem dX9_grip_78 : decode cX9_grip 78 = .ok (.iload_n 2, 1) := by decide +kernel
theorem dX9_grip_79 : decode cX9_grip 79 = .ok (.iaload, 1) := by decide +kernel
theorem dX9_grip_80 : decode cX9_grip 80 = .ok (.isub, 1) := by decide +kernel
theorem dX9_grip_81 : decode cX9_grip 81 = .ok (.iastore, 1) := by decide +kernel
theorem dX9_grip_82 : decode cX9_grip 82 = .ok (.aload_n 0, 1) := by decide +kernel
theorem dX9_grip_83 : decode cX9_grip 83 = .ok (.getfield 13, 3) := by decide +kernel
theorem dX9_grip_86 : decode cX9_grip 86 = .ok (.iload_n 1, 1) := by decide +kernel
theorem dX9_grip_87 : decode cX9_grip 87 = .ok (.iaload, 1) := by decide +kernel
theorem dX9_grip_88 : decode cX9_grip 88 = .ok (.iconst 1, 1) := by decide +kernel
theorem dX9_grip_89 : decode cX9_grip 89 = .ok (.if_icmp .ge 28, 3) := by decide +kernel
theorem dX9_grip_92 : decode cX9_grip 92 = .ok (.aload_n 0, 1) := by decide +kernel
theorem dX9_grip_93 : decode cX9_grip 93 = .ok (.getfield 13, 3) := by decide +kernel
theorem dX9_grip_96 : decode cX9_grip 96 = .ok (.bipush 12, 2) := by decide +kernel
theorem dX9_grip_98 : decode cX9_grip 98 = .ok (.dup2, 1) := by decide +kernel
theorem dX9_grip_99 : decode cX9_grip 99 = .ok (.iaload, 1) := by decide +kernel
theorem dX9_grip_100 : decode cX9_grip 100 = .ok (.iconst 1, 1) := by decide +kernel
theorem dX9_grip_101 : decode cX9_grip 101 = .ok (.iload_n 1, 1) := by decide +kernel
theorem dX9_grip_102 : decode cX9_grip 102 = .ok (.ishl, 1) := by decide +kernel
theorem dX9_grip_103 : decode cX9_grip 103 = .ok (.iconst (-1), 1) := by decide +kernel
theorem dX9_grip_104 : decode cX9_grip 104 = .ok (.ixor, 1) := by decide +kernel
theorem dX9_grip_105 : decode cX9_grip 105 = .ok (.iand, 1) := by decide +kernel
theorem dX9_grip_106 : decode cX9_grip 106 = .ok (.iastore, 1) := by decide +kernel
theorem dX9_grip_107 : decode cX9_grip 107 = .ok (.aload_n 0, 1) := by decide +kernel
theorem dX9_grip_108 : decode cX9_grip 108 = .ok (.dup, 1) := by decide +kernel
theorem dX9_grip_109 : decode cX9_grip 109 = .ok (.getfield 83, 3) := by decide +kernel
theorem dX9_grip_112 : decode cX9_grip 112 = .ok (.iconst 1, 1) := by decide +kernel
theorem dX9_grip_113 : decode cX9_grip 113 = .ok (.iadd, 1) := by decide +kernel
theorem dX9_grip_114 : decode cX9_grip 114 = .ok (.putfield 83, 3) := by decide +kernel
theorem dX9_grip_117 : decode cX9_grip 117 = .ok (.iconst 0, 1) := by decide +kernel
theorem dX9_grip_118 : decode cX9_grip 118 = .ok (.ireturn, 1) := by decide +kernel
theorem dX9_join_0 : decode cX9_join 0 = .ok (.aload_n 0, 1) := by decide +kernel
theorem dX9_join_1 : decode cX9_join 1 = .ok (.iload_n 1, 1) := by decide +kernel
theorem dX9_join_2 : decode cX9_join 2 = .ok (.invokevirtual 92, 3) := by decide +kernel
theorem dX9_join_5 : decode cX9_join 5 = .ok (.ifCond .eq 11, 3) := by decide +kernel
theorem dX9_join_8 : decode cX9_join 8 = .ok (.aload_n 0, 1) := by decide +kernel
theorem dX9_join_9 : decode cX9_join 9 = .ok (.iload_n 2, 1) := by decide +kernel
theorem dX9_join_10 : decode cX9_join 10 = .ok (.invokevirtual 92, 3) := by decide +kernel
theorem dX9_join_13 : decode cX9_join 13 = .ok (.ifCond .ne 5, 3) := by decide +kernel
theorem dX9_join_16 : decode cX9_join 16 = .ok (.iconst 1, 1) := by decide +kernel
theorem dX9_join_17 : decode cX9_join 17 = .ok (.ireturn, 1) := by decide +kernel
theorem dX9_join_18 : decode cX9_join 18 = .ok (.iload_n 1, 1) := by decide +kernel
theorem dX9_join_19 : decode cX9_join 19 = .ok (.iload_n 2, 1) := by decide +kernel
theorem dX9_join_20 : decode cX9_join 20 = .ok (.if_icmp .ne 5, 3) := by decide +kernel
theorem dX9_join_23 : decode cX9_join 23 = .ok (.iconst 4, 1) := by decide +kernel
theorem dX9_join_24 : decode cX9_join 24 = .ok (.ireturn, 1) := by decide +kernel
theorem dX9_join_25 : decode cX9_join 25 = .ok (.aload_n 0, 1) := by decide +kernel
theorem dX9_join_26 : decode cX9_join 26 = .ok (.getfield 13, 3) := by decide +kernel
theorem dX9_join_29 : decode cX9_join 29 = .ok (.iload_n 1, 1) := by decide +kernel
theorem dX9_join_30 : decode cX9_join 30 = .ok (.aload_n 0, 1) := by decide +kernel
theorem dX9_join_31 : decode cX9_join 31 = .ok (.getfield 13, 3) := by decide +kernel
theorem dX9_join_34 : decode cX9_join 34 = .ok (.iload_n 1, 1) := by decide +kernel
theorem dX9_join_35 : decode cX9_join 35 = .ok (.iaload, 1) := by decide +kernel
theorem dX9_join_36 : decode cX9_join 36 = .ok (.aload_n 0, 1) := by decide +kernel
theorem dX9_join_37 : decode cX9_join 37 = .ok (.getfield 13, 3) := by decide +kernel
theorem dX9_join_40 : decode cX9_join 40 = .ok (.iload_n 2, 1) := by decide +kernel
theorem dX9_join_41 : decode cX9_join 41 = .ok (.iaload, 1) := by decide +kernel
theorem dX9_join_42 : decode cX9_join 42 = .ok (.iadd, 1) := by decide +kernel
theorem dX9_join_43 : decode cX9_join 43 = .ok (.bipush 99, 2) := by decide +kernel
theorem dX9_join_45 : decode cX9_join 45 = .ok (.if_icmp .le 8, 3) := by decide +kernel
theorem dX9_join_48 : decode cX9_join 48 = .ok (.bipush 99, 2) := by decide +kernel
theorem dX9_join_50 : decode cX9_join 50 = .ok (.goto 16, 3) := by decide +kernel
theorem dX9_join_53 : decode cX9_join 53 = .ok (.aload_n 0, 1) := by decide +kernel
theorem dX9_join_54 : decode cX9_join 54 = .ok (.getfield 13, 3) := by decide +kernel
theorem dX9_join_57 : decode cX9_join 57 = .ok (.iload_n 1, 1) := by decide +kernel
theorem dX9_join_58 : decode cX9_join 58 = .ok (.iaload, 1) := by decide +kernel
theorem dX9_join_59 : decode cX9_join 59 = .ok (.aload_n 0, 1) := by decide +kernel
theorem dX9_join_60 : decode cX9_join 60 = .ok (.getfield 13, 3) := by decide +kernel
theorem dX9_join_63 : decode cX9_join 63 = .ok (.iload_n 2, 1) := by decide +kernel
theorem dX9_join_64 : decode cX9_join 64 = .ok (.iaload, 1) := by decide +kernel
theorem dX9_join_65 : decode cX9_join 65 = .ok (.iadd, 1) := by decide +kernel
theorem dX9_join_66 : decode cX9_join 66 = .ok (.iastore, 1) := by decide +kernel
theorem dX9_join_67 : decode cX9_join 67 = .ok (.aload_n 0, 1) := by decide +kernel
theorem dX9_join_68 : decode cX9_join 68 = .ok (.getfield 13, 3) := by decide +kernel
theorem dX9_join_71 : decode cX9_join 71 = .ok (.bipush 6, 2) := by decide +kernel
theorem dX9_join_73 : decode cX9_join 73 = .ok (.iload_n 1, 1) := by decide +kernel
theorem dX9_join_74 : decode cX9_join 74 = .ok (.iadd, 1) := by decide +kernel
theorem dX9_join_75 : decode cX9_join 75 = .ok (.dup2, 1) := by decide +kernel
theorem dX9_join_76 : decode cX9_join 76 = .ok (.iaload, 1) := by decide +kernel
theorem dX9_join_77 : decode cX9_join 77 = .ok (.aload_n 0, 1) := by decide +kernel
theorem dX9_join_78 : decode cX9_join 78 = .ok (.getfield 13, 3) := by decide +kernel
theorem dX9_join_81 : decode cX9_join 81 = .ok (.bipush 6, 2) := by decide +kernel
theorem dX9_join_83 : decode cX9_join 83 = .ok (.iload_n 2, 1) := by decide +kernel
theorem dX9_join_84 : decode cX9_join 84 = .ok (.iadd, 1) := by decide +kernel
theorem dX9_join_85 : decode cX9_join 85 = .ok (.iaload, 1) := by decide +kernel
theorem dX9_join_86 : decode cX9_join 86 = .ok (.ior, 1) := by decide +kernel
theorem dX9_join_87 : decode cX9_join 87 = .ok (.iastore, 1) := by decide +kernel
theorem dX9_join_88 : decode cX9_join 88 = .ok (.aload_n 0, 1) := by decide +kernel
theorem dX9_join_89 : decode cX9_join 89 = .ok (.getfield 13, 3) := by decide +kernel
theorem dX9_join_92 : decode cX9_join 92 = .ok (.bipush 12, 2) := by decide +kernel
theorem dX9_join_94 : decode cX9_join 94 = .ok (.dup2, 1) := by decide +kernel
theorem dX9_join_95 : decode cX9_join 95 = .ok (.iaload, 1) := by decide +kernel
theorem dX9_join_96 : decode cX9_join 96 = .ok (.iconst 1, 1) := by decide +kernel
theorem dX9_join_97 : decode cX9_join 97 = .ok (.iload_n 2, 1) := by decide +kernel
theorem dX9_join_98 : decode cX9_join 98 = .ok (.ishl, 1) := by decide +kernel
theorem dX9_join_99 : decode cX9_join 99 = .ok (.iconst (-1), 1) := by decide +kernel
theorem dX9_join_100 : decode cX9_join 100 = .ok (.ixor, 1) := by decide +kernel
theorem dX9_join_101 : decode cX9_join 101 = .ok (.iand, 1) := by decide +kernel
theorem dX9_join_102 : decode cX9_join 102 = .ok (.iastore, 1) := by decide +kernel
theorem dX9_join_103 : decode cX9_join 103 = .ok (.iconst 0, 1) := by decide +kernel
theorem dX9_join_104 : decode cX9_join 104 = .ok (.ireturn, 1) := by decide +kernel
theorem dX9_sitBy_0 : decode cX9_sitBy 0 = .ok (.aload_n 0, 1) := by decide +kernel
theorem dX9_sitBy_1 : decode cX9_sitBy 1 = .ok (.iload_n 1, 1) := by decide +kernel
theorem dX9_sitBy_2 : decode cX9_sitBy 2 = .ok (.invokevirtual 92, 3) := by decide +kernel
theorem dX9_sitBy_5 : decode cX9_sitBy 5 = .ok (.ifCond .ne 5, 3) := by decide +kernel
theorem dX9_sitBy_8 : decode cX9_sitBy 8 = .ok (.iconst 1, 1) := by decide +kernel
theorem dX9_sitBy_9 : decode cX9_sitBy 9 = .ok (.ireturn, 1) := by decide +kernel
theorem dX9_sitBy_10 : decode cX9_sitBy 10 = .ok (.aload_n 0, 1) := by decide +kernel
theorem dX9_sitBy_11 : decode cX9_sitBy 11 = .ok (.getfield 13, 3) := by decide +kernel
theorem dX9_sitBy_14 : decode cX9_sitBy 14 = .ok (.bipush 13, 2) := by decide +kernel
theorem dX9_sitBy_16 : decode cX9_sitBy 16 = .ok (.iaload, 1) := by decide +kernel
theorem dX9_sitBy_17 : decode cX9_sitBy 17 = .ok (.bipush 10, 2) := by decide +kernel
theorem dX9_sitBy_19 : decode cX9_sitBy 19 = .ok (.if_icmp .ge 5, 3) := by decide +kernel
theorem dX9_sitBy_22 : decode cX9_sitBy 22 = .ok (.iconst 3, 1) := by decide +kernel
theorem dX9_sitBy_23 : decode cX9_sitBy 23 = .ok (.ireturn, 1) := by decide +kernel
theorem dX9_sitBy_24 : decode cX9_sitBy 24 = .ok (.aload_n 0, 1) := by decide +kernel
theorem dX9_sitBy_25 : decode cX9_sitBy 25 = .ok (.getfield 13, 3) := by decide +kernel
theorem dX9_sitBy_28 : decode cX9_sitBy 28 = .ok (.bipush 13, 2) := by decide +kernel
theorem dX9_sitBy_30 : decode cX9_sitBy 30 = .ok (.dup2, 1) := by decide +kernel
theorem dX9_sitBy_31 : decode cX9_sitBy 31 = .ok (.iaload, 1) := by decide +kernel
theorem dX9_sitBy_32 : decode cX9_sitBy 32 = .ok (.bipush 10, 2) := by decide +kernel
theorem dX9_sitBy_34 : decode cX9_sitBy 34 = .ok (.isub, 1) := by decide +kernel
theorem dX9_sitBy_35 : decode cX9_sitBy 35 = .ok (.iastore, 1) := by decide +kernel
theorem dX9_sitBy_36 : decode cX9_sitBy 36 = .ok (.aload_n 0, 1) := by decide +kernel
theorem dX9_sitBy_37 : decode cX9_sitBy 37 = .ok (.getfield 13, 3) := by decide +kernel
theorem dX9_sitBy_40 : decode cX9_sitBy 40 = .ok (.iload_n 1, 1) := by decide +kernel
theorem dX9_sitBy_41 : decode cX9_sitBy 41 = .ok (.aload_n 0, 1) := by decide +kernel
theorem dX9_sitBy_42 : decode cX9_sitBy 42 = .ok (.getfield 13, 3) := by decide +kernel
theorem dX9_sitBy_45 : decode cX9_sitBy 45 = .ok (.iload_n 1, 1) := by decide +kernel
theorem dX9_sitBy_46 : decode cX9_sitBy 46 = .ok (.iaload, 1) := by decide +kernel
theorem dX9_sitBy_47 : decode cX9_sitBy 47 = .ok (.iconst 2, 1) := by decide +kernel
theorem dX9_sitBy_48 : decode cX9_sitBy 48 = .ok (.if_icmp .ge 7, 3) := by decide +kernel
theorem dX9_sitBy_51 : decode cX9_sitBy 51 = .ok (.iconst 1, 1) := by decide +kernel
theorem dX9_sitBy_52 : decode cX9_sitBy 52 = .ok (.goto 11, 3) := by decide +kernel
theorem dX9_sitBy_55 : decode cX9_sitBy 55 = .ok (.aload_n 0, 1) := by decide +kernel
theorem dX9_sitBy_56 : decode cX9_sitBy 56 = .ok (.getfield 13, 3) := by decide +kernel
theorem dX9_sitBy_59 : decode cX9_sitBy 59 = .ok (.iload_n 1, 1) := by decide +kernel
theorem dX9_sitBy_60 : decode cX9_sitBy 60 = .ok (.iaload, 1) := by decide +kernel
theorem dX9_sitBy_61 : decode cX9_sitBy 61 = .ok (.iconst 2, 1) := by decide +kernel
theorem dX9_sitBy_62 : decode cX9_sitBy 62 = .ok (.idiv, 1) := by decide +kernel
theorem dX9_sitBy_63 : decode cX9_sitBy 63 = .ok (.iastore, 1) := by decide +kernel
theorem dX9_sitBy_64 : decode cX9_sitBy 64 = .ok (.iconst 0, 1) := by decide +kernel
theorem dX9_sitBy_65 : decode cX9_sitBy 65 = .ok (.ireturn, 1) := by decide +kernel
theorem dX9_rest_0 : decode cX9_rest 0 = .ok (.aload_n 0, 1) := by decide +kernel
theorem dX9_rest_1 : decode cX9_rest 1 = .ok (.getfield 13, 3) := by decide +kernel
theorem dX9_rest_4 : decode cX9_rest 4 = .ok (.bipush 13, 2) := by decide +kernel
theorem dX9_rest_6 : decode cX9_rest 6 = .ok (.iaload, 1) := by decide +kernel
theorem dX9_rest_7 : decode cX9_rest 7 = .ok (.bipush 99, 2) := by decide +kernel
theorem dX9_rest_9 : decode cX9_rest 9 = .ok (.if_icmp .ne 5, 3) := by decide +kernel
theorem dX9_rest_12 : decode cX9_rest 12 = .ok (.iconst 5, 1) := by decide +kernel
theorem dX9_rest_13 : decode cX9_rest 13 = .ok (.ireturn, 1) := by decide +kernel
theorem dX9_rest_14 : decode cX9_rest 14 = .ok (.aload_n 0, 1) := by decide +kernel
theorem dX9_rest_15 : decode cX9_rest 15 = .ok (.getfield 13, 3) := by decide +kernel
theorem dX9_rest_18 : decode cX9_rest 18 = .ok (.bipush 13, 2) := by decide +kernel
theorem dX9_rest_20 : decode cX9_rest 20 = .ok (.aload_n 0, 1) := by decide +kernel
theorem dX9_rest_21 : decode cX9_rest 21 = .ok (.getfield 13, 3) := by decide +kernel
theorem dX9_rest_24 : decode cX9_rest 24 = .ok (.bipush 13, 2) := by decide +kernel
theorem dX9_rest_26 : decode cX9_rest 26 = .ok (.iaload, 1) := by decide +kernel
theorem dX9_rest_27 : decode cX9_rest 27 = .ok (.bipush 79, 2) := by decide +kernel
theorem dX9_rest_29 : decode cX9_rest 29 = .ok (.if_icmp .le 8, 3) := by decide +kernel
theorem dX9_rest_32 : decode cX9_rest 32 = .ok (.bipush 99, 2) := by decide +kernel
theorem dX9_rest_34 : decode cX9_rest 34 = .ok (.goto 13, 3) := by decide +kernel
theorem dX9_rest_37 : decode cX9_rest 37 = .ok (.aload_n 0, 1) := by decide +kernel
theorem dX9_rest_38 : decode cX9_rest 38 = .ok (.getfield 13, 3) := by decide +kernel
theorem dX9_rest_41 : decode cX9_rest 41 = .ok (.bipush 13, 2) := by decide +kernel
theorem dX9_rest_43 : decode cX9_rest 43 = .ok (.iaload, 1) := by decide +kernel
theorem dX9_rest_44 : decode cX9_rest 44 = .ok (.bipush 20, 2) := by decide +kernel
theorem dX9_rest_46 : decode cX9_rest 46 = .ok (.iadd, 1) := by decide +kernel
theorem dX9_rest_47 : decode cX9_rest 47 = .ok (.iastore, 1) := by decide +kernel
theorem dX9_rest_48 : decode cX9_rest 48 = .ok (.iconst 0, 1) := by decide +kernel
theorem dX9_rest_49 : decode cX9_rest 49 = .ok (.ireturn, 1) := by decide +kernel
theorem dX9_endHour_0 : decode cX9_endHour 0 = .ok (.aload_n 0, 1) := by decide +kernel
theorem dX9_endHour_1 : decode cX9_endHour 1 = .ok (.getfield 13, 3) := by decide +kernel
theorem dX9_endHour_4 : decode cX9_endHour 4 = .ok (.bipush 14, 2) := by decide +kernel
theorem dX9_endHour_6 : decode cX9_endHour 6 = .ok (.iaload, 1) := by decide +kernel
theorem dX9_endHour_7 : decode cX9_endHour 7 = .ok (.bipush 99, 2) := by decide +kernel
theorem dX9_endHour_9 : decode cX9_endHour 9 = .ok (.if_icmp .ne 6, 3) := by decide +kernel
theorem dX9_endHour_12 : decode cX9_endHour 12 = .ok (.bipush 6, 2) := by decide +kernel
theorem dX9_endHour_14 : decode cX9_endHour 14 = .ok (.ireturn, 1) := by decide +kernel
theorem dX9_endHour_15 : decode cX9_endHour 15 = .ok (.aload_n 0, 1) := by decide +kernel
theorem dX9_endHour_16 : decode cX9_endHour 16 = .ok (.getfield 13, 3) := by decide +kernel
theorem dX9_endHour_19 : decode cX9_endHour 19 = .ok (.bipush 14, 2) := by decide +kernel
theorem dX9_endHour_21 : decode cX9_endHour 21 = .ok (.dup2, 1) := by decide +kernel
theorem dX9_endHour_22 : decode cX9_endHour 22 = .ok (.iaload, 1) := by decide +kernel
theorem dX9_endHour_23 : decode cX9_endHour 23 = .ok (.iconst 1, 1) := by decide +kernel
theorem dX9_endHour_24 : decode cX9_endHour 24 = .ok (.iadd, 1) := by decide +kernel
theorem dX9_endHour_25 : decode cX9_endHour 25 = .ok (.iastore, 1) := by decide +kernel
theorem dX9_endHour_26 : decode cX9_endHour 26 = .ok (.iconst 0, 1) := by decide +kernel
theorem dX9_endHour_27 : decode cX9_endHour 27 = .ok (.istore_n 1, 1) := by decide +kernel
theorem dX9_endHour_28 : decode cX9_endHour 28 = .ok (.iload_n 1, 1) := by decide +kernel
theorem dX9_endHour_29 : decode cX9_endHour 29 = .ok (.bipush 6, 2) := by decide +kernel
theorem dX9_endHour_31 : decode cX9_endHour 31 = .ok (.if_icmp .ge 56, 3) := by decide +kernel
theorem dX9_endHour_34 : decode cX9_endHour 34 = .ok (.aload_n 0, 1) := by decide +kernel
theorem dX9_endHour_35 : decode cX9_endHour 35 = .ok (.getfield 13, 3) := by decide +kernel
theorem dX9_endHour_38 : decode cX9_endHour 38 = .ok (.iload_n 1, 1) := by decide +kernel
theorem dX9_endHour_39 : decode cX9_endHour 39 = .ok (.aload_n 0, 1) := by decide +kernel
theorem dX9_endHour_40 : decode cX9_endHour 40 = .ok (.iload_n 1, 1) := by decide +kernel
theorem dX9_endHour_41 : decode cX9_endHour 41 = .ok (.invokevirtual 92, 3) := by decide +kernel
theorem dX9_endHour_44 : decode cX9_endHour 44 = .ok (.ifCond .ne 12, 3) := by decide +kernel
theorem dX9_endHour_47 : decode cX9_endHour 47 = .ok (.aload_n 0, 1) := by decide +kernel
theorem dX9_endHour_48 : decode cX9_endHour 48 = .ok (.getfield 13, 3) := by decide +kernel
theorem dX9_endHour_51 : decode cX9_endHour 51 = .ok (.iload_n 1, 1) := by decide +kernel
theorem dX9_endHour_52 : decode cX9_endHour 52 = .ok (.iaload, 1) := by decide +kernel
theorem dX9_endHour_53 : decode cX9_endHour 53 = .ok (.goto 27, 3) := by decide +kernel
theorem dX9_endHour_56 : decode cX9_endHour 56 = .ok (.aload_n 0, 1) := by decide +kernel
theorem dX9_endHour_57 : decode cX9_endHour 57 = .ok (.getfield 13, 3) := by decide +kernel
theorem dX9_endHour_60 : decode cX9_endHour 60 = .ok (.iload_n 1, 1) := by decide +kernel
theorem dX9_endHour_61 : decode cX9_endHour 61 = .ok (.iaload, 1) := by decide +kernel
theorem dX9_endHour_62 : decode cX9_endHour 62 = .ok (.bipush 96, 2) := by decide +kernel
theorem dX9_endHour_64 : decode cX9_endHour 64 = .ok (.if_icmp .le 8, 3) := by decide +kernel
theorem dX9_endHour_67 : decode cX9_endHour 67 = .ok (.bipush 99, 2) := by decide +kernel
theorem dX9_endHour_69 : decode cX9_endHour 69 = .ok (.goto 11, 3) := by decide +kernel
theorem dX9_endHour_72 : decode cX9_endHour 72 = .ok (.aload_n 0, 1) := by decide +kernel
theorem dX9_endHour_73 : decode cX9_endHour 73 = .ok (.getfield 13, 3) := by decide +kernel
theorem dX9_endHour_76 : decode cX9_endHour 76 = .ok (.iload_n 1, 1) := by decide +kernel
theorem dX9_endHour_77 : decode cX9_endHour 77 = .ok (.iaload, 1) := by decide +kernel
theorem dX9_endHour_78 : decode cX9_endHour 78 = .ok (.iconst 3, 1) := by decide +kernel
theorem dX9_endHour_79 : decode cX9_endHour 79 = .ok (.iadd, 1) := by decide +kernel
theorem dX9_endHour_80 : decode cX9_endHour 80 = .ok (.iastore, 1) := by decide +kernel
theorem dX9_endHour_81 : decode cX9_endHour 81 = .ok (.iinc 1 1, 3) := by decide +kernel
theorem dX9_endHour_84 : decode cX9_endHour 84 = .ok (.goto (-56), 3) := by decide +kernel
theorem dX9_endHour_87 : decode cX9_endHour 87 = .ok (.aload_n 0, 1) := by decide +kernel
theorem dX9_endHour_88 : decode cX9_endHour 88 = .ok (.getfield 13, 3) := by decide +kernel
theorem dX9_endHour_91 : decode cX9_endHour 91 = .ok (.bipush 13, 2) := by decide +kernel
theorem dX9_endHour_93 : decode cX9_endHour 93 = .ok (.aload_n 0, 1) := by decide +kernel
theorem dX9_endHour_94 : decode cX9_endHour 94 = .ok (.getfield 13, 3) := by decide +kernel
theorem dX9_endHour_97 : decode cX9_endHour 97 = .ok (.bipush 13, 2) := by decide +kernel
theorem dX9_endHour_99 : decode cX9_endHour 99 = .ok (.iaload, 1) := by decide +kernel
theorem dX9_endHour_100 : decode cX9_endHour 100 = .ok (.bipush 94, 2) := by decide +kernel
theorem dX9_endHour_102 : decode cX9_endHour 102 = .ok (.if_icmp .le 8, 3) := by decide +kernel
theorem dX9_endHour_105 : decode cX9_endHour 105 = .ok (.bipush 99, 2) := by decide +kernel
theorem dX9_endHour_107 : decode cX9_endHour 107 = .ok (.goto 12, 3) := by decide +kernel
theorem dX9_endHour_110 : decode cX9_endHour 110 = .ok (.aload_n 0, 1) := by decide +kernel
theorem dX9_endHour_111 : decode cX9_endHour 111 = .ok (.getfield 13, 3) := by decide +kernel
theorem dX9_endHour_114 : decode cX9_endHour 114 = .ok (.bipush 13, 2) := by decide +kernel
theorem dX9_endHour_116 : decode cX9_endHour 116 = .ok (.iaload, 1) := by decide +kernel
theorem dX9_endHour_117 : decode cX9_endHour 117 = .ok (.iconst 5, 1) := by decide +kernel
theorem dX9_endHour_118 : decode cX9_endHour 118 = .ok (.iadd, 1) := by decide +kernel
theorem dX9_endHour_119 : decode cX9_endHour 119 = .ok (.iastore, 1) := by decide +kernel
theorem dX9_endHour_120 : decode cX9_endHour 120 = .ok (.iconst 0, 1) := by decide +kernel
theorem dX9_endHour_121 : decode cX9_endHour 121 = .ok (.ireturn, 1) := by decide +kernel
theorem dX9_griefAct_0 : decode cX9_griefAct 0 = .ok (.iload_n 2, 1) := by decide +kernel
theorem dX9_griefAct_1 : decode cX9_griefAct 1 = .ok (.bipush 43, 2) := by decide +kernel
theorem dX9_griefAct_3 : decode cX9_griefAct 3 = .ok (.if_icmp .ne 12, 3) := by decide +kernel
theorem dX9_griefAct_6 : decode cX9_griefAct 6 = .ok (.aload_n 0, 1) := by decide +kernel
theorem dX9_griefAct_7 : decode cX9_griefAct 7 = .ok (.iload_n 1, 1) := by decide +kernel
theorem dX9_griefAct_8 : decode cX9_griefAct 8 = .ok (.iload_n 3, 1) := by decide +kernel
theorem dX9_griefAct_9 : decode cX9_griefAct 9 = .ok (.invokevirtual 96, 3) := by decide +kernel
theorem dX9_griefAct_12 : decode cX9_griefAct 12 = .ok (.goto 26, 3) := by decide +kernel
theorem dX9_griefAct_15 : decode cX9_griefAct 15 = .ok (.iload_n 2, 1) := by decide +kernel
theorem dX9_griefAct_16 : decode cX9_griefAct 16 = .ok (.bipush 95, 2) := by decide +kernel
theorem dX9_griefAct_18 : decode cX9_griefAct 18 = .ok (.if_icmp .ne 11, 3) := by decide +kernel
theorem dX9_griefAct_21 : decode cX9_griefAct 21 = .ok (.aload_n 0, 1) := by decide +kernel
theorem dX9_griefAct_22 : decode cX9_griefAct 22 = .ok (.iload_n 1, 1) := by decide +kernel
theorem dX9_griefAct_23 : decode cX9_griefAct 23 = .ok (.invokevirtual 100, 3) := by decide +kernel
theorem dX9_griefAct_26 : decode cX9_griefAct 26 = .ok (.goto 12, 3) := by decide +kernel
theorem dX9_griefAct_29 : decode cX9_griefAct 29 = .ok (.aload_n 0, 1) := by decide +kernel
theorem dX9_griefAct_30 : decode cX9_griefAct 30 = .ok (.iload_n 1, 1) := by decide +kernel
theorem dX9_griefAct_31 : decode cX9_griefAct 31 = .ok (.iload_n 2, 1) := by decide +kernel
theorem dX9_griefAct_32 : decode cX9_griefAct 32 = .ok (.bipush 48, 2) := by decide +kernel
theorem dX9_griefAct_34 : decode cX9_griefAct 34 = .ok (.isub, 1) := by decide +kernel
theorem dX9_griefAct_35 : decode cX9_griefAct 35 = .ok (.invokevirtual 103, 3) := by decide +kernel
theorem dX9_griefAct_38 : decode cX9_griefAct 38 = .ok (.ireturn, 1) := by decide +kernel
theorem dX9_goDays_0 : decode cX9_goDays 0 = .ok (.aload_n 0, 1) := by decide +kernel
theorem dX9_goDays_1 : decode cX9_goDays 1 = .ok (.invokevirtual 106, 3) := by decide +kernel
theorem dX9_goDays_4 : decode cX9_goDays 4 = .ok (.aload_n 0, 1) := by decide +kernel
theorem dX9_goDays_5 : decode cX9_goDays 5 = .ok (.iconst 0, 1) := by decide +kernel
theorem dX9_goDays_6 : decode cX9_goDays 6 = .ok (.putfield 109, 3) := by decide +kernel
theorem dX9_goDays_9 : decode cX9_goDays 9 = .ok (.iconst 0, 1) := by decide +kernel
theorem dX9_goDays_10 : decode cX9_goDays 10 = .ok (.istore_n 1, 1) := by decide +kernel
theorem dX9_goDays_11 : decode cX9_goDays 11 = .ok (.iload_n 1, 1) := by decide +kernel
theorem dX9_goDays_12 : decode cX9_goDays 12 = .ok (.aload_n 0, 1) := by decide +kernel
theorem dX9_goDays_13 : decode cX9_goDays 13 = .ok (.getfield 75, 3) := by decide +kernel
theorem dX9_goDays_16 : decode cX9_goDays 16 = .ok (.if_icmp .ge 170, 3) := by decide +kernel
theorem dX9_goDays_19 : decode cX9_goDays 19 = .ok (.aload_n 0, 1) := by decide +kernel
theorem dX9_goDays_20 : decode cX9_goDays 20 = .ok (.getfield 83, 3) := by decide +kernel
theorem dX9_goDays_23 : decode cX9_goDays 23 = .ok (.istore_n 2, 1) := by decide +kernel
theorem dX9_goDays_24 : decode cX9_goDays 24 = .ok (.aload_n 0, 1) := by decide +kernel
theorem dX9_goDays_25 : decode cX9_goDays 25 = .ok (.getfield 34, 3) := by decide +kernel
theorem dX9_goDays_28 : decode cX9_goDays 28 = .ok (.iload_n 1, 1) := by decide +kernel
theorem dX9_goDays_29 : decode cX9_goDays 29 = .ok (.iaload, 1) := by decide +kernel
theorem dX9_goDays_30 : decode cX9_goDays 30 = .ok (.istore_n 3, 1) := by decide +kernel
theorem dX9_goDays_31 : decode cX9_goDays 31 = .ok (.iload_n 3, 1) := by decide +kernel
theorem dX9_goDays_32 : decode cX9_goDays 32 = .ok (.bipush 65, 2) := by decide +kernel
theorem dX9_goDays_34 : decode cX9_goDays 34 = .ok (.bipush 70, 2) := by decide +kernel
theorem dX9_goDays_36 : decode cX9_goDays 36 = .ok (.invokestatic 63, 3) := by decide +kernel
theorem dX9_goDays_39 : decode cX9_goDays 39 = .ok (.ifCond .eq 67, 3) := by decide +kernel
theorem dX9_goDays_42 : decode cX9_goDays 42 = .ok (.aload_n 0, 1) := by decide +kernel
theorem dX9_goDays_43 : decode cX9_goDays 43 = .ok (.getfield 34, 3) := by decide +kernel
theorem dX9_goDays_46 : decode cX9_goDays 46 = .ok (.iload_n 1, 1) := by decide +kernel
theorem dX9_goDays_47 : decode cX9_goDays 47 = .ok (.iconst 1, 1) := by decide +kernel
theorem dX9_goDays_48 : decode cX9_goDays 48 = .ok (.iadd, 1) := by decide +kernel
theorem dX9_goDays_49 : decode cX9_goDays 49 = .ok (.iaload, 1) := by decide +kernel
theorem dX9_goDays_50 : decode cX9_goDays 50 = .ok (.istore 4, 2) := by decide +kernel
theorem dX9_goDays_52 : decode cX9_goDays 52 = .ok (.aload_n 0, 1) := by decide +kernel
theorem dX9_goDays_53 : decode cX9_goDays 53 = .ok (.aload_n 0, 1) := by decide +kernel
theorem dX9_goDays_54 : decode cX9_goDays 54 = .ok (.iload_n 3, 1) := by decide +kernel
theorem dX9_goDays_55 : decode cX9_goDays 55 = .ok (.bipush 65, 2) := by decide +kernel
theorem dX9_goDays_57 : decode cX9_goDays 57 = .ok (.isub, 1) := by decide +kernel
theorem dX9_goDays_58 : decode cX9_goDays 58 = .ok (.iload 4, 2) := by decide +kernel
theorem dX9_goDays_60 : decode cX9_goDays 60 = .ok (.iload 4, 2) := by decide +kernel
theorem dX9_goDays_62 : decode cX9_goDays 62 = .ok (.bipush 43, 2) := by decide +kernel
theorem dX9_goDays_64 : decode cX9_goDays 64 = .ok (.if_icmp .ne 17, 3) := by decide +kernel
theorem dX9_goDays_67 : decode cX9_goDays 67 = .ok (.aload_n 0, 1) := by decide +kernel
theorem dX9_goDays_68 : decode cX9_goDays 68 = .ok (.getfield 34, 3) := by decide +kernel
theorem dX9_goDays_71 : decode cX9_goDays 71 = .ok (.iload_n 1, 1) := by decide +kernel
theorem dX9_goDays_72 : decode cX9_goDays 72 = .ok (.iconst 2, 1) := by decide +kernel
theorem dX9_goDays_73 : decode cX9_goDays 73 = .ok (.iadd, 1) := by decide +kernel
theorem dX9_goDays_74 : decode cX9_goDays 74 = .ok (.iaload, 1) := by decide +kernel
theorem dX9_goDays_75 : decode cX9_goDays 75 = .ok (.bipush 65, 2) := by decide +kernel
theorem dX9_goDays_77 : decode cX9_goDays 77 = .ok (.isub, 1) := by decide +kernel
theorem dX9_goDays_78 : decode cX9_goDays 78 = .ok (.goto 4, 3) := by decide +kernel
theorem dX9_goDays_81 : decode cX9_goDays 81 = .ok (.iconst 0, 1) := by decide +kernel
theorem dX9_goDays_82 : decode cX9_goDays 82 = .ok (.invokevirtual 112, 3) := by decide +kernel
theorem dX9_goDays_85 : decode cX9_goDays 85 = .ok (.putfield 116, 3) := by decide +kernel
theorem dX9_goDays_88 : decode cX9_goDays 88 = .ok (.iload_n 1, 1) := by decide +kernel
theorem dX9_goDays_89 : decode cX9_goDays 89 = .ok (.iload 4, 2) := by decide +kernel
theorem dX9_goDays_91 : decode cX9_goDays 91 = .ok (.bipush 43, 2) := by decide +kernel
theorem dX9_goDays_93 : decode cX9_goDays 93 = .ok (.if_icmp .ne 7, 3) := by decide +kernel
theorem dX9_goDays_96 : decode cX9_goDays 96 = .ok (.iconst 3, 1) := by decide +kernel
theorem dX9_goDays_97 : decode cX9_goDays 97 = .ok (.goto 4, 3) := by decide +kernel
theorem dX9_goDays_100 : decode cX9_goDays 100 = .ok (.iconst 2, 1) := by decide +kernel
theorem dX9_goDays_101 : decode cX9_goDays 101 = .ok (.iadd, 1) := by decide +kernel
theorem dX9_goDays_102 : decode cX9_goDays 102 = .ok (.istore_n 1, 1) := by decide +kernel
theorem dX9_goDays_103 : decode cX9_goDays 103 = .ok (.goto 27, 3) := by decide +kernel
theorem dX9_goDays_106 : decode cX9_goDays 106 = .ok (.aload_n 0, 1) := by decide +kernel
theorem dX9_goDays_107 : decode cX9_goDays 107 = .ok (.iload_n 3, 1) := by decide +kernel
theorem dX9_goDays_108 : decode cX9_goDays 108 = .ok (.bipush 126, 2) := by decide +kernel
theorem dX9_goDays_110 : decode cX9_goDays 110 = .ok (.if_icmp .ne 10, 3) := by decide +kernel
theorem dX9_goDays_113 : decode cX9_goDays 113 = .ok (.aload_n 0, 1) := by decide +kernel
theorem dX9_goDays_114 : decode cX9_goDays 114 = .ok (.invokevirtual 119, 3) := by decide +kernel
theorem dX9_goDays_117 : decode cX9_goDays 117 = .ok (.goto 7, 3) := by decide +kernel
theorem dX9_goDays_120 : decode cX9_goDays 120 = .ok (.aload_n 0, 1) := by decide +kernel
theorem dX9_goDays_121 : decode cX9_goDays 121 = .ok (.invokevirtual 122, 3) := by decide +kernel
theorem dX9_goDays_124 : decode cX9_goDays 124 = .ok (.putfield 116, 3) := by decide +kernel
theorem dX9_goDays_127 : decode cX9_goDays 127 = .ok (.iinc 1 1, 3) := by decide +kernel
theorem dX9_goDays_130 : decode cX9_goDays 130 = .ok (.aload_n 0, 1) := by decide +kernel
theorem dX9_goDays_131 : decode cX9_goDays 131 = .ok (.getfield 116, 3) := by decide +kernel
theorem dX9_goDays_134 : decode cX9_goDays 134 = .ok (.ifCond .le 8, 3) := by decide +kernel
theorem dX9_goDays_137 : decode cX9_goDays 137 = .ok (.aload_n 0, 1) := by decide +kernel
theorem dX9_goDays_138 : decode cX9_goDays 138 = .ok (.getfield 109, 3) := by decide +kernel
theorem dX9_goDays_141 : decode cX9_goDays 141 = .ok (.ireturn, 1) := by decide +kernel
theorem dX9_goDays_142 : decode cX9_goDays 142 = .ok (.aload_n 0, 1) := by decide +kernel
theorem dX9_goDays_143 : decode cX9_goDays 143 = .ok (.getfield 83, 3) := by decide +kernel
theorem dX9_goDays_146 : decode cX9_goDays 146 = .ok (.iload_n 2, 1) := by decide +kernel
theorem dX9_goDays_147 : decode cX9_goDays 147 = .ok (.if_icmp .le 26, 3) := by decide +kernel
theorem dX9_goDays_150 : decode cX9_goDays 150 = .ok (.aload_n 0, 1) := by decide +kernel
theorem dX9_goDays_151 : decode cX9_goDays 151 = .ok (.getfield 86, 3) := by decide +kernel
theorem dX9_goDays_154 : decode cX9_goDays 154 = .ok (.ifCond .ge 19, 3) := by decide +kernel
theorem dX9_goDays_157 : decode cX9_goDays 157 = .ok (.aload_n 0, 1) := by decide +kernel
theorem dX9_goDays_158 : decode cX9_goDays 158 = .ok (.aload_n 0, 1) := by decide +kernel
theorem dX9_goDays_159 : decode cX9_goDays 159 = .ok (.getfield 109, 3) := by decide +kernel
theorem dX9_goDays_162 : decode cX9_goDays 162 = .ok (.putfield 86, 3) := by decide +kernel
theorem dX9_goDays_165 : decode cX9_goDays 165 = .ok (.aload_n 0, 1) := by decide +kernel
theorem dX9_goDays_166 : decode cX9_goDays 166 = .ok (.iload_n 3, 1) := by decide +kernel
theorem dX9_goDays_167 : decode cX9_goDays 167 = .ok (.bipush 65, 2) := by decide +kernel
theorem dX9_goDays_169 : decode cX9_goDays 169 = .ok (.isub, 1) := by decide +kernel
theorem dX9_goDays_170 : decode cX9_goDays 170 = .ok (.putfield 89, 3) := by decide +kernel
theorem dX9_goDays_173 : decode cX9_goDays 173 = .ok (.aload_n 0, 1) := by decide +kernel
theorem dX9_goDays_174 : decode cX9_goDays 174 = .ok (.dup, 1) := by decide +kernel
theorem dX9_goDays_175 : decode cX9_goDays 175 = .ok (.getfield 109, 3) := by decide +kernel
theorem dX9_goDays_178 : decode cX9_goDays 178 = .ok (.iconst 1, 1) := by decide +kernel
theorem dX9_goDays_179 : decode cX9_goDays 179 = .ok (.iadd, 1) := by decide +kernel
theorem dX9_goDays_180 : decode cX9_goDays 180 = .ok (.putfield 109, 3) := by decide +kernel
theorem dX9_goDays_183 : decode cX9_goDays 183 = .ok (.goto (-172), 3) := by decide +kernel
theorem dX9_goDays_186 : decode cX9_goDays 186 = .ok (.bipush (-6), 2) := by decide +kernel
theorem dX9_goDays_188 : decode cX9_goDays 188 = .ok (.ireturn, 1) := by decide +kernel
theorem dX9_judge_0 : decode cX9_judge 0 = .ok (.iload_n 1, 1) := by decide +kernel
theorem dX9_judge_1 : decode cX9_judge 1 = .ok (.iconst 0, 1) := by decide +kernel
theorem dX9_judge_2 : decode cX9_judge 2 = .ok (.iconst 1, 1) := by decide +kernel
theorem dX9_judge_3 : decode cX9_judge 3 = .ok (.invokestatic 63, 3) := by decide +kernel
theorem dX9_judge_6 : decode cX9_judge 6 = .ok (.ifCond .ne 6, 3) := by decide +kernel
theorem dX9_judge_9 : decode cX9_judge 9 = .ok (.bipush (-2), 2) := by decide +kernel
theorem dX9_judge_11 : decode cX9_judge 11 = .ok (.ireturn, 1) := by decide +kernel
theorem dX9_judge_12 : decode cX9_judge 12 = .ok (.aload_n 0, 1) := by decide +kernel
theorem dX9_judge_13 : decode cX9_judge 13 = .ok (.invokevirtual 79, 3) := by decide +kernel
theorem dX9_judge_16 : decode cX9_judge 16 = .ok (.ifCond .lt 6, 3) := by decide +kernel
theorem dX9_judge_19 : decode cX9_judge 19 = .ok (.bipush (-5), 2) := by decide +kernel
theorem dX9_judge_21 : decode cX9_judge 21 = .ok (.ireturn, 1) := by decide +kernel
theorem dX9_judge_22 : decode cX9_judge 22 = .ok (.aload_n 0, 1) := by decide +kernel
theorem dX9_judge_23 : decode cX9_judge 23 = .ok (.invokevirtual 125, 3) := by decide +kernel
theorem dX9_judge_26 : decode cX9_judge 26 = .ok (.istore_n 2, 1) := by decide +kernel
theorem dX9_judge_27 : decode cX9_judge 27 = .ok (.iload_n 2, 1) := by decide +kernel
theorem dX9_judge_28 : decode cX9_judge 28 = .ok (.ifCond .lt 7, 3) := by decide +kernel
theorem dX9_judge_31 : decode cX9_judge 31 = .ok (.iload_n 1, 1) := by decide +kernel
theorem dX9_judge_32 : decode cX9_judge 32 = .ok (.ifCond .ne 7, 3) := by decide +kernel
theorem dX9_judge_35 : decode cX9_judge 35 = .ok (.iload_n 2, 1) := by decide +kernel
theorem dX9_judge_36 : decode cX9_judge 36 = .ok (.goto 7, 3) := by decide +kernel
theorem dX9_judge_39 : decode cX9_judge 39 = .ok (.aload_n 0, 1) := by decide +kernel
theorem dX9_judge_40 : decode cX9_judge 40 = .ok (.getfield 116, 3) := by decide +kernel
theorem dX9_judge_43 : decode cX9_judge 43 = .ok (.ireturn, 1) := by decide +kernel
theorem dX9_barOfDays_0 : decode cX9_barOfDays 0 = .ok (.aload_n 0, 1) := by decide +kernel
theorem dX9_barOfDays_1 : decode cX9_barOfDays 1 = .ok (.invokevirtual 79, 3) := by decide +kernel
theorem dX9_barOfDays_4 : decode cX9_barOfDays 4 = .ok (.ifCond .ge 10, 3) := by decide +kernel
theorem dX9_barOfDays_7 : decode cX9_barOfDays 7 = .ok (.aload_n 0, 1) := by decide +kernel
theorem dX9_barOfDays_8 : decode cX9_barOfDays 8 = .ok (.invokevirtual 125, 3) := by decide +kernel
theorem dX9_barOfDays_11 : decode cX9_barOfDays 11 = .ok (.ifCond .lt 8, 3) := by decide +kernel
theorem dX9_barOfDays_14 : decode cX9_barOfDays 14 = .ok (.bipush (-5), 2) := by decide +kernel
theorem dX9_barOfDays_16 : decode cX9_barOfDays 16 = .ok (.goto 4, 3) := by decide +kernel
theorem dX9_barOfDays_19 : decode cX9_barOfDays 19 = .ok (.iconst 0, 1) := by decide +kernel
theorem dX9_barOfDays_20 : decode cX9_barOfDays 20 = .ok (.ireturn, 1) := by decide +kernel
theorem dX9_done_0 : decode cX9_done 0 = .ok (.aload_n 0, 1) := by decide +kernel
theorem dX9_done_1 : decode cX9_done 1 = .ok (.invokevirtual 128, 3) := by decide +kernel
theorem dX9_done_4 : decode cX9_done 4 = .ok (.ifCond .ge 6, 3) := by decide +kernel
theorem dX9_done_7 : decode cX9_done 7 = .ok (.bipush (-5), 2) := by decide +kernel
theorem dX9_done_9 : decode cX9_done 9 = .ok (.ireturn, 1) := by decide +kernel
theorem dX9_done_10 : decode cX9_done 10 = .ok (.iconst 0, 1) := by decide +kernel
theorem dX9_done_11 : decode cX9_done 11 = .ok (.istore_n 1, 1) := by decide +kernel
theorem dX9_done_12 : decode cX9_done 12 = .ok (.iload_n 1, 1) := by decide +kernel
theorem dX9_done_13 : decode cX9_done 13 = .ok (.bipush 15, 2) := by decide +kernel
theorem dX9_done_15 : decode cX9_done 15 = .ok (.if_icmp .ge 21, 3) := by decide +kernel
theorem dX9_done_18 : decode cX9_done 18 = .ok (.aload_n 0, 1) := by decide +kernel
theorem dX9_done_19 : decode cX9_done 19 = .ok (.getfield 7, 3) := by decide +kernel
theorem dX9_done_22 : decode cX9_done 22 = .ok (.iload_n 1, 1) := by decide +kernel
theorem dX9_done_23 : decode cX9_done 23 = .ok (.aload_n 0, 1) := by decide +kernel
theorem dX9_done_24 : decode cX9_done 24 = .ok (.getfield 13, 3) := by decide +kernel
theorem dX9_done_27 : decode cX9_done 27 = .ok (.iload_n 1, 1) := by decide +kernel
theorem dX9_done_28 : decode cX9_done 28 = .ok (.iaload, 1) := by decide +kernel
theorem dX9_done_29 : decode cX9_done 29 = .ok (.iastore, 1) := by decide +kernel
theorem dX9_done_30 : decode cX9_done 30 = .ok (.iinc 1 1, 3) := by decide +kernel
theorem dX9_done_33 : decode cX9_done 33 = .ok (.goto (-21), 3) := by decide +kernel
theorem dX9_done_36 : decode cX9_done 36 = .ok (.aload_n 0, 1) := by decide +kernel
theorem dX9_done_37 : decode cX9_done 37 = .ok (.iconst 0, 1) := by decide +kernel
theorem dX9_done_38 : decode cX9_done 38 = .ok (.putfield 75, 3) := by decide +kernel
theorem dX9_done_41 : decode cX9_done 41 = .ok (.aload_n 0, 1) := by decide +kernel
theorem dX9_done_42 : decode cX9_done 42 = .ok (.getfield 109, 3) := by decide +kernel
theorem dX9_done_45 : decode cX9_done 45 = .ok (.ireturn, 1) := by decide +kernel
theorem dX9_behind_0 : decode cX9_behind 0 = .ok (.aload_n 0, 1) := by decide +kernel
theorem dX9_behind_1 : decode cX9_behind 1 = .ok (.iload_n 1, 1) := by decide +kernel
theorem dX9_behind_2 : decode cX9_behind 2 = .ok (.invokevirtual 131, 3) := by decide +kernel
theorem dX9_behind_5 : decode cX9_behind 5 = .ok (.ifCond .ne 5, 3) := by decide +kernel
theorem dX9_behind_8 : decode cX9_behind 8 = .ok (.iconst (-1), 1) := by decide +kernel
theorem dX9_behind_9 : decode cX9_behind 9 = .ok (.ireturn, 1) := by decide +kernel
theorem dX9_behind_10 : decode cX9_behind 10 = .ok (.iload_n 2, 1) := by decide +kernel
theorem dX9_behind_11 : decode cX9_behind 11 = .ok (.iconst 0, 1) := by decide +kernel
theorem dX9_behind_12 : decode cX9_behind 12 = .ok (.iconst 1, 1) := by decide +kernel
theorem dX9_behind_13 : decode cX9_behind 13 = .ok (.invokestatic 63, 3) := by decide +kernel
theorem dX9_behind_16 : decode cX9_behind 16 = .ok (.ifCond .ne 6, 3) := by decide +kernel
theorem dX9_behind_19 : decode cX9_behind 19 = .ok (.bipush (-2), 2) := by decide +kernel
theorem dX9_behind_21 : decode cX9_behind 21 = .ok (.ireturn, 1) := by decide +kernel
theorem dX9_behind_22 : decode cX9_behind 22 = .ok (.aload_n 0, 1) := by decide +kernel
theorem dX9_behind_23 : decode cX9_behind 23 = .ok (.invokevirtual 128, 3) := by decide +kernel
theorem dX9_behind_26 : decode cX9_behind 26 = .ok (.ifCond .ge 6, 3) := by decide +kernel
theorem dX9_behind_29 : decode cX9_behind 29 = .ok (.bipush (-5), 2) := by decide +kernel
theorem dX9_behind_31 : decode cX9_behind 31 = .ok (.ireturn, 1) := by decide +kernel
theorem dX9_behind_32 : decode cX9_behind 32 = .ok (.aload_n 0, 1) := by decide +kernel
theorem dX9_behind_33 : decode cX9_behind 33 = .ok (.iload_n 1, 1) := by decide +kernel
theorem dX9_behind_34 : decode cX9_behind 34 = .ok (.invokevirtual 92, 3) := by decide +kernel
theorem dX9_behind_37 : decode cX9_behind 37 = .ok (.ifCond .eq 17, 3) := by decide +kernel
theorem dX9_behind_40 : decode cX9_behind 40 = .ok (.aload_n 0, 1) := by decide +kernel
theorem dX9_behind_41 : decode cX9_behind 41 = .ok (.getfield 13, 3) := by decide +kernel
theorem dX9_behind_44 : decode cX9_behind 44 = .ok (.bipush 6, 2) := by decide +kernel
theorem dX9_behind_46 : decode cX9_behind 46 = .ok (.iload_n 2, 1) := by decide +kernel
theorem dX9_behind_47 : decode cX9_behind 47 = .ok (.imul, 1) := by decide +kernel
theorem dX9_behind_48 : decode cX9_behind 48 = .ok (.iload_n 1, 1) := by decide +kernel
theorem dX9_behind_49 : decode cX9_behind 49 = .ok (.iadd, 1) := by decide +kernel
theorem dX9_behind_50 : decode cX9_behind 50 = .ok (.iaload, 1) := by decide +kernel
theorem dX9_behind_51 : decode cX9_behind 51 = .ok (.goto 5, 3) := by decide +kernel
theorem dX9_behind_54 : decode cX9_behind 54 = .ok (.bipush (-6), 2) := by decide +kernel
theorem dX9_behind_56 : decode cX9_behind 56 = .ok (.ireturn, 1) := by decide +kernel
theorem dX9_then_0 : decode cX9_then 0 = .ok (.iload_n 1, 1) := by decide +kernel
theorem dX9_then_1 : decode cX9_then 1 = .ok (.iconst 0, 1) := by decide +kernel
theorem dX9_then_2 : decode cX9_then 2 = .ok (.iconst 5, 1) := by decide +kernel
theorem dX9_then_3 : decode cX9_then 3 = .ok (.invokestatic 63, 3) := by decide +kernel
theorem dX9_then_6 : decode cX9_then 6 = .ok (.ifCond .ne 6, 3) := by decide +kernel
theorem dX9_then_9 : decode cX9_then 9 = .ok (.bipush (-2), 2) := by decide +kernel
theorem dX9_then_11 : decode cX9_then 11 = .ok (.ireturn, 1) := by decide +kernel
theorem dX9_then_12 : decode cX9_then 12 = .ok (.aload_n 0, 1) := by decide +kernel
theorem dX9_then_13 : decode cX9_then 13 = .ok (.invokevirtual 128, 3) := by decide +kernel
theorem dX9_then_16 : decode cX9_then 16 = .ok (.ifCond .ge 6, 3) := by decide +kernel
theorem dX9_then_19 : decode cX9_then 19 = .ok (.bipush (-5), 2) := by decide +kernel
theorem dX9_then_21 : decode cX9_then 21 = .ok (.ireturn, 1) := by decide +kernel
theorem dX9_then_22 : decode cX9_then 22 = .ok (.iload_n 1, 1) := by decide +kernel
theorem dX9_then_23 : decode cX9_then 23 = .ok (.iconst 3, 1) := by decide +kernel
theorem dX9_then_24 : decode cX9_then 24 = .ok (.if_icmp .ge 15, 3) := by decide +kernel
theorem dX9_then_27 : decode cX9_then 27 = .ok (.aload_n 0, 1) := by decide +kernel
theorem dX9_then_28 : decode cX9_then 28 = .ok (.getfield 13, 3) := by decide +kernel
theorem dX9_then_31 : decode cX9_then 31 = .ok (.bipush 12, 2) := by decide +kernel
theorem dX9_then_33 : decode cX9_then 33 = .ok (.iload_n 1, 1) := by decide +kernel
theorem dX9_then_34 : decode cX9_then 34 = .ok (.iadd, 1) := by decide +kernel
theorem dX9_then_35 : decode cX9_then 35 = .ok (.iaload, 1) := by decide +kernel
theorem dX9_then_36 : decode cX9_then 36 = .ok (.goto 31, 3) := by decide +kernel
theorem dX9_then_39 : decode cX9_then 39 = .ok (.iload_n 1, 1) := by decide +kernel
theorem dX9_then_40 : decode cX9_then 40 = .ok (.iconst 3, 1) := by decide +kernel
theorem dX9_then_41 : decode cX9_then 41 = .ok (.if_icmp .ne 10, 3) := by decide +kernel
theorem dX9_then_44 : decode cX9_then 44 = .ok (.aload_n 0, 1) := by decide +kernel
theorem dX9_then_45 : decode cX9_then 45 = .ok (.getfield 83, 3) := by decide +kernel
theorem dX9_then_48 : decode cX9_then 48 = .ok (.goto 19, 3) := by decide +kernel
theorem dX9_then_51 : decode cX9_then 51 = .ok (.iload_n 1, 1) := by decide +kernel
theorem dX9_then_52 : decode cX9_then 52 = .ok (.iconst 4, 1) := by decide +kernel
theorem dX9_then_53 : decode cX9_then 53 = .ok (.if_icmp .ne 10, 3) := by decide +kernel
theorem dX9_then_56 : decode cX9_then 56 = .ok (.aload_n 0, 1) := by decide +kernel
theorem dX9_then_57 : decode cX9_then 57 = .ok (.getfield 86, 3) := by decide +kernel
theorem dX9_then_60 : decode cX9_then 60 = .ok (.goto 7, 3) := by decide +kernel
theorem dX9_then_63 : decode cX9_then 63 = .ok (.aload_n 0, 1) := by decide +kernel
theorem dX9_then_64 : decode cX9_then 64 = .ok (.getfield 89, 3) := by decide +kernel
theorem dX9_then_67 : decode cX9_then 67 = .ok (.ireturn, 1) := by decide +kernel
theorem dX9_fitsOf_0 : decode cX9_fitsOf 0 = .ok (.iconst 0, 1) := by decide +kernel
theorem dX9_fitsOf_1 : decode cX9_fitsOf 1 = .ok (.istore_n 2, 1) := by decide +kernel
theorem dX9_fitsOf_2 : decode cX9_fitsOf 2 = .ok (.iconst 0, 1) := by decide +kernel
theorem dX9_fitsOf_3 : decode cX9_fitsOf 3 = .ok (.istore_n 3, 1) := by decide +kernel
theorem dX9_fitsOf_4 : decode cX9_fitsOf 4 = .ok (.iload_n 3, 1) := by decide +kernel
theorem dX9_fitsOf_5 : decode cX9_fitsOf 5 = .ok (.bipush 6, 2) := by decide +kernel
theorem dX9_fitsOf_7 : decode cX9_fitsOf 7 = .ok (.if_icmp .ge 40, 3) := by decide +kernel
theorem dX9_fitsOf_10 : decode cX9_fitsOf 10 = .ok (.iload_n 2, 1) := by decide +kernel
theorem dX9_fitsOf_11 : decode cX9_fitsOf 11 = .ok (.aload_n 0, 1) := by decide +kernel
theorem dX9_fitsOf_12 : decode cX9_fitsOf 12 = .ok (.getfield 16, 3) := by decide +kernel
theorem dX9_fitsOf_15 : decode cX9_fitsOf 15 = .ok (.iload_n 3, 1) := by decide +kernel
theorem dX9_fitsOf_16 : decode cX9_fitsOf 16 = .ok (.iaload, 1) := by decide +kernel
theorem dX9_fitsOf_17 : decode cX9_fitsOf 17 = .ok (.aload_n 0, 1) := by decide +kernel
theorem dX9_fitsOf_18 : decode cX9_fitsOf 18 = .ok (.getfield 7, 3) := by decide +kernel
theorem dX9_fitsOf_21 : decode cX9_fitsOf 21 = .ok (.bipush 6, 2) := by decide +kernel
theorem dX9_fitsOf_23 : decode cX9_fitsOf 23 = .ok (.iload_n 1, 1) := by decide +kernel
theorem dX9_fitsOf_24 : decode cX9_fitsOf 24 = .ok (.iadd, 1) := by decide +kernel
theorem dX9_fitsOf_25 : decode cX9_fitsOf 25 = .ok (.iaload, 1) := by decide +kernel
theorem dX9_fitsOf_26 : decode cX9_fitsOf 26 = .ok (.iconst (-1), 1) := by decide +kernel
theorem dX9_fitsOf_27 : decode cX9_fitsOf 27 = .ok (.ixor, 1) := by decide +kernel
theorem dX9_fitsOf_28 : decode cX9_fitsOf 28 = .ok (.iand, 1) := by decide +kernel
theorem dX9_fitsOf_29 : decode cX9_fitsOf 29 = .ok (.ifCond .ne 9, 3) := by decide +kernel
theorem dX9_fitsOf_32 : decode cX9_fitsOf 32 = .ok (.iconst 1, 1) := by decide +kernel
theorem dX9_fitsOf_33 : decode cX9_fitsOf 33 = .ok (.iload_n 3, 1) := by decide +kernel
theorem dX9_fitsOf_34 : decode cX9_fitsOf 34 = .ok (.ishl, 1) := by decide +kernel
theorem dX9_fitsOf_35 : decode cX9_fitsOf 35 = .ok (.goto 4, 3) := by decide +kernel
theorem dX9_fitsOf_38 : decode cX9_fitsOf 38 = .ok (.iconst 0, 1) := by decide +kernel
theorem dX9_fitsOf_39 : decode cX9_fitsOf 39 = .ok (.ior, 1) := by decide +kernel
theorem dX9_fitsOf_40 : decode cX9_fitsOf 40 = .ok (.istore_n 2, 1) := by decide +kernel
theorem dX9_fitsOf_41 : decode cX9_fitsOf 41 = .ok (.iinc 3 1, 3) := by decide +kernel
theorem dX9_fitsOf_44 : decode cX9_fitsOf 44 = .ok (.goto (-40), 3) := by decide +kernel
theorem dX9_fitsOf_47 : decode cX9_fitsOf 47 = .ok (.iload_n 2, 1) := by decide +kernel
theorem dX9_fitsOf_48 : decode cX9_fitsOf 48 = .ok (.ireturn, 1) := by decide +kernel
theorem dX9_fitting_0 : decode cX9_fitting 0 = .ok (.aload_n 0, 1) := by decide +kernel
theorem dX9_fitting_1 : decode cX9_fitting 1 = .ok (.iload_n 1, 1) := by decide +kernel
theorem dX9_fitting_2 : decode cX9_fitting 2 = .ok (.invokevirtual 131, 3) := by decide +kernel
theorem dX9_fitting_5 : decode cX9_fitting 5 = .ok (.ifCond .eq 11, 3) := by decide +kernel
theorem dX9_fitting_8 : decode cX9_fitting 8 = .ok (.aload_n 0, 1) := by decide +kernel
theorem dX9_fitting_9 : decode cX9_fitting 9 = .ok (.iload_n 1, 1) := by decide +kernel
theorem dX9_fitting_10 : decode cX9_fitting 10 = .ok (.invokevirtual 134, 3) := by decide +kernel
theorem dX9_fitting_13 : decode cX9_fitting 13 = .ok (.goto 4, 3) := by decide +kernel
theorem dX9_fitting_16 : decode cX9_fitting 16 = .ok (.iconst (-1), 1) := by decide +kernel
theorem dX9_fitting_17 : decode cX9_fitting 17 = .ok (.ireturn, 1) := by decide +kernel
theorem dX9_leastOf_0 : decode cX9_leastOf 0 = .ok (.aload_n 0, 1) := by decide +kernel
theorem dX9_leastOf_1 : decode cX9_leastOf 1 = .ok (.iload_n 1, 1) := by decide +kernel
theorem dX9_leastOf_2 : decode cX9_leastOf 2 = .ok (.invokevirtual 134, 3) := by decide +kernel
theorem dX9_leastOf_5 : decode cX9_leastOf 5 = .ok (.istore_n 2, 1) := by decide +kernel
theorem dX9_leastOf_6 : decode cX9_leastOf 6 = .ok (.iconst 1, 1) := by decide +kernel
theorem dX9_leastOf_7 : decode cX9_leastOf 7 = .ok (.istore_n 3, 1) := by decide +kernel
theorem dX9_leastOf_8 : decode cX9_leastOf 8 = .ok (.iload_n 3, 1) := by decide +kernel
theorem dX9_leastOf_9 : decode cX9_leastOf 9 = .ok (.aload_n 0, 1) := by decide +kernel
theorem dX9_leastOf_10 : decode cX9_leastOf 10 = .ok (.getfield 7, 3) := by decide +kernel
theorem dX9_leastOf_13 : decode cX9_leastOf 13 = .ok (.iload_n 1, 1) := by decide +kernel
theorem dX9_leastOf_14 : decode cX9_leastOf 14 = .ok (.iaload, 1) := by decide +kernel
theorem dX9_leastOf_15 : decode cX9_leastOf 15 = .ok (.if_icmp .gt 128, 3) := by decide +kernel
theorem dX9_leastOf_18 : decode cX9_leastOf 18 = .ok (.aload_n 0, 1) := by decide +kernel
theorem dX9_leastOf_19 : decode cX9_leastOf 19 = .ok (.getfield 37, 3) := by decide +kernel
theorem dX9_leastOf_22 : decode cX9_leastOf 22 = .ok (.iload_n 3, 1) := by decide +kernel
theorem dX9_leastOf_23 : decode cX9_leastOf 23 = .ok (.ldc 137, 2) := by decide +kernel
theorem dX9_leastOf_25 : decode cX9_leastOf 25 = .ok (.iastore, 1) := by decide +kernel
theorem dX9_leastOf_26 : decode cX9_leastOf 26 = .ok (.iconst 0, 1) := by decide +kernel
theorem dX9_leastOf_27 : decode cX9_leastOf 27 = .ok (.istore 4, 2) := by decide +kernel
theorem dX9_leastOf_29 : decode cX9_leastOf 29 = .ok (.iload 4, 2) := by decide +kernel
theorem dX9_leastOf_31 : decode cX9_leastOf 31 = .ok (.bipush 6, 2) := by decide +kernel
theorem dX9_leastOf_33 : decode cX9_leastOf 33 = .ok (.if_icmp .ge 104, 3) := by decide +kernel
theorem dX9_leastOf_36 : decode cX9_leastOf 36 = .ok (.iload_n 3, 1) := by decide +kernel
theorem dX9_leastOf_37 : decode cX9_leastOf 37 = .ok (.aload_n 0, 1) := by decide +kernel
theorem dX9_leastOf_38 : decode cX9_leastOf 38 = .ok (.getfield 19, 3) := by decide +kernel
theorem dX9_leastOf_41 : decode cX9_leastOf 41 = .ok (.iload 4, 2) := by decide +kernel
theorem dX9_leastOf_43 : decode cX9_leastOf 43 = .ok (.iaload, 1) := by decide +kernel
theorem dX9_leastOf_44 : decode cX9_leastOf 44 = .ok (.if_icmp .le 15, 3) := by decide +kernel
theorem dX9_leastOf_47 : decode cX9_leastOf 47 = .ok (.iload_n 3, 1) := by decide +kernel
theorem dX9_leastOf_48 : decode cX9_leastOf 48 = .ok (.aload_n 0, 1) := by decide +kernel
theorem dX9_leastOf_49 : decode cX9_leastOf 49 = .ok (.getfield 19, 3) := by decide +kernel
theorem dX9_leastOf_52 : decode cX9_leastOf 52 = .ok (.iload 4, 2) := by decide +kernel
theorem dX9_leastOf_54 : decode cX9_leastOf 54 = .ok (.iaload, 1) := by decide +kernel
theorem dX9_leastOf_55 : decode cX9_leastOf 55 = .ok (.isub, 1) := by decide +kernel
theorem dX9_leastOf_56 : decode cX9_leastOf 56 = .ok (.goto 4, 3) := by decide +kernel
theorem dX9_leastOf_59 : decode cX9_leastOf 59 = .ok (.iconst 0, 1) := by decide +kernel
theorem dX9_leastOf_60 : decode cX9_leastOf 60 = .ok (.istore 5, 2) := by decide +kernel
theorem dX9_leastOf_62 : decode cX9_leastOf 62 = .ok (.iload 5, 2) := by decide +kernel
theorem dX9_leastOf_64 : decode cX9_leastOf 64 = .ok (.ifCond .ne 7, 3) := by decide +kernel
theorem dX9_leastOf_67 : decode cX9_leastOf 67 = .ok (.iconst 0, 1) := by decide +kernel
theorem dX9_leastOf_68 : decode cX9_leastOf 68 = .ok (.goto 10, 3) := by decide +kernel
theorem dX9_leastOf_71 : decode cX9_leastOf 71 = .ok (.aload_n 0, 1) := by decide +kernel
theorem dX9_leastOf_72 : decode cX9_leastOf 72 = .ok (.getfield 37, 3) := by decide +kernel
theorem dX9_leastOf_75 : decode cX9_leastOf 75 = .ok (.iload 5, 2) := by decide +kernel
theorem dX9_leastOf_77 : decode cX9_leastOf 77 = .ok (.iaload, 1) := by decide +kernel
theorem dX9_leastOf_78 : decode cX9_leastOf 78 = .ok (.sipush 1000, 3) := by decide +kernel
theorem dX9_leastOf_81 : decode cX9_leastOf 81 = .ok (.aload_n 0, 1) := by decide +kernel
theorem dX9_leastOf_82 : decode cX9_leastOf 82 = .ok (.getfield 22, 3) := by decide +kernel
theorem dX9_leastOf_85 : decode cX9_leastOf 85 = .ok (.iload 4, 2) := by decide +kernel
theorem dX9_leastOf_87 : decode cX9_leastOf 87 = .ok (.iaload, 1) := by decide +kernel
theorem dX9_leastOf_88 : decode cX9_leastOf 88 = .ok (.imul, 1) := by decide +kernel
theorem dX9_leastOf_89 : decode cX9_leastOf 89 = .ok (.iadd, 1) := by decide +kernel
theorem dX9_leastOf_90 : decode cX9_leastOf 90 = .ok (.iconst 1, 1) := by decide +kernel
theorem dX9_leastOf_91 : decode cX9_leastOf 91 = .ok (.iadd, 1) := by decide +kernel
theorem dX9_leastOf_92 : decode cX9_leastOf 92 = .ok (.istore 6, 2) := by decide +kernel
theorem dX9_leastOf_94 : decode cX9_leastOf 94 = .ok (.aload_n 0, 1) := by decide +kernel
theorem dX9_leastOf_95 : decode cX9_leastOf 95 = .ok (.getfield 37, 3) := by decide +kernel
theorem dX9_leastOf_98 : decode cX9_leastOf 98 = .ok (.iload_n 3, 1) := by decide +kernel
theorem dX9_leastOf_99 : decode cX9_leastOf 99 = .ok (.iload_n 2, 1) := by decide +kernel
theorem dX9_leastOf_100 : decode cX9_leastOf 100 = .ok (.iload 4, 2) := by decide +kernel
theorem dX9_leastOf_102 : decode cX9_leastOf 102 = .ok (.invokestatic 67, 3) := by decide +kernel
theorem dX9_leastOf_105 : decode cX9_leastOf 105 = .ok (.ifCond .eq 19, 3) := by decide +kernel
theorem dX9_leastOf_108 : decode cX9_leastOf 108 = .ok (.iload 6, 2) := by decide +kernel
theorem dX9_leastOf_110 : decode cX9_leastOf 110 = .ok (.aload_n 0, 1) := by decide +kernel
theorem dX9_leastOf_111 : decode cX9_leastOf 111 = .ok (.getfield 37, 3) := by decide +kernel
theorem dX9_leastOf_114 : decode cX9_leastOf 114 = .ok (.iload_n 3, 1) := by decide +kernel
theorem dX9_leastOf_115 : decode cX9_leastOf 115 = .ok (.iaload, 1) := by decide +kernel
theorem dX9_leastOf_116 : decode cX9_leastOf 116 = .ok (.if_icmp .ge 8, 3) := by decide +kernel
theorem dX9_leastOf_119 : decode cX9_leastOf 119 = .ok (.iload 6, 2) := by decide +kernel
theorem dX9_leastOf_121 : decode cX9_leastOf 121 = .ok (.goto 9, 3) := by decide +kernel
theorem dX9_leastOf_124 : decode cX9_leastOf 124 = .ok (.aload_n 0, 1) := by decide +kernel
theorem dX9_leastOf_125 : decode cX9_leastOf 125 = .ok (.getfield 37, 3) := by decide +kernel
theorem dX9_leastOf_128 : decode cX9_leastOf 128 = .ok (.iload_n 3, 1) := by decide +kernel
theorem dX9_leastOf_129 : decode cX9_leastOf 129 = .ok (.iaload, 1) := by decide +kernel
theorem dX9_leastOf_130 : decode cX9_leastOf 130 = .ok (.iastore, 1) := by decide +kernel
theorem dX9_leastOf_131 : decode cX9_leastOf 131 = .ok (.iinc 4 1, 3) := by decide +kernel
theorem dX9_leastOf_134 : decode cX9_leastOf 134 = .ok (.goto (-105), 3) := by decide +kernel
theorem dX9_leastOf_137 : decode cX9_leastOf 137 = .ok (.iinc 3 1, 3) := by decide +kernel
theorem dX9_leastOf_140 : decode cX9_leastOf 140 = .ok (.goto (-132), 3) := by decide +kernel
theorem dX9_leastOf_143 : decode cX9_leastOf 143 = .ok (.aload_n 0, 1) := by decide +kernel
theorem dX9_leastOf_144 : decode cX9_leastOf 144 = .ok (.getfield 37, 3) := by decide +kernel
theorem dX9_leastOf_147 : decode cX9_leastOf 147 = .ok (.aload_n 0, 1) := by decide +kernel
theorem dX9_leastOf_148 : decode cX9_leastOf 148 = .ok (.getfield 7, 3) := by decide +kernel
theorem dX9_leastOf_151 : decode cX9_leastOf 151 = .ok (.iload_n 1, 1) := by decide +kernel
theorem dX9_leastOf_152 : decode cX9_leastOf 152 = .ok (.iaload, 1) := by decide +kernel
theorem dX9_leastOf_153 : decode cX9_leastOf 153 = .ok (.iaload, 1) := by decide +kernel
theorem dX9_leastOf_154 : decode cX9_leastOf 154 = .ok (.ireturn, 1) := by decide +kernel
theorem dX9_least_0 : decode cX9_least 0 = .ok (.aload_n 0, 1) := by decide +kernel
theorem dX9_least_1 : decode cX9_least 1 = .ok (.iload_n 1, 1) := by decide +kernel
theorem dX9_least_2 : decode cX9_least 2 = .ok (.invokevirtual 131, 3) := by decide +kernel
theorem dX9_least_5 : decode cX9_least 5 = .ok (.ifCond .ne 5, 3) := by decide +kernel
theorem dX9_least_8 : decode cX9_least 8 = .ok (.iconst (-1), 1) := by decide +kernel
theorem dX9_least_9 : decode cX9_least 9 = .ok (.ireturn, 1) := by decide +kernel
theorem dX9_least_10 : decode cX9_least 10 = .ok (.iload_n 2, 1) := by decide +kernel
theorem dX9_least_11 : decode cX9_least 11 = .ok (.iconst 0, 1) := by decide +kernel
theorem dX9_least_12 : decode cX9_least 12 = .ok (.iconst 1, 1) := by decide +kernel
theorem dX9_least_13 : decode cX9_least 13 = .ok (.invokestatic 63, 3) := by decide +kernel
theorem dX9_least_16 : decode cX9_least 16 = .ok (.ifCond .ne 6, 3) := by decide +kernel
theorem dX9_least_19 : decode cX9_least 19 = .ok (.bipush (-2), 2) := by decide +kernel
theorem dX9_least_21 : decode cX9_least 21 = .ok (.ireturn, 1) := by decide +kernel
theorem dX9_least_22 : decode cX9_least 22 = .ok (.aload_n 0, 1) := by decide +kernel
theorem dX9_least_23 : decode cX9_least 23 = .ok (.iload_n 1, 1) := by decide +kernel
theorem dX9_least_24 : decode cX9_least 24 = .ok (.invokevirtual 138, 3) := by decide +kernel
theorem dX9_least_27 : decode cX9_least 27 = .ok (.istore_n 3, 1) := by decide +kernel
theorem dX9_least_28 : decode cX9_least 28 = .ok (.iload_n 3, 1) := by decide +kernel
theorem dX9_least_29 : decode cX9_least 29 = .ok (.ldc 137, 2) := by decide +kernel
theorem dX9_least_31 : decode cX9_least 31 = .ok (.if_icmp .lt 8, 3) := by decide +kernel
theorem dX9_least_34 : decode cX9_least 34 = .ok (.bipush (-6), 2) := by decide +kernel
theorem dX9_least_36 : decode cX9_least 36 = .ok (.goto 20, 3) := by decide +kernel
theorem dX9_least_39 : decode cX9_least 39 = .ok (.iload_n 2, 1) := by decide +kernel
theorem dX9_least_40 : decode cX9_least 40 = .ok (.ifCond .ne 11, 3) := by decide +kernel
theorem dX9_least_43 : decode cX9_least 43 = .ok (.iload_n 3, 1) := by decide +kernel
theorem dX9_least_44 : decode cX9_least 44 = .ok (.sipush 1000, 3) := by decide +kernel
theorem dX9_least_47 : decode cX9_least 47 = .ok (.idiv, 1) := by decide +kernel
theorem dX9_least_48 : decode cX9_least 48 = .ok (.goto 8, 3) := by decide +kernel
theorem dX9_least_51 : decode cX9_least 51 = .ok (.iload_n 3, 1) := by decide +kernel
theorem dX9_least_52 : decode cX9_least 52 = .ok (.sipush 1000, 3) := by decide +kernel
theorem dX9_least_55 : decode cX9_least 55 = .ok (.irem, 1) := by decide +kernel
theorem dX9_least_56 : decode cX9_least 56 = .ok (.ireturn, 1) := by decide +kernel
theorem dX9_order_0 : decode cX9_order 0 = .ok (.iload_n 1, 1) := by decide +kernel
theorem dX9_order_1 : decode cX9_order 1 = .ok (.iconst 0, 1) := by decide +kernel
theorem dX9_order_2 : decode cX9_order 2 = .ok (.iconst 1, 1) := by decide +kernel
theorem dX9_order_3 : decode cX9_order 3 = .ok (.invokestatic 63, 3) := by decide +kernel
theorem dX9_order_6 : decode cX9_order 6 = .ok (.ifCond .ne 6, 3) := by decide +kernel
theorem dX9_order_9 : decode cX9_order 9 = .ok (.bipush (-2), 2) := by decide +kernel
theorem dX9_order_11 : decode cX9_order 11 = .ok (.ireturn, 1) := by decide +kernel
theorem dX9_order_12 : decode cX9_order 12 = .ok (.iconst 0, 1) := by decide +kernel
theorem dX9_order_13 : decode cX9_order 13 = .ok (.istore_n 2, 1) := by decide +kernel
theorem dX9_order_14 : decode cX9_order 14 = .ok (.iconst 0, 1) := by decide +kernel
theorem dX9_order_15 : decode cX9_order 15 = .ok (.istore_n 3, 1) := by decide +kernel
theorem dX9_order_16 : decode cX9_order 16 = .ok (.iload_n 3, 1) := by decide +kernel
theorem dX9_order_17 : decode cX9_order 17 = .ok (.bipush 6, 2) := by decide +kernel
theorem dX9_order_19 : decode cX9_order 19 = .ok (.if_icmp .ge 69, 3) := by decide +kernel
theorem dX9_order_22 : decode cX9_order 22 = .ok (.aload_n 0, 1) := by decide +kernel
theorem dX9_order_23 : decode cX9_order 23 = .ok (.iload_n 3, 1) := by decide +kernel
theorem dX9_order_24 : decode cX9_order 24 = .ok (.invokevirtual 131, 3) := by decide +kernel
theorem dX9_order_27 : decode cX9_order 27 = .ok (.ifCond .eq 11, 3) := by decide +kernel
theorem dX9_order_30 : decode cX9_order 30 = .ok (.aload_n 0, 1) := by decide +kernel
theorem dX9_order_31 : decode cX9_order 31 = .ok (.iload_n 3, 1) := by decide +kernel
theorem dX9_order_32 : decode cX9_order 32 = .ok (.invokevirtual 138, 3) := by decide +kernel
theorem dX9_order_35 : decode cX9_order 35 = .ok (.goto 5, 3) := by decide +kernel
theorem dX9_order_38 : decode cX9_order 38 = .ok (.ldc 137, 2) := by decide +kernel
theorem dX9_order_40 : decode cX9_order 40 = .ok (.istore 4, 2) := by decide +kernel
theorem dX9_order_42 : decode cX9_order 42 = .ok (.aload_n 0, 1) := by decide +kernel
theorem dX9_order_43 : decode cX9_order 43 = .ok (.getfield 40, 3) := by decide +kernel
theorem dX9_order_46 : decode cX9_order 46 = .ok (.iload_n 3, 1) := by decide +kernel
theorem dX9_order_47 : decode cX9_order 47 = .ok (.iload 4, 2) := by decide +kernel
theorem dX9_order_49 : decode cX9_order 49 = .ok (.ldc 137, 2) := by decide +kernel
theorem dX9_order_51 : decode cX9_order 51 = .ok (.if_icmp .lt 7, 3) := by decide +kernel
theorem dX9_order_54 : decode cX9_order 54 = .ok (.iconst 0, 1) := by decide +kernel
theorem dX9_order_55 : decode cX9_order 55 = .ok (.goto 9, 3) := by decide +kernel
theorem dX9_order_58 : decode cX9_order 58 = .ok (.iload 4, 2) := by decide +kernel
theorem dX9_order_60 : decode cX9_order 60 = .ok (.sipush 1000, 3) := by decide +kernel
theorem dX9_order_63 : decode cX9_order 63 = .ok (.irem, 1) := by decide +kernel
theorem dX9_order_64 : decode cX9_order 64 = .ok (.iastore, 1) := by decide +kernel
theorem dX9_order_65 : decode cX9_order 65 = .ok (.iload_n 2, 1) := by decide +kernel
theorem dX9_order_66 : decode cX9_order 66 = .ok (.iload 4, 2) := by decide +kernel
theorem dX9_order_68 : decode cX9_order 68 = .ok (.ldc 137, 2) := by decide +kernel
theorem dX9_order_70 : decode cX9_order 70 = .ok (.if_icmp .lt 7, 3) := by decide +kernel
theorem dX9_order_73 : decode cX9_order 73 = .ok (.iconst 0, 1) := by decide +kernel
theorem dX9_order_74 : decode cX9_order 74 = .ok (.goto 6, 3) := by decide +kernel
theorem dX9_order_77 : decode cX9_order 77 = .ok (.iconst 1, 1) := by decide +kernel
theorem dX9_order_78 : decode cX9_order 78 = .ok (.iload_n 3, 1) := by decide +kernel
theorem dX9_order_79 : decode cX9_order 79 = .ok (.ishl, 1) := by decide +kernel
theorem dX9_order_80 : decode cX9_order 80 = .ok (.ior, 1) := by decide +kernel
theorem dX9_order_81 : decode cX9_order 81 = .ok (.istore_n 2, 1) := by decide +kernel
theorem dX9_order_82 : decode cX9_order 82 = .ok (.iinc 3 1, 3) := by decide +kernel
theorem dX9_order_85 : decode cX9_order 85 = .ok (.goto (-69), 3) := by decide +kernel
theorem dX9_order_88 : decode cX9_order 88 = .ok (.bipush (-6), 2) := by decide +kernel
theorem dX9_order_90 : decode cX9_order 90 = .ok (.istore_n 3, 1) := by decide +kernel
theorem dX9_order_91 : decode cX9_order 91 = .ok (.bipush 63, 2) := by decide +kernel
theorem dX9_order_93 : decode cX9_order 93 = .ok (.istore 4, 2) := by decide +kernel
theorem dX9_order_95 : decode cX9_order 95 = .ok (.iload 4, 2) := by decide +kernel
theorem dX9_order_97 : decode cX9_order 97 = .ok (.ifCond .lt 177, 3) := by decide +kernel
theorem dX9_order_100 : decode cX9_order 100 = .ok (.iconst 0, 1) := by decide +kernel
theorem dX9_order_101 : decode cX9_order 101 = .ok (.istore 5, 2) := by decide +kernel
theorem dX9_order_103 : decode cX9_order 103 = .ok (.iconst 0, 1) := by decide +kernel
theorem dX9_order_104 : decode cX9_order 104 = .ok (.istore 6, 2) := by decide +kernel
theorem dX9_order_106 : decode cX9_order 106 = .ok (.iload 6, 2) := by decide +kernel
theorem dX9_order_108 : decode cX9_order 108 = .ok (.bipush 6, 2) := by decide +kernel
theorem dX9_order_110 : decode cX9_order 110 = .ok (.if_icmp .ge 35, 3) := by decide +kernel
theorem dX9_order_113 : decode cX9_order 113 = .ok (.iload 5, 2) := by decide +kernel
theorem dX9_order_115 : decode cX9_order 115 = .ok (.iload 4, 2) := by decide +kernel
theorem dX9_order_117 : decode cX9_order 117 = .ok (.iload 6, 2) := by decide +kernel
theorem dX9_order_119 : decode cX9_order 119 = .ok (.invokestatic 67, 3) := by decide +kernel
theorem dX9_order_122 : decode cX9_order 122 = .ok (.ifCond .eq 13, 3) := by decide +kernel
theorem dX9_order_125 : decode cX9_order 125 = .ok (.aload_n 0, 1) := by decide +kernel
theorem dX9_order_126 : decode cX9_order 126 = .ok (.getfield 40, 3) := by decide +kernel
theorem dX9_order_129 : decode cX9_order 129 = .ok (.iload 6, 2) := by decide +kernel
theorem dX9_order_131 : decode cX9_order 131 = .ok (.iaload, 1) := by decide +kernel
theorem dX9_order_132 : decode cX9_order 132 = .ok (.goto 4, 3) := by decide +kernel
theorem dX9_order_135 : decode cX9_order 135 = .ok (.iconst 0, 1) := by decide +kernel
theorem dX9_order_136 : decode cX9_order 136 = .ok (.iadd, 1) := by decide +kernel
theorem dX9_order_137 : decode cX9_order 137 = .ok (.istore 5, 2) := by decide +kernel
theorem dX9_order_139 : decode cX9_order 139 = .ok (.iinc 6 1, 3) := by decide +kernel
theorem dX9_order_142 : decode cX9_order 142 = .ok (.goto (-36), 3) := by decide +kernel
theorem dX9_order_145 : decode cX9_order 145 = .ok (.iload 4, 2) := by decide +kernel
theorem dX9_order_147 : decode cX9_order 147 = .ok (.iload_n 2, 1) := by decide +kernel
theorem dX9_order_148 : decode cX9_order 148 = .ok (.if_icmp .ne 7, 3) := by decide +kernel
theorem dX9_order_151 : decode cX9_order 151 = .ok (.iconst 0, 1) := by decide +kernel
theorem dX9_order_152 : decode cX9_order 152 = .ok (.goto 5, 3) := by decide +kernel
theorem dX9_order_155 : decode cX9_order 155 = .ok (.ldc 137, 2) := by decide +kernel
theorem dX9_order_157 : decode cX9_order 157 = .ok (.istore 6, 2) := by decide +kernel
theorem dX9_order_159 : decode cX9_order 159 = .ok (.iconst 5, 1) := by decide +kernel
theorem dX9_order_160 : decode cX9_order 160 = .ok (.istore 7, 2) := by decide +kernel
theorem dX9_order_162 : decode cX9_order 162 = .ok (.iload 7, 2) := by decide +kernel
theorem dX9_order_164 : decode cX9_order 164 = .ok (.ifCond .lt 95, 3) := by decide +kernel
theorem dX9_order_167 : decode cX9_order 167 = .ok (.iload 4, 2) := by decide +kernel
theorem dX9_order_169 : decode cX9_order 169 = .ok (.iload_n 2, 1) := by decide +kernel
theorem dX9_order_170 : decode cX9_order 170 = .ok (.iconst (-1), 1) := by decide +kernel
theorem dX9_order_171 : decode cX9_order 171 = .ok (.ixor, 1) := by decide +kernel
theorem dX9_order_172 : decode cX9_order 172 = .ok (.iand, 1) := by decide +kernel
theorem dX9_order_173 : decode cX9_order 173 = .ok (.ifCond .ne 86, 3) := by decide +kernel
theorem dX9_order_176 : decode cX9_order 176 = .ok (.iload_n 2, 1) := by decide +kernel
theorem dX9_order_177 : decode cX9_order 177 = .ok (.iload 4, 2) := by decide +kernel
theorem dX9_order_179 : decode cX9_order 179 = .ok (.iconst (-1), 1) := by decide +kernel
theorem dX9_order_180 : decode cX9_order 180 = .ok (.ixor, 1) := by decide +kernel
theorem dX9_order_181 : decode cX9_order 181 = .ok (.iand, 1) := by decide +kernel
theorem dX9_order_182 : decode cX9_order 182 = .ok (.iload 7, 2) := by decide +kernel
theorem dX9_order_184 : decode cX9_order 184 = .ok (.invokestatic 67, 3) := by decide +kernel
theorem dX9_order_187 : decode cX9_order 187 = .ok (.ifCond .eq 66, 3) := by decide +kernel
theorem dX9_order_190 : decode cX9_order 190 = .ok (.aload_n 0, 1) := by decide +kernel
theorem dX9_order_191 : decode cX9_order 191 = .ok (.getfield 43, 3) := by decide +kernel
theorem dX9_order_194 : decode cX9_order 194 = .ok (.iload 4, 2) := by decide +kernel
theorem dX9_order_196 : decode cX9_order 196 = .ok (.iconst 1, 1) := by decide +kernel
theorem dX9_order_197 : decode cX9_order 197 = .ok (.iload 7, 2) := by decide +kernel
theorem dX9_order_199 : decode cX9_order 199 = .ok (.ishl, 1) := by decide +kernel
theorem dX9_order_200 : decode cX9_order 200 = .ok (.ior, 1) := by decide +kernel
theorem dX9_order_201 : decode cX9_order 201 = .ok (.iaload, 1) := by decide +kernel
theorem dX9_order_202 : decode cX9_order 202 = .ok (.aload_n 0, 1) := by decide +kernel
theorem dX9_order_203 : decode cX9_order 203 = .ok (.getfield 7, 3) := by decide +kernel
theorem dX9_order_206 : decode cX9_order 206 = .ok (.iload 7, 2) := by decide +kernel
theorem dX9_order_208 : decode cX9_order 208 = .ok (.iaload, 1) := by decide +kernel
theorem dX9_order_209 : decode cX9_order 209 = .ok (.iload 5, 2) := by decide +kernel
theorem dX9_order_211 : decode cX9_order 211 = .ok (.aload_n 0, 1) := by decide +kernel
theorem dX9_order_212 : decode cX9_order 212 = .ok (.getfield 40, 3) := by decide +kernel
theorem dX9_order_215 : decode cX9_order 215 = .ok (.iload 7, 2) := by decide +kernel
theorem dX9_order_217 : decode cX9_order 217 = .ok (.iaload, 1) := by decide +kernel
theorem dX9_order_218 : decode cX9_order 218 = .ok (.iadd, 1) := by decide +kernel
theorem dX9_order_219 : decode cX9_order 219 = .ok (.imul, 1) := by decide +kernel
theorem dX9_order_220 : decode cX9_order 220 = .ok (.iadd, 1) := by decide +kernel
theorem dX9_order_221 : decode cX9_order 221 = .ok (.istore 8, 2) := by decide +kernel
theorem dX9_order_223 : decode cX9_order 223 = .ok (.iload 8, 2) := by decide +kernel
theorem dX9_order_225 : decode cX9_order 225 = .ok (.iload 6, 2) := by decide +kernel
theorem dX9_order_227 : decode cX9_order 227 = .ok (.if_icmp .gt 8, 3) := by decide +kernel
theorem dX9_order_230 : decode cX9_order 230 = .ok (.iload 7, 2) := by decide +kernel
theorem dX9_order_232 : decode cX9_order 232 = .ok (.goto 4, 3) := by decide +kernel
theorem dX9_order_235 : decode cX9_order 235 = .ok (.iload_n 3, 1) := by decide +kernel
theorem dX9_order_236 : decode cX9_order 236 = .ok (.istore_n 3, 1) := by decide +kernel
theorem dX9_order_237 : decode cX9_order 237 = .ok (.iload 8, 2) := by decide +kernel
theorem dX9_order_239 : decode cX9_order 239 = .ok (.iload 6, 2) := by decide +kernel
theorem dX9_order_241 : decode cX9_order 241 = .ok (.if_icmp .ge 8, 3) := by decide +kernel
theorem dX9_order_244 : decode cX9_order 244 = .ok (.iload 8, 2) := by decide +kernel
theorem dX9_order_246 : decode cX9_order 246 = .ok (.goto 5, 3) := by decide +kernel
theorem dX9_order_249 : decode cX9_order 249 = .ok (.iload 6, 2) := by decide +kernel
theorem dX9_order_251 : decode cX9_order 251 = .ok (.istore 6, 2) := by decide +kernel
theorem dX9_order_253 : decode cX9_order 253 = .ok (.iinc 7 (-1), 3) := by decide +kernel
theorem dX9_order_256 : decode cX9_order 256 = .ok (.goto (-94), 3) := by decide +kernel
theorem dX9_order_259 : decode cX9_order 259 = .ok (.aload_n 0, 1) := by decide +kernel
theorem dX9_order_260 : decode cX9_order 260 = .ok (.getfield 43, 3) := by decide +kernel
theorem dX9_order_263 : decode cX9_order 263 = .ok (.iload 4, 2) := by decide +kernel
theorem dX9_order_265 : decode cX9_order 265 = .ok (.iload 6, 2) := by decide +kernel
theorem dX9_order_267 : decode cX9_order 267 = .ok (.iastore, 1) := by decide +kernel
theorem dX9_order_268 : decode cX9_order 268 = .ok (.iinc 4 (-1), 3) := by decide +kernel
theorem dX9_order_271 : decode cX9_order 271 = .ok (.goto (-176), 3) := by decide +kernel
theorem dX9_order_274 : decode cX9_order 274 = .ok (.iload_n 1, 1) := by decide +kernel
theorem dX9_order_275 : decode cX9_order 275 = .ok (.ifCond .ne 12, 3) := by decide +kernel
theorem dX9_order_278 : decode cX9_order 278 = .ok (.aload_n 0, 1) := by decide +kernel
theorem dX9_order_279 : decode cX9_order 279 = .ok (.getfield 43, 3) := by decide +kernel
theorem dX9_order_282 : decode cX9_order 282 = .ok (.iconst 0, 1) := by decide +kernel
theorem dX9_order_283 : decode cX9_order 283 = .ok (.iaload, 1) := by decide +kernel
theorem dX9_order_284 : decode cX9_order 284 = .ok (.goto 13, 3) := by decide +kernel
theorem dX9_order_287 : decode cX9_order 287 = .ok (.iload_n 2, 1) := by decide +kernel
theorem dX9_order_288 : decode cX9_order 288 = .ok (.ifCond .ne 8, 3) := by decide +kernel
theorem dX9_order_291 : decode cX9_order 291 = .ok (.bipush (-6), 2) := by decide +kernel
theorem dX9_order_293 : decode cX9_order 293 = .ok (.goto 4, 3) := by decide +kernel
theorem dX9_order_296 : decode cX9_order 296 = .ok (.iload_n 3, 1) := by decide +kernel
theorem dX9_order_297 : decode cX9_order 297 = .ok (.ireturn, 1) := by decide +kernel
theorem dX9_make_0 : decode cX9_make 0 = .ok (.iload_n 1, 1) := by decide +kernel
theorem dX9_make_1 : decode cX9_make 1 = .ok (.iconst 0, 1) := by decide +kernel
theorem dX9_make_2 : decode cX9_make 2 = .ok (.sipush 255, 3) := by decide +kernel
theorem dX9_make_5 : decode cX9_make 5 = .ok (.invokestatic 63, 3) := by decide +kernel
theorem dX9_make_8 : decode cX9_make 8 = .ok (.ifCond .eq 12, 3) := by decide +kernel
theorem dX9_make_11 : decode cX9_make 11 = .ok (.iload_n 2, 1) := by decide +kernel
theorem dX9_make_12 : decode cX9_make 12 = .ok (.iconst 0, 1) := by decide +kernel
theorem dX9_make_13 : decode cX9_make 13 = .ok (.iconst 1, 1) := by decide +kernel
theorem dX9_make_14 : decode cX9_make 14 = .ok (.invokestatic 63, 3) := by decide +kernel
theorem dX9_make_17 : decode cX9_make 17 = .ok (.ifCond .ne 6, 3) := by decide +kernel
theorem dX9_make_20 : decode cX9_make 20 = .ok (.bipush (-2), 2) := by decide +kernel
theorem dX9_make_22 : decode cX9_make 22 = .ok (.ireturn, 1) := by decide +kernel
theorem dX9_make_23 : decode cX9_make 23 = .ok (.ldc 137, 2) := by decide +kernel
theorem dX9_make_25 : decode cX9_make 25 = .ok (.istore_n 3, 1) := by decide +kernel
theorem dX9_make_26 : decode cX9_make 26 = .ok (.bipush (-6), 2) := by decide +kernel
theorem dX9_make_28 : decode cX9_make 28 = .ok (.istore 4, 2) := by decide +kernel
theorem dX9_make_30 : decode cX9_make 30 = .ok (.iconst 0, 1) := by decide +kernel
theorem dX9_make_31 : decode cX9_make 31 = .ok (.istore 5, 2) := by decide +kernel
theorem dX9_make_33 : decode cX9_make 33 = .ok (.iload 5, 2) := by decide +kernel
theorem dX9_make_35 : decode cX9_make 35 = .ok (.bipush 64, 2) := by decide +kernel
theorem dX9_make_37 : decode cX9_make 37 = .ok (.if_icmp .ge 146, 3) := by decide +kernel
theorem dX9_make_40 : decode cX9_make 40 = .ok (.iconst 0, 1) := by decide +kernel
theorem dX9_make_41 : decode cX9_make 41 = .ok (.istore 6, 2) := by decide +kernel
theorem dX9_make_43 : decode cX9_make 43 = .ok (.iconst 0, 1) := by decide +kernel
theorem dX9_make_44 : decode cX9_make 44 = .ok (.istore 7, 2) := by decide +kernel
theorem dX9_make_46 : decode cX9_make 46 = .ok (.iconst 0, 1) := by decide +kernel
theorem dX9_make_47 : decode cX9_make 47 = .ok (.istore 8, 2) := by decide +kernel
theorem dX9_make_49 : decode cX9_make 49 = .ok (.iload 8, 2) := by decide +kernel
theorem dX9_make_51 : decode cX9_make 51 = .ok (.bipush 6, 2) := by decide +kernel
theorem dX9_make_53 : decode cX9_make 53 = .ok (.if_icmp .ge 64, 3) := by decide +kernel
theorem dX9_make_56 : decode cX9_make 56 = .ok (.iload 6, 2) := by decide +kernel
theorem dX9_make_58 : decode cX9_make 58 = .ok (.iload 5, 2) := by decide +kernel
theorem dX9_make_60 : decode cX9_make 60 = .ok (.iload 8, 2) := by decide +kernel
theorem dX9_make_62 : decode cX9_make 62 = .ok (.invokestatic 67, 3) := by decide +kernel
theorem dX9_make_65 : decode cX9_make 65 = .ok (.ifCond .eq 16, 3) := by decide +kernel
theorem dX9_make_68 : decode cX9_make 68 = .ok (.aload_n 0, 1) := by decide +kernel
theorem dX9_make_69 : decode cX9_make 69 = .ok (.getfield 7, 3) := by decide +kernel
theorem dX9_make_72 : decode cX9_make 72 = .ok (.bipush 6, 2) := by decide +kernel
theorem dX9_make_74 : decode cX9_make 74 = .ok (.iload 8, 2) := by decide +kernel
theorem dX9_make_76 : decode cX9_make 76 = .ok (.iadd, 1) := by decide +kernel
theorem dX9_make_77 : decode cX9_make 77 = .ok (.iaload, 1) := by decide +kernel
theorem dX9_make_78 : decode cX9_make 78 = .ok (.goto 4, 3) := by decide +kernel
theorem dX9_make_81 : decode cX9_make 81 = .ok (.iconst 0, 1) := by decide +kernel
theorem dX9_make_82 : decode cX9_make 82 = .ok (.ior, 1) := by decide +kernel
theorem dX9_make_83 : decode cX9_make 83 = .ok (.istore 6, 2) := by decide +kernel
theorem dX9_make_85 : decode cX9_make 85 = .ok (.iload 7, 2) := by decide +kernel
theorem dX9_make_87 : decode cX9_make 87 = .ok (.iload 5, 2) := by decide +kernel
theorem dX9_make_89 : decode cX9_make 89 = .ok (.iload 8, 2) := by decide +kernel
theorem dX9_make_91 : decode cX9_make 91 = .ok (.invokestatic 67, 3) := by decide +kernel
theorem dX9_make_94 : decode cX9_make 94 = .ok (.ifCond .eq 13, 3) := by decide +kernel
theorem dX9_make_97 : decode cX9_make 97 = .ok (.aload_n 0, 1) := by decide +kernel
theorem dX9_make_98 : decode cX9_make 98 = .ok (.getfield 7, 3) := by decide +kernel
theorem dX9_make_101 : decode cX9_make 101 = .ok (.iload 8, 2) := by decide +kernel
theorem dX9_make_103 : decode cX9_make 103 = .ok (.iaload, 1) := by decide +kernel
theorem dX9_make_104 : decode cX9_make 104 = .ok (.goto 4, 3) := by decide +kernel
theorem dX9_make_107 : decode cX9_make 107 = .ok (.iconst 0, 1) := by decide +kernel
theorem dX9_make_108 : decode cX9_make 108 = .ok (.iadd, 1) := by decide +kernel
theorem dX9_make_109 : decode cX9_make 109 = .ok (.istore 7, 2) := by decide +kernel
theorem dX9_make_111 : decode cX9_make 111 = .ok (.iinc 8 1, 3) := by decide +kernel
theorem dX9_make_114 : decode cX9_make 114 = .ok (.goto (-65), 3) := by decide +kernel
theorem dX9_make_117 : decode cX9_make 117 = .ok (.iload 5, 2) := by decide +kernel
theorem dX9_make_119 : decode cX9_make 119 = .ok (.aload_n 0, 1) := by decide +kernel
theorem dX9_make_120 : decode cX9_make 120 = .ok (.getfield 7, 3) := by decide +kernel
theorem dX9_make_123 : decode cX9_make 123 = .ok (.bipush 12, 2) := by decide +kernel
theorem dX9_make_125 : decode cX9_make 125 = .ok (.iaload, 1) := by decide +kernel
theorem dX9_make_126 : decode cX9_make 126 = .ok (.iconst (-1), 1) := by decide +kernel
theorem dX9_make_127 : decode cX9_make 127 = .ok (.ixor, 1) := by decide +kernel
theorem dX9_make_128 : decode cX9_make 128 = .ok (.iand, 1) := by decide +kernel
theorem dX9_make_129 : decode cX9_make 129 = .ok (.ifCond .ne 19, 3) := by decide +kernel
theorem dX9_make_132 : decode cX9_make 132 = .ok (.iload 6, 2) := by decide +kernel
theorem dX9_make_134 : decode cX9_make 134 = .ok (.iload_n 1, 1) := by decide +kernel
theorem dX9_make_135 : decode cX9_make 135 = .ok (.if_icmp .ne 13, 3) := by decide +kernel
theorem dX9_make_138 : decode cX9_make 138 = .ok (.iload 7, 2) := by decide +kernel
theorem dX9_make_140 : decode cX9_make 140 = .ok (.iload_n 3, 1) := by decide +kernel
theorem dX9_make_141 : decode cX9_make 141 = .ok (.if_icmp .ge 7, 3) := by decide +kernel
theorem dX9_make_144 : decode cX9_make 144 = .ok (.iconst 1, 1) := by decide +kernel
theorem dX9_make_145 : decode cX9_make 145 = .ok (.goto 4, 3) := by decide +kernel
theorem dX9_make_148 : decode cX9_make 148 = .ok (.iconst 0, 1) := by decide +kernel
theorem dX9_make_149 : decode cX9_make 149 = .ok (.istore 8, 2) := by decide +kernel
theorem dX9_make_151 : decode cX9_make 151 = .ok (.iload 8, 2) := by decide +kernel
theorem dX9_make_153 : decode cX9_make 153 = .ok (.ifCond .eq 8, 3) := by decide +kernel
theorem dX9_make_156 : decode cX9_make 156 = .ok (.iload 5, 2) := by decide +kernel
theorem dX9_make_158 : decode cX9_make 158 = .ok (.goto 5, 3) := by decide +kernel
theorem dX9_make_161 : decode cX9_make 161 = .ok (.iload 4, 2) := by decide +kernel
theorem dX9_make_163 : decode cX9_make 163 = .ok (.istore 4, 2) := by decide +kernel
theorem dX9_make_165 : decode cX9_make 165 = .ok (.iload 8, 2) := by decide +kernel
theorem dX9_make_167 : decode cX9_make 167 = .ok (.ifCond .eq 8, 3) := by decide +kernel
theorem dX9_make_170 : decode cX9_make 170 = .ok (.iload 7, 2) := by decide +kernel
theorem dX9_make_172 : decode cX9_make 172 = .ok (.goto 4, 3) := by decide +kernel
theorem dX9_make_175 : decode cX9_make 175 = .ok (.iload_n 3, 1) := by decide +kernel
theorem dX9_make_176 : decode cX9_make 176 = .ok (.istore_n 3, 1) := by decide +kernel
theorem dX9_make_177 : decode cX9_make 177 = .ok (.iinc 5 1, 3) := by decide +kernel
theorem dX9_make_180 : decode cX9_make 180 = .ok (.goto (-147), 3) := by decide +kernel
theorem dX9_make_183 : decode cX9_make 183 = .ok (.iload 4, 2) := by decide +kernel
theorem dX9_make_185 : decode cX9_make 185 = .ok (.ifCond .lt 8, 3) := by decide +kernel
theorem dX9_make_188 : decode cX9_make 188 = .ok (.iload_n 2, 1) := by decide +kernel
theorem dX9_make_189 : decode cX9_make 189 = .ok (.iconst 1, 1) := by decide +kernel
theorem dX9_make_190 : decode cX9_make 190 = .ok (.if_icmp .ne 8, 3) := by decide +kernel
theorem dX9_make_193 : decode cX9_make 193 = .ok (.iload 4, 2) := by decide +kernel
theorem dX9_make_195 : decode cX9_make 195 = .ok (.goto 4, 3) := by decide +kernel
theorem dX9_make_198 : decode cX9_make 198 = .ok (.iload_n 3, 1) := by decide +kernel
theorem dX9_make_199 : decode cX9_make 199 = .ok (.ireturn, 1) := by decide +kernel
theorem dX9_ring_0 : decode cX9_ring 0 = .ok (.iload_n 1, 1) := by decide +kernel
theorem dX9_ring_1 : decode cX9_ring 1 = .ok (.iconst 0, 1) := by decide +kernel
theorem dX9_ring_2 : decode cX9_ring 2 = .ok (.bipush 23, 2) := by decide +kernel
theorem dX9_ring_4 : decode cX9_ring 4 = .ok (.invokestatic 63, 3) := by decide +kernel
theorem dX9_ring_7 : decode cX9_ring 7 = .ok (.ifCond .eq 22, 3) := by decide +kernel
theorem dX9_ring_10 : decode cX9_ring 10 = .ok (.iload_n 2, 1) := by decide +kernel
theorem dX9_ring_11 : decode cX9_ring 11 = .ok (.iload_n 1, 1) := by decide +kernel
theorem dX9_ring_12 : decode cX9_ring 12 = .ok (.bipush 23, 2) := by decide +kernel
theorem dX9_ring_14 : decode cX9_ring 14 = .ok (.invokestatic 63, 3) := by decide +kernel
theorem dX9_ring_17 : decode cX9_ring 17 = .ok (.ifCond .eq 12, 3) := by decide +kernel
theorem dX9_ring_20 : decode cX9_ring 20 = .ok (.iload_n 3, 1) := by decide +kernel
theorem dX9_ring_21 : decode cX9_ring 21 = .ok (.iconst 0, 1) := by decide +kernel
theorem dX9_ring_22 : decode cX9_ring 22 = .ok (.iconst 1, 1) := by decide +kernel
theorem dX9_ring_23 : decode cX9_ring 23 = .ok (.invokestatic 63, 3) := by decide +kernel
theorem dX9_ring_26 : decode cX9_ring 26 = .ok (.ifCond .ne 6, 3) := by decide +kernel
theorem dX9_ring_29 : decode cX9_ring 29 = .ok (.bipush (-2), 2) := by decide +kernel
theorem dX9_ring_31 : decode cX9_ring 31 = .ok (.ireturn, 1) := by decide +kernel
theorem dX9_ring_32 : decode cX9_ring 32 = .ok (.bipush (-6), 2) := by decide +kernel
theorem dX9_ring_34 : decode cX9_ring 34 = .ok (.istore 4, 2) := by decide +kernel
theorem dX9_ring_36 : decode cX9_ring 36 = .ok (.iconst 1, 1) := by decide +kernel
theorem dX9_ring_37 : decode cX9_ring 37 = .ok (.istore 5, 2) := by decide +kernel
theorem dX9_ring_39 : decode cX9_ring 39 = .ok (.iload 5, 2) := by decide +kernel
theorem dX9_ring_41 : decode cX9_ring 41 = .ok (.sipush 256, 3) := by decide +kernel
theorem dX9_ring_44 : decode cX9_ring 44 = .ok (.if_icmp .ge 141, 3) := by decide +kernel
theorem dX9_ring_47 : decode cX9_ring 47 = .ok (.iload 4, 2) := by decide +kernel
theorem dX9_ring_49 : decode cX9_ring 49 = .ok (.ifCond .lt 16, 3) := by decide +kernel
theorem dX9_ring_52 : decode cX9_ring 52 = .ok (.iload 5, 2) := by decide +kernel
theorem dX9_ring_54 : decode cX9_ring 54 = .ok (.invokestatic 71, 3) := by decide +kernel
theorem dX9_ring_57 : decode cX9_ring 57 = .ok (.iload 4, 2) := by decide +kernel
theorem dX9_ring_59 : decode cX9_ring 59 = .ok (.invokestatic 71, 3) := by decide +kernel
theorem dX9_ring_62 : decode cX9_ring 62 = .ok (.if_icmp .ge 7, 3) := by decide +kernel
theorem dX9_ring_65 : decode cX9_ring 65 = .ok (.iconst 1, 1) := by decide +kernel
theorem dX9_ring_66 : decode cX9_ring 66 = .ok (.goto 4, 3) := by decide +kernel
theorem dX9_ring_69 : decode cX9_ring 69 = .ok (.iconst 0, 1) := by decide +kernel
theorem dX9_ring_70 : decode cX9_ring 70 = .ok (.istore 6, 2) := by decide +kernel
theorem dX9_ring_72 : decode cX9_ring 72 = .ok (.iload_n 1, 1) := by decide +kernel
theorem dX9_ring_73 : decode cX9_ring 73 = .ok (.istore 7, 2) := by decide +kernel
theorem dX9_ring_75 : decode cX9_ring 75 = .ok (.iload 7, 2) := by decide +kernel
theorem dX9_ring_77 : decode cX9_ring 77 = .ok (.iload_n 2, 1) := by decide +kernel
theorem dX9_ring_78 : decode cX9_ring 78 = .ok (.if_icmp .gt 87, 3) := by decide +kernel
theorem dX9_ring_81 : decode cX9_ring 81 = .ok (.iload 6, 2) := by decide +kernel
theorem dX9_ring_83 : decode cX9_ring 83 = .ok (.ifCond .eq 82, 3) := by decide +kernel
theorem dX9_ring_86 : decode cX9_ring 86 = .ok (.iconst 0, 1) := by decide +kernel
theorem dX9_ring_87 : decode cX9_ring 87 = .ok (.istore 8, 2) := by decide +kernel
theorem dX9_ring_89 : decode cX9_ring 89 = .ok (.iconst 0, 1) := by decide +kernel
theorem dX9_ring_90 : decode cX9_ring 90 = .ok (.istore 9, 2) := by decide +kernel
theorem dX9_ring_92 : decode cX9_ring 92 = .ok (.iload 9, 2) := by decide +kernel
theorem dX9_ring_94 : decode cX9_ring 94 = .ok (.bipush 8, 2) := by decide +kernel
theorem dX9_ring_96 : decode cX9_ring 96 = .ok (.if_icmp .ge 59, 3) := by decide +kernel
theorem dX9_ring_99 : decode cX9_ring 99 = .ok (.iload 8, 2) := by decide +kernel
theorem dX9_ring_101 : decode cX9_ring 101 = .ok (.ifCond .ne 41, 3) := by decide +kernel
theorem dX9_ring_104 : decode cX9_ring 104 = .ok (.iload 5, 2) := by decide +kernel
theorem dX9_ring_106 : decode cX9_ring 106 = .ok (.iload 9, 2) := by decide +kernel
theorem dX9_ring_108 : decode cX9_ring 108 = .ok (.invokestatic 67, 3) := by decide +kernel
theorem dX9_ring_111 : decode cX9_ring 111 = .ok (.ifCond .eq 35, 3) := by decide +kernel
theorem dX9_ring_114 : decode cX9_ring 114 = .ok (.iload 7, 2) := by decide +kernel
theorem dX9_ring_116 : decode cX9_ring 116 = .ok (.aload_n 0, 1) := by decide +kernel
theorem dX9_ring_117 : decode cX9_ring 117 = .ok (.getfield 25, 3) := by decide +kernel
theorem dX9_ring_120 : decode cX9_ring 120 = .ok (.iload 9, 2) := by decide +kernel
theorem dX9_ring_122 : decode cX9_ring 122 = .ok (.iaload, 1) := by decide +kernel
theorem dX9_ring_123 : decode cX9_ring 123 = .ok (.bipush 100, 2) := by decide +kernel
theorem dX9_ring_125 : decode cX9_ring 125 = .ok (.idiv, 1) := by decide +kernel
theorem dX9_ring_126 : decode cX9_ring 126 = .ok (.aload_n 0, 1) := by decide +kernel
theorem dX9_ring_127 : decode cX9_ring 127 = .ok (.getfield 25, 3) := by decide +kernel
theorem dX9_ring_130 : decode cX9_ring 130 = .ok (.iload 9, 2) := by decide +kernel
theorem dX9_ring_132 : decode cX9_ring 132 = .ok (.iaload, 1) := by decide +kernel
theorem dX9_ring_133 : decode cX9_ring 133 = .ok (.bipush 100, 2) := by decide +kernel
theorem dX9_ring_135 : decode cX9_ring 135 = .ok (.irem, 1) := by decide +kernel
theorem dX9_ring_136 : decode cX9_ring 136 = .ok (.invokestatic 63, 3) := by decide +kernel
theorem dX9_ring_139 : decode cX9_ring 139 = .ok (.ifCond .eq 7, 3) := by decide +kernel
theorem dX9_ring_142 : decode cX9_ring 142 = .ok (.iconst 1, 1) := by decide +kernel
theorem dX9_ring_143 : decode cX9_ring 143 = .ok (.goto 4, 3) := by decide +kernel
theorem dX9_ring_146 : decode cX9_ring 146 = .ok (.iconst 0, 1) := by decide +kernel
theorem dX9_ring_147 : decode cX9_ring 147 = .ok (.istore 8, 2) := by decide +kernel
theorem dX9_ring_149 : decode cX9_ring 149 = .ok (.iinc 9 1, 3) := by decide +kernel
theorem dX9_ring_152 : decode cX9_ring 152 = .ok (.goto (-60), 3) := by decide +kernel
theorem dX9_ring_155 : decode cX9_ring 155 = .ok (.iload 8, 2) := by decide +kernel
theorem dX9_ring_157 : decode cX9_ring 157 = .ok (.istore 6, 2) := by decide +kernel
theorem dX9_ring_159 : decode cX9_ring 159 = .ok (.iinc 7 1, 3) := by decide +kernel
theorem dX9_ring_162 : decode cX9_ring 162 = .ok (.goto (-87), 3) := by decide +kernel
theorem dX9_ring_165 : decode cX9_ring 165 = .ok (.iload 6, 2) := by decide +kernel
theorem dX9_ring_167 : decode cX9_ring 167 = .ok (.ifCond .eq 8, 3) := by decide +kernel
theorem dX9_ring_170 : decode cX9_ring 170 = .ok (.iload 5, 2) := by decide +kernel
theorem dX9_ring_172 : decode cX9_ring 172 = .ok (.goto 5, 3) := by decide +kernel
theorem dX9_ring_175 : decode cX9_ring 175 = .ok (.iload 4, 2) := by decide +kernel
theorem dX9_ring_177 : decode cX9_ring 177 = .ok (.istore 4, 2) := by decide +kernel
theorem dX9_ring_179 : decode cX9_ring 179 = .ok (.iinc 5 1, 3) := by decide +kernel
theorem dX9_ring_182 : decode cX9_ring 182 = .ok (.goto (-143), 3) := by decide +kernel
theorem dX9_ring_185 : decode cX9_ring 185 = .ok (.iload 4, 2) := by decide +kernel
theorem dX9_ring_187 : decode cX9_ring 187 = .ok (.ifCond .lt 8, 3) := by decide +kernel
theorem dX9_ring_190 : decode cX9_ring 190 = .ok (.iload_n 3, 1) := by decide +kernel
theorem dX9_ring_191 : decode cX9_ring 191 = .ok (.iconst 1, 1) := by decide +kernel
theorem dX9_ring_192 : decode cX9_ring 192 = .ok (.if_icmp .ne 8, 3) := by decide +kernel
theorem dX9_ring_195 : decode cX9_ring 195 = .ok (.iload 4, 2) := by decide +kernel
theorem dX9_ring_197 : decode cX9_ring 197 = .ok (.goto 8, 3) := by decide +kernel
theorem dX9_ring_200 : decode cX9_ring 200 = .ok (.iload 4, 2) := by decide +kernel
theorem dX9_ring_202 : decode cX9_ring 202 = .ok (.invokestatic 71, 3) := by decide +kernel
theorem dX9_ring_205 : decode cX9_ring 205 = .ok (.ireturn, 1) := by decide +kernel
theorem dX9_seen_0 : decode cX9_seen 0 = .ok (.iload_n 1, 1) := by decide +kernel
theorem dX9_seen_1 : decode cX9_seen 1 = .ok (.iconst 0, 1) := by decide +kernel
theorem dX9_seen_2 : decode cX9_seen 2 = .ok (.iconst 5, 1) := by decide +kernel
theorem dX9_seen_3 : decode cX9_seen 3 = .ok (.invokestatic 63, 3) := by decide +kernel
theorem dX9_seen_6 : decode cX9_seen 6 = .ok (.ifCond .ne 5, 3) := by decide +kernel
theorem dX9_seen_9 : decode cX9_seen 9 = .ok (.iconst (-1), 1) := by decide +kernel
theorem dX9_seen_10 : decode cX9_seen 10 = .ok (.ireturn, 1) := by decide +kernel
theorem dX9_seen_11 : decode cX9_seen 11 = .ok (.aload_n 0, 1) := by decide +kernel
theorem dX9_seen_12 : decode cX9_seen 12 = .ok (.getfield 141, 3) := by decide +kernel
theorem dX9_seen_15 : decode cX9_seen 15 = .ok (.bipush 8, 2) := by decide +kernel
theorem dX9_seen_17 : decode cX9_seen 17 = .ok (.if_icmp .ne 6, 3) := by decide +kernel
theorem dX9_seen_20 : decode cX9_seen 20 = .ok (.bipush (-4), 2) := by decide +kernel
theorem dX9_seen_22 : decode cX9_seen 22 = .ok (.ireturn, 1) := by decide +kernel
theorem dX9_seen_23 : decode cX9_seen 23 = .ok (.aload_n 0, 1) := by decide +kernel
theorem dX9_seen_24 : decode cX9_seen 24 = .ok (.getfield 31, 3) := by decide +kernel
theorem dX9_seen_27 : decode cX9_seen 27 = .ok (.iconst 2, 1) := by decide +kernel
theorem dX9_seen_28 : decode cX9_seen 28 = .ok (.aload_n 0, 1) := by decide +kernel
theorem dX9_seen_29 : decode cX9_seen 29 = .ok (.getfield 141, 3) := by decide +kernel
theorem dX9_seen_32 : decode cX9_seen 32 = .ok (.imul, 1) := by decide +kernel
theorem dX9_seen_33 : decode cX9_seen 33 = .ok (.iload_n 1, 1) := by decide +kernel
theorem dX9_seen_34 : decode cX9_seen 34 = .ok (.iastore, 1) := by decide +kernel
theorem dX9_seen_35 : decode cX9_seen 35 = .ok (.aload_n 0, 1) := by decide +kernel
theorem dX9_seen_36 : decode cX9_seen 36 = .ok (.getfield 31, 3) := by decide +kernel
theorem dX9_seen_39 : decode cX9_seen 39 = .ok (.iconst 2, 1) := by decide +kernel
theorem dX9_seen_40 : decode cX9_seen 40 = .ok (.aload_n 0, 1) := by decide +kernel
theorem dX9_seen_41 : decode cX9_seen 41 = .ok (.getfield 141, 3) := by decide +kernel
theorem dX9_seen_44 : decode cX9_seen 44 = .ok (.imul, 1) := by decide +kernel
theorem dX9_seen_45 : decode cX9_seen 45 = .ok (.iconst 1, 1) := by decide +kernel
theorem dX9_seen_46 : decode cX9_seen 46 = .ok (.iadd, 1) := by decide +kernel
theorem dX9_seen_47 : decode cX9_seen 47 = .ok (.iload_n 2, 1) := by decide +kernel
theorem dX9_seen_48 : decode cX9_seen 48 = .ok (.ifCond .eq 7, 3) := by decide +kernel
theorem dX9_seen_51 : decode cX9_seen 51 = .ok (.iconst 1, 1) := by decide +kernel
theorem dX9_seen_52 : decode cX9_seen 52 = .ok (.goto 4, 3) := by decide +kernel
theorem dX9_seen_55 : decode cX9_seen 55 = .ok (.iconst 0, 1) := by decide +kernel
theorem dX9_seen_56 : decode cX9_seen 56 = .ok (.iastore, 1) := by decide +kernel
theorem dX9_seen_57 : decode cX9_seen 57 = .ok (.aload_n 0, 1) := by decide +kernel
theorem dX9_seen_58 : decode cX9_seen 58 = .ok (.dup, 1) := by decide +kernel
theorem dX9_seen_59 : decode cX9_seen 59 = .ok (.getfield 141, 3) := by decide +kernel
theorem dX9_seen_62 : decode cX9_seen 62 = .ok (.iconst 1, 1) := by decide +kernel
theorem dX9_seen_63 : decode cX9_seen 63 = .ok (.iadd, 1) := by decide +kernel
theorem dX9_seen_64 : decode cX9_seen 64 = .ok (.putfield 141, 3) := by decide +kernel
theorem dX9_seen_67 : decode cX9_seen 67 = .ok (.aload_n 0, 1) := by decide +kernel
theorem dX9_seen_68 : decode cX9_seen 68 = .ok (.getfield 141, 3) := by decide +kernel
theorem dX9_seen_71 : decode cX9_seen 71 = .ok (.ireturn, 1) := by decide +kernel
theorem dX9_forget_0 : decode cX9_forget 0 = .ok (.aload_n 0, 1) := by decide +kernel
theorem dX9_forget_1 : decode cX9_forget 1 = .ok (.getfield 141, 3) := by decide +kernel
theorem dX9_forget_4 : decode cX9_forget 4 = .ok (.istore_n 1, 1) := by decide +kernel
theorem dX9_forget_5 : decode cX9_forget 5 = .ok (.aload_n 0, 1) := by decide +kernel
theorem dX9_forget_6 : decode cX9_forget 6 = .ok (.iconst 0, 1) := by decide +kernel
theorem dX9_forget_7 : decode cX9_forget 7 = .ok (.putfield 141, 3) := by decide +kernel
theorem dX9_forget_10 : decode cX9_forget 10 = .ok (.iload_n 1, 1) := by decide +kernel
theorem dX9_forget_11 : decode cX9_forget 11 = .ok (.ireturn, 1) := by decide +kernel
theorem dX9_isFit_0 : decode cX9_isFit 0 = .ok (.iconst 1, 1) := by decide +kernel
theorem dX9_isFit_1 : decode cX9_isFit 1 = .ok (.istore_n 2, 1) := by decide +kernel
theorem dX9_isFit_2 : decode cX9_isFit 2 = .ok (.iconst 0, 1) := by decide +kernel
theorem dX9_isFit_3 : decode cX9_isFit 3 = .ok (.istore_n 3, 1) := by decide +kernel
theorem dX9_isFit_4 : decode cX9_isFit 4 = .ok (.iload_n 3, 1) := by decide +kernel
theorem dX9_isFit_5 : decode cX9_isFit 5 = .ok (.aload_n 0, 1) := by decide +kernel
theorem dX9_isFit_6 : decode cX9_isFit 6 = .ok (.getfield 141, 3) := by decide +kernel
theorem dX9_isFit_9 : decode cX9_isFit 9 = .ok (.if_icmp .ge 66, 3) := by decide +kernel
theorem dX9_isFit_12 : decode cX9_isFit 12 = .ok (.iload_n 2, 1) := by decide +kernel
theorem dX9_isFit_13 : decode cX9_isFit 13 = .ok (.ifCond .eq 62, 3) := by decide +kernel
theorem dX9_isFit_16 : decode cX9_isFit 16 = .ok (.aload_n 0, 1) := by decide +kernel
theorem dX9_isFit_17 : decode cX9_isFit 17 = .ok (.getfield 16, 3) := by decide +kernel
theorem dX9_isFit_20 : decode cX9_isFit 20 = .ok (.aload_n 0, 1) := by decide +kernel
theorem dX9_isFit_21 : decode cX9_isFit 21 = .ok (.getfield 31, 3) := by decide +kernel
theorem dX9_isFit_24 : decode cX9_isFit 24 = .ok (.iconst 2, 1) := by decide +kernel
theorem dX9_isFit_25 : decode cX9_isFit 25 = .ok (.iload_n 3, 1) := by decide +kernel
theorem dX9_isFit_26 : decode cX9_isFit 26 = .ok (.imul, 1) := by decide +kernel
theorem dX9_isFit_27 : decode cX9_isFit 27 = .ok (.iaload, 1) := by decide +kernel
theorem dX9_isFit_28 : decode cX9_isFit 28 = .ok (.iaload, 1) := by decide +kernel
theorem dX9_isFit_29 : decode cX9_isFit 29 = .ok (.iload_n 1, 1) := by decide +kernel
theorem dX9_isFit_30 : decode cX9_isFit 30 = .ok (.iconst (-1), 1) := by decide +kernel
theorem dX9_isFit_31 : decode cX9_isFit 31 = .ok (.ixor, 1) := by decide +kernel
theorem dX9_isFit_32 : decode cX9_isFit 32 = .ok (.iand, 1) := by decide +kernel
theorem dX9_isFit_33 : decode cX9_isFit 33 = .ok (.ifCond .ne 7, 3) := by decide +kernel
theorem dX9_isFit_36 : decode cX9_isFit 36 = .ok (.iconst 1, 1) := by decide +kernel
theorem dX9_isFit_37 : decode cX9_isFit 37 = .ok (.goto 4, 3) := by decide +kernel
theorem dX9_isFit_40 : decode cX9_isFit 40 = .ok (.iconst 0, 1) := by decide +kernel
theorem dX9_isFit_41 : decode cX9_isFit 41 = .ok (.aload_n 0, 1) := by decide +kernel
theorem dX9_isFit_42 : decode cX9_isFit 42 = .ok (.getfield 31, 3) := by decide +kernel
theorem dX9_isFit_45 : decode cX9_isFit 45 = .ok (.iconst 2, 1) := by decide +kernel
theorem dX9_isFit_46 : decode cX9_isFit 46 = .ok (.iload_n 3, 1) := by decide +kernel
theorem dX9_isFit_47 : decode cX9_isFit 47 = .ok (.imul, 1) := by decide +kernel
theorem dX9_isFit_48 : decode cX9_isFit 48 = .ok (.iconst 1, 1) := by decide +kernel
theorem dX9_isFit_49 : decode cX9_isFit 49 = .ok (.iadd, 1) := by decide +kernel
theorem dX9_isFit_50 : decode cX9_isFit 50 = .ok (.iaload, 1) := by decide +kernel
theorem dX9_isFit_51 : decode cX9_isFit 51 = .ok (.iconst 1, 1) := by decide +kernel
theorem dX9_isFit_52 : decode cX9_isFit 52 = .ok (.if_icmp .ne 7, 3) := by decide +kernel
theorem dX9_isFit_55 : decode cX9_isFit 55 = .ok (.iconst 1, 1) := by decide +kernel
theorem dX9_isFit_56 : decode cX9_isFit 56 = .ok (.goto 4, 3) := by decide +kernel
theorem dX9_isFit_59 : decode cX9_isFit 59 = .ok (.iconst 0, 1) := by decide +kernel
theorem dX9_isFit_60 : decode cX9_isFit 60 = .ok (.if_icmp .ne 7, 3) := by decide +kernel
theorem dX9_isFit_63 : decode cX9_isFit 63 = .ok (.iconst 1, 1) := by decide +kernel
theorem dX9_isFit_64 : decode cX9_isFit 64 = .ok (.goto 4, 3) := by decide +kernel
theorem dX9_isFit_67 : decode cX9_isFit 67 = .ok (.iconst 0, 1) := by decide +kernel
theorem dX9_isFit_68 : decode cX9_isFit 68 = .ok (.istore_n 2, 1) := by decide +kernel
theorem dX9_isFit_69 : decode cX9_isFit 69 = .ok (.iinc 3 1, 3) := by decide +kernel
theorem dX9_isFit_72 : decode cX9_isFit 72 = .ok (.goto (-68), 3) := by decide +kernel
theorem dX9_isFit_75 : decode cX9_isFit 75 = .ok (.iload_n 2, 1) := by decide +kernel
theorem dX9_isFit_76 : decode cX9_isFit 76 = .ok (.ireturn, 1) := by decide +kernel
theorem dX9_shape_0 : decode cX9_shape 0 = .ok (.iconst 0, 1) := by decide +kernel
theorem dX9_shape_1 : decode cX9_shape 1 = .ok (.istore_n 2, 1) := by decide +kernel
theorem dX9_shape_2 : decode cX9_shape 2 = .ok (.iconst 0, 1) := by decide +kernel
theorem dX9_shape_3 : decode cX9_shape 3 = .ok (.istore_n 3, 1) := by decide +kernel
theorem dX9_shape_4 : decode cX9_shape 4 = .ok (.iload_n 3, 1) := by decide +kernel
theorem dX9_shape_5 : decode cX9_shape 5 = .ok (.sipush 256, 3) := by decide +kernel
theorem dX9_shape_8 : decode cX9_shape 8 = .ok (.if_icmp .ge 27, 3) := by decide +kernel
theorem dX9_shape_11 : decode cX9_shape 11 = .ok (.aload_n 0, 1) := by decide +kernel
theorem dX9_shape_12 : decode cX9_shape 12 = .ok (.iload_n 3, 1) := by decide +kernel
theorem dX9_shape_13 : decode cX9_shape 13 = .ok (.invokevirtual 144, 3) := by decide +kernel
theorem dX9_shape_16 : decode cX9_shape 16 = .ok (.ifCond .eq 13, 3) := by decide +kernel
theorem dX9_shape_19 : decode cX9_shape 19 = .ok (.iload_n 2, 1) := by decide +kernel
theorem dX9_shape_20 : decode cX9_shape 20 = .ok (.iload_n 1, 1) := by decide +kernel
theorem dX9_shape_21 : decode cX9_shape 21 = .ok (.if_icmp .ne 5, 3) := by decide +kernel
theorem dX9_shape_24 : decode cX9_shape 24 = .ok (.iload_n 3, 1) := by decide +kernel
theorem dX9_shape_25 : decode cX9_shape 25 = .ok (.ireturn, 1) := by decide +kernel
theorem dX9_shape_26 : decode cX9_shape 26 = .ok (.iinc 2 1, 3) := by decide +kernel
theorem dX9_shape_29 : decode cX9_shape 29 = .ok (.iinc 3 1, 3) := by decide +kernel
theorem dX9_shape_32 : decode cX9_shape 32 = .ok (.goto (-28), 3) := by decide +kernel
theorem dX9_shape_35 : decode cX9_shape 35 = .ok (.iload_n 1, 1) := by decide +kernel
theorem dX9_shape_36 : decode cX9_shape 36 = .ok (.iconst (-1), 1) := by decide +kernel
theorem dX9_shape_37 : decode cX9_shape 37 = .ok (.if_icmp .ne 7, 3) := by decide +kernel
theorem dX9_shape_40 : decode cX9_shape 40 = .ok (.iload_n 2, 1) := by decide +kernel
theorem dX9_shape_41 : decode cX9_shape 41 = .ok (.goto 5, 3) := by decide +kernel
theorem dX9_shape_44 : decode cX9_shape 44 = .ok (.bipush (-6), 2) := by decide +kernel
theorem dX9_shape_46 : decode cX9_shape 46 = .ok (.ireturn, 1) := by decide +kernel
theorem dX9_ask_0 : decode cX9_ask 0 = .ok (.iload_n 1, 1) := by decide +kernel
theorem dX9_ask_1 : decode cX9_ask 1 = .ok (.iconst 0, 1) := by decide +kernel
theorem dX9_ask_2 : decode cX9_ask 2 = .ok (.iconst 1, 1) := by decide +kernel
theorem dX9_ask_3 : decode cX9_ask 3 = .ok (.invokestatic 63, 3) := by decide +kernel
theorem dX9_ask_6 : decode cX9_ask 6 = .ok (.ifCond .ne 6, 3) := by decide +kernel
theorem dX9_ask_9 : decode cX9_ask 9 = .ok (.bipush (-2), 2) := by decide +kernel
theorem dX9_ask_11 : decode cX9_ask 11 = .ok (.ireturn, 1) := by decide +kernel
theorem dX9_ask_12 : decode cX9_ask 12 = .ok (.bipush (-6), 2) := by decide +kernel
theorem dX9_ask_14 : decode cX9_ask 14 = .ok (.istore_n 2, 1) := by decide +kernel
theorem dX9_ask_15 : decode cX9_ask 15 = .ok (.ldc 137, 2) := by decide +kernel
theorem dX9_ask_17 : decode cX9_ask 17 = .ok (.istore_n 3, 1) := by decide +kernel
theorem dX9_ask_18 : decode cX9_ask 18 = .ok (.iconst 0, 1) := by decide +kernel
theorem dX9_ask_19 : decode cX9_ask 19 = .ok (.istore 4, 2) := by decide +kernel
theorem dX9_ask_21 : decode cX9_ask 21 = .ok (.iload 4, 2) := by decide +kernel
theorem dX9_ask_23 : decode cX9_ask 23 = .ok (.bipush 6, 2) := by decide +kernel
theorem dX9_ask_25 : decode cX9_ask 25 = .ok (.if_icmp .ge 149, 3) := by decide +kernel
theorem dX9_ask_28 : decode cX9_ask 28 = .ok (.iconst 0, 1) := by decide +kernel
theorem dX9_ask_29 : decode cX9_ask 29 = .ok (.istore 5, 2) := by decide +kernel
theorem dX9_ask_31 : decode cX9_ask 31 = .ok (.iconst 0, 1) := by decide +kernel
theorem dX9_ask_32 : decode cX9_ask 32 = .ok (.istore 6, 2) := by decide +kernel
theorem dX9_ask_34 : decode cX9_ask 34 = .ok (.iconst 0, 1) := by decide +kernel
theorem dX9_ask_35 : decode cX9_ask 35 = .ok (.istore 7, 2) := by decide +kernel
theorem dX9_ask_37 : decode cX9_ask 37 = .ok (.iload 7, 2) := by decide +kernel
theorem dX9_ask_39 : decode cX9_ask 39 = .ok (.sipush 256, 3) := by decide +kernel
theorem dX9_ask_42 : decode cX9_ask 42 = .ok (.if_icmp .ge 62, 3) := by decide +kernel
theorem dX9_ask_45 : decode cX9_ask 45 = .ok (.aload_n 0, 1) := by decide +kernel
theorem dX9_ask_46 : decode cX9_ask 46 = .ok (.iload 7, 2) := by decide +kernel
theorem dX9_ask_48 : decode cX9_ask 48 = .ok (.invokevirtual 144, 3) := by decide +kernel
theorem dX9_ask_51 : decode cX9_ask 51 = .ok (.istore 8, 2) := by decide +kernel
theorem dX9_ask_53 : decode cX9_ask 53 = .ok (.iload 5, 2) := by decide +kernel
theorem dX9_ask_55 : decode cX9_ask 55 = .ok (.iload 8, 2) := by decide +kernel
theorem dX9_ask_57 : decode cX9_ask 57 = .ok (.ifCond .eq 7, 3) := by decide +kernel
theorem dX9_ask_60 : decode cX9_ask 60 = .ok (.iconst 1, 1) := by decide +kernel
theorem dX9_ask_61 : decode cX9_ask 61 = .ok (.goto 4, 3) := by decide +kernel
theorem dX9_ask_64 : decode cX9_ask 64 = .ok (.iconst 0, 1) := by decide +kernel
theorem dX9_ask_65 : decode cX9_ask 65 = .ok (.iadd, 1) := by decide +kernel
theorem dX9_ask_66 : decode cX9_ask 66 = .ok (.istore 5, 2) := by decide +kernel
theorem dX9_ask_68 : decode cX9_ask 68 = .ok (.iload 6, 2) := by decide +kernel
theorem dX9_ask_70 : decode cX9_ask 70 = .ok (.iload 8, 2) := by decide +kernel
theorem dX9_ask_72 : decode cX9_ask 72 = .ok (.ifCond .eq 22, 3) := by decide +kernel
theorem dX9_ask_75 : decode cX9_ask 75 = .ok (.aload_n 0, 1) := by decide +kernel
theorem dX9_ask_76 : decode cX9_ask 76 = .ok (.getfield 16, 3) := by decide +kernel
theorem dX9_ask_79 : decode cX9_ask 79 = .ok (.iload 4, 2) := by decide +kernel
theorem dX9_ask_81 : decode cX9_ask 81 = .ok (.iaload, 1) := by decide +kernel
theorem dX9_ask_82 : decode cX9_ask 82 = .ok (.iload 7, 2) := by decide +kernel
theorem dX9_ask_84 : decode cX9_ask 84 = .ok (.iconst (-1), 1) := by decide +kernel
theorem dX9_ask_85 : decode cX9_ask 85 = .ok (.ixor, 1) := by decide +kernel
theorem dX9_ask_86 : decode cX9_ask 86 = .ok (.iand, 1) := by decide +kernel
theorem dX9_ask_87 : decode cX9_ask 87 = .ok (.ifCond .ne 7, 3) := by decide +kernel
theorem dX9_ask_90 : decode cX9_ask 90 = .ok (.iconst 1, 1) := by decide +kernel
theorem dX9_ask_91 : decode cX9_ask 91 = .ok (.goto 4, 3) := by decide +kernel
theorem dX9_ask_94 : decode cX9_ask 94 = .ok (.iconst 0, 1) := by decide +kernel
theorem dX9_ask_95 : decode cX9_ask 95 = .ok (.iadd, 1) := by decide +kernel
theorem dX9_ask_96 : decode cX9_ask 96 = .ok (.istore 6, 2) := by decide +kernel
theorem dX9_ask_98 : decode cX9_ask 98 = .ok (.iinc 7 1, 3) := by decide +kernel
theorem dX9_ask_101 : decode cX9_ask 101 = .ok (.goto (-64), 3) := by decide +kernel
theorem dX9_ask_104 : decode cX9_ask 104 = .ok (.iload 6, 2) := by decide +kernel
theorem dX9_ask_106 : decode cX9_ask 106 = .ok (.iload 5, 2) := by decide +kernel
theorem dX9_ask_108 : decode cX9_ask 108 = .ok (.iload 6, 2) := by decide +kernel
theorem dX9_ask_110 : decode cX9_ask 110 = .ok (.isub, 1) := by decide +kernel
theorem dX9_ask_111 : decode cX9_ask 111 = .ok (.if_icmp .le 8, 3) := by decide +kernel
theorem dX9_ask_114 : decode cX9_ask 114 = .ok (.iload 6, 2) := by decide +kernel
theorem dX9_ask_116 : decode cX9_ask 116 = .ok (.goto 8, 3) := by decide +kernel
theorem dX9_ask_119 : decode cX9_ask 119 = .ok (.iload 5, 2) := by decide +kernel
theorem dX9_ask_121 : decode cX9_ask 121 = .ok (.iload 6, 2) := by decide +kernel
theorem dX9_ask_123 : decode cX9_ask 123 = .ok (.isub, 1) := by decide +kernel
theorem dX9_ask_124 : decode cX9_ask 124 = .ok (.istore 7, 2) := by decide +kernel
theorem dX9_ask_126 : decode cX9_ask 126 = .ok (.iload 5, 2) := by decide +kernel
theorem dX9_ask_128 : decode cX9_ask 128 = .ok (.ifCond .le 13, 3) := by decide +kernel
theorem dX9_ask_131 : decode cX9_ask 131 = .ok (.iload 7, 2) := by decide +kernel
theorem dX9_ask_133 : decode cX9_ask 133 = .ok (.iload_n 3, 1) := by decide +kernel
theorem dX9_ask_134 : decode cX9_ask 134 = .ok (.if_icmp .ge 7, 3) := by decide +kernel
theorem dX9_ask_137 : decode cX9_ask 137 = .ok (.iconst 1, 1) := by decide +kernel
theorem dX9_ask_138 : decode cX9_ask 138 = .ok (.goto 4, 3) := by decide +kernel
theorem dX9_ask_141 : decode cX9_ask 141 = .ok (.iconst 0, 1) := by decide +kernel
theorem dX9_ask_142 : decode cX9_ask 142 = .ok (.istore 8, 2) := by decide +kernel
theorem dX9_ask_144 : decode cX9_ask 144 = .ok (.iload 8, 2) := by decide +kernel
theorem dX9_ask_146 : decode cX9_ask 146 = .ok (.ifCond .eq 8, 3) := by decide +kernel
theorem dX9_ask_149 : decode cX9_ask 149 = .ok (.iload 4, 2) := by decide +kernel
theorem dX9_ask_151 : decode cX9_ask 151 = .ok (.goto 4, 3) := by decide +kernel
theorem dX9_ask_154 : decode cX9_ask 154 = .ok (.iload_n 2, 1) := by decide +kernel
theorem dX9_ask_155 : decode cX9_ask 155 = .ok (.istore_n 2, 1) := by decide +kernel
theorem dX9_ask_156 : decode cX9_ask 156 = .ok (.iload 8, 2) := by decide +kernel
theorem dX9_ask_158 : decode cX9_ask 158 = .ok (.ifCond .eq 8, 3) := by decide +kernel
theorem dX9_ask_161 : decode cX9_ask 161 = .ok (.iload 7, 2) := by decide +kernel
theorem dX9_ask_163 : decode cX9_ask 163 = .ok (.goto 4, 3) := by decide +kernel
theorem dX9_ask_166 : decode cX9_ask 166 = .ok (.iload_n 3, 1) := by decide +kernel
theorem dX9_ask_167 : decode cX9_ask 167 = .ok (.istore_n 3, 1) := by decide +kernel
theorem dX9_ask_168 : decode cX9_ask 168 = .ok (.iinc 4 1, 3) := by decide +kernel
theorem dX9_ask_171 : decode cX9_ask 171 = .ok (.goto (-150), 3) := by decide +kernel
theorem dX9_ask_174 : decode cX9_ask 174 = .ok (.iload_n 2, 1) := by decide +kernel
theorem dX9_ask_175 : decode cX9_ask 175 = .ok (.ifCond .lt 7, 3) := by decide +kernel
theorem dX9_ask_178 : decode cX9_ask 178 = .ok (.iload_n 1, 1) := by decide +kernel
theorem dX9_ask_179 : decode cX9_ask 179 = .ok (.ifCond .ne 7, 3) := by decide +kernel
theorem dX9_ask_182 : decode cX9_ask 182 = .ok (.iload_n 2, 1) := by decide +kernel
theorem dX9_ask_183 : decode cX9_ask 183 = .ok (.goto 4, 3) := by decide +kernel
theorem dX9_ask_186 : decode cX9_ask 186 = .ok (.iload_n 3, 1) := by decide +kernel
theorem dX9_ask_187 : decode cX9_ask 187 = .ok (.ireturn, 1) := by decide +kernel
theorem dX9_layMud_0 : decode cX9_layMud 0 = .ok (.iconst 0, 1) := by decide +kernel
theorem dX9_layMud_1 : decode cX9_layMud 1 = .ok (.istore_n 1, 1) := by decide +kernel
theorem dX9_layMud_2 : decode cX9_layMud 2 = .ok (.iload_n 1, 1) := by decide +kernel
theorem dX9_layMud_3 : decode cX9_layMud 3 = .ok (.bipush 10, 2) := by decide +kernel
theorem dX9_layMud_5 : decode cX9_layMud 5 = .ok (.if_icmp .ge 36, 3) := by decide +kernel
theorem dX9_layMud_8 : decode cX9_layMud 8 = .ok (.aload_n 0, 1) := by decide +kernel
theorem dX9_layMud_9 : decode cX9_layMud 9 = .ok (.getfield 46, 3) := by decide +kernel
theorem dX9_layMud_12 : decode cX9_layMud 12 = .ok (.iload_n 1, 1) := by decide +kernel
theorem dX9_layMud_13 : decode cX9_layMud 13 = .ok (.aload_n 0, 1) := by decide +kernel
theorem dX9_layMud_14 : decode cX9_layMud 14 = .ok (.getfield 28, 3) := by decide +kernel
theorem dX9_layMud_17 : decode cX9_layMud 17 = .ok (.iload_n 1, 1) := by decide +kernel
theorem dX9_layMud_18 : decode cX9_layMud 18 = .ok (.iaload, 1) := by decide +kernel
theorem dX9_layMud_19 : decode cX9_layMud 19 = .ok (.ifCond .ne 7, 3) := by decide +kernel
theorem dX9_layMud_22 : decode cX9_layMud 22 = .ok (.iconst 0, 1) := by decide +kernel
theorem dX9_layMud_23 : decode cX9_layMud 23 = .ok (.goto 4, 3) := by decide +kernel
theorem dX9_layMud_26 : decode cX9_layMud 26 = .ok (.iconst 2, 1) := by decide +kernel
theorem dX9_layMud_27 : decode cX9_layMud 27 = .ok (.iastore, 1) := by decide +kernel
theorem dX9_layMud_28 : decode cX9_layMud 28 = .ok (.aload_n 0, 1) := by decide +kernel
theorem dX9_layMud_29 : decode cX9_layMud 29 = .ok (.getfield 49, 3) := by decide +kernel
theorem dX9_layMud_32 : decode cX9_layMud 32 = .ok (.iload_n 1, 1) := by decide +kernel
theorem dX9_layMud_33 : decode cX9_layMud 33 = .ok (.iconst 0, 1) := by decide +kernel
theorem dX9_layMud_34 : decode cX9_layMud 34 = .ok (.iastore, 1) := by decide +kernel
theorem dX9_layMud_35 : decode cX9_layMud 35 = .ok (.iinc 1 1, 3) := by decide +kernel
theorem dX9_layMud_38 : decode cX9_layMud 38 = .ok (.goto (-36), 3) := by decide +kernel
theorem dX9_layMud_41 : decode cX9_layMud 41 = .ok (.iconst 1, 1) := by decide +kernel
theorem dX9_layMud_42 : decode cX9_layMud 42 = .ok (.istore_n 1, 1) := by decide +kernel
theorem dX9_layMud_43 : decode cX9_layMud 43 = .ok (.iload_n 1, 1) := by decide +kernel
theorem dX9_layMud_44 : decode cX9_layMud 44 = .ok (.bipush 24, 2) := by decide +kernel
theorem dX9_layMud_46 : decode cX9_layMud 46 = .ok (.if_icmp .ge 195, 3) := by decide +kernel
theorem dX9_layMud_49 : decode cX9_layMud 49 = .ok (.iconst 0, 1) := by decide +kernel
theorem dX9_layMud_50 : decode cX9_layMud 50 = .ok (.istore_n 2, 1) := by decide +kernel
theorem dX9_layMud_51 : decode cX9_layMud 51 = .ok (.iload_n 2, 1) := by decide +kernel
theorem dX9_layMud_52 : decode cX9_layMud 52 = .ok (.bipush 10, 2) := by decide +kernel
theorem dX9_layMud_54 : decode cX9_layMud 54 = .ok (.if_icmp .ge 181, 3) := by decide +kernel
theorem dX9_layMud_57 : decode cX9_layMud 57 = .ok (.aload_n 0, 1) := by decide +kernel
theorem dX9_layMud_58 : decode cX9_layMud 58 = .ok (.getfield 46, 3) := by decide +kernel
theorem dX9_layMud_61 : decode cX9_layMud 61 = .ok (.iload_n 2, 1) := by decide +kernel
theorem dX9_layMud_62 : decode cX9_layMud 62 = .ok (.iaload, 1) := by decide +kernel
theorem dX9_layMud_63 : decode cX9_layMud 63 = .ok (.iconst 2, 1) := by decide +kernel
theorem dX9_layMud_64 : decode cX9_layMud 64 = .ok (.if_icmp .ne 165, 3) := by decide +kernel
theorem dX9_layMud_67 : decode cX9_layMud 67 = .ok (.iconst 0, 1) := by decide +kernel
theorem dX9_layMud_68 : decode cX9_layMud 68 = .ok (.istore_n 3, 1) := by decide +kernel
theorem dX9_layMud_69 : decode cX9_layMud 69 = .ok (.iconst 1, 1) := by decide +kernel
theorem dX9_layMud_70 : decode cX9_layMud 70 = .ok (.istore 4, 2) := by decide +kernel
theorem dX9_layMud_72 : decode cX9_layMud 72 = .ok (.iconst 0, 1) := by decide +kernel
theorem dX9_layMud_73 : decode cX9_layMud 73 = .ok (.istore 5, 2) := by decide +kernel
theorem dX9_layMud_75 : decode cX9_layMud 75 = .ok (.iload 5, 2) := by decide +kernel
theorem dX9_layMud_77 : decode cX9_layMud 77 = .ok (.bipush 10, 2) := by decide +kernel
theorem dX9_layMud_79 : decode cX9_layMud 79 = .ok (.if_icmp .ge 119, 3) := by decide +kernel
theorem dX9_layMud_82 : decode cX9_layMud 82 = .ok (.aload_n 0, 1) := by decide +kernel
theorem dX9_layMud_83 : decode cX9_layMud 83 = .ok (.getfield 28, 3) := by decide +kernel
theorem dX9_layMud_86 : decode cX9_layMud 86 = .ok (.iload_n 2, 1) := by decide +kernel
theorem dX9_layMud_87 : decode cX9_layMud 87 = .ok (.iaload, 1) := by decide +kernel
theorem dX9_layMud_88 : decode cX9_layMud 88 = .ok (.iload 5, 2) := by decide +kernel
theorem dX9_layMud_90 : decode cX9_layMud 90 = .ok (.invokestatic 67, 3) := by decide +kernel
theorem dX9_layMud_93 : decode cX9_layMud 93 = .ok (.ifCond .eq 29, 3) := by decide +kernel
theorem dX9_layMud_96 : decode cX9_layMud 96 = .ok (.aload_n 0, 1) := by decide +kernel
theorem dX9_layMud_97 : decode cX9_layMud 97 = .ok (.getfield 46, 3) := by decide +kernel
theorem dX9_layMud_100 : decode cX9_layMud 100 = .ok (.iload 5, 2) := by decide +kernel
theorem dX9_layMud_102 : decode cX9_layMud 102 = .ok (.iaload, 1) := by decide +kernel
theorem dX9_layMud_103 : decode cX9_layMud 103 = .ok (.iconst 2, 1) := by decide +kernel
theorem dX9_layMud_104 : decode cX9_layMud 104 = .ok (.if_icmp .eq 18, 3) := by decide +kernel
theorem dX9_layMud_107 : decode cX9_layMud 107 = .ok (.aload_n 0, 1) := by decide +kernel
theorem dX9_layMud_108 : decode cX9_layMud 108 = .ok (.getfield 49, 3) := by decide +kernel
theorem dX9_layMud_111 : decode cX9_layMud 111 = .ok (.iload 5, 2) := by decide +kernel
theorem dX9_layMud_113 : decode cX9_layMud 113 = .ok (.iaload, 1) := by decide +kernel
theorem dX9_layMud_114 : decode cX9_layMud 114 = .ok (.iload_n 1, 1) := by decide +kernel
theorem dX9_layMud_115 : decode cX9_layMud 115 = .ok (.if_icmp .ge 7, 3) := by decide +kernel
theorem dX9_layMud_118 : decode cX9_layMud 118 = .ok (.iconst 1, 1) := by decide +kernel
theorem dX9_layMud_119 : decode cX9_layMud 119 = .ok (.goto 4, 3) := by decide +kernel
theorem dX9_layMud_122 : decode cX9_layMud 122 = .ok (.iconst 0, 1) := by decide +kernel
theorem dX9_layMud_123 : decode cX9_layMud 123 = .ok (.istore 6, 2) := by decide +kernel
theorem dX9_layMud_125 : decode cX9_layMud 125 = .ok (.iload_n 3, 1) := by decide +kernel
theorem dX9_layMud_126 : decode cX9_layMud 126 = .ok (.ifCond .ne 18, 3) := by decide +kernel
theorem dX9_layMud_129 : decode cX9_layMud 129 = .ok (.iload 6, 2) := by decide +kernel
theorem dX9_layMud_131 : decode cX9_layMud 131 = .ok (.ifCond .eq 17, 3) := by decide +kernel
theorem dX9_layMud_134 : decode cX9_layMud 134 = .ok (.aload_n 0, 1) := by decide +kernel
theorem dX9_layMud_135 : decode cX9_layMud 135 = .ok (.getfield 46, 3) := by decide +kernel
theorem dX9_layMud_138 : decode cX9_layMud 138 = .ok (.iload 5, 2) := by decide +kernel
theorem dX9_layMud_140 : decode cX9_layMud 140 = .ok (.iaload, 1) := by decide +kernel
theorem dX9_layMud_141 : decode cX9_layMud 141 = .ok (.ifCond .ne 7, 3) := by decide +kernel
theorem dX9_layMud_144 : decode cX9_layMud 144 = .ok (.iconst 1, 1) := by decide +kernel
theorem dX9_layMud_145 : decode cX9_layMud 145 = .ok (.goto 4, 3) := by decide +kernel
theorem dX9_layMud_148 : decode cX9_layMud 148 = .ok (.iconst 0, 1) := by decide +kernel
theorem dX9_layMud_149 : decode cX9_layMud 149 = .ok (.istore_n 3, 1) := by decide +kernel
theorem dX9_layMud_150 : decode cX9_layMud 150 = .ok (.iload 4, 2) := by decide +kernel
theorem dX9_layMud_152 : decode cX9_layMud 152 = .ok (.ifCond .eq 37, 3) := by decide +kernel
theorem dX9_layMud_155 : decode cX9_layMud 155 = .ok (.aload_n 0, 1) := by decide +kernel
theorem dX9_layMud_156 : decode cX9_layMud 156 = .ok (.getfield 28, 3) := by decide +kernel
theorem dX9_layMud_159 : decode cX9_layMud 159 = .ok (.iload_n 2, 1) := by decide +kernel
theorem dX9_layMud_160 : decode cX9_layMud 160 = .ok (.iaload, 1) := by decide +kernel
theorem dX9_layMud_161 : decode cX9_layMud 161 = .ok (.iload 5, 2) := by decide +kernel
theorem dX9_layMud_163 : decode cX9_layMud 163 = .ok (.invokestatic 67, 3) := by decide +kernel
theorem dX9_layMud_166 : decode cX9_layMud 166 = .ok (.ifCond .eq 19, 3) := by decide +kernel
theorem dX9_layMud_169 : decode cX9_layMud 169 = .ok (.iload 6, 2) := by decide +kernel
theorem dX9_layMud_171 : decode cX9_layMud 171 = .ok (.ifCond .eq 18, 3) := by decide +kernel
theorem dX9_layMud_174 : decode cX9_layMud 174 = .ok (.aload_n 0, 1) := by decide +kernel
theorem dX9_layMud_175 : decode cX9_layMud 175 = .ok (.getfield 46, 3) := by decide +kernel
theorem dX9_layMud_178 : decode cX9_layMud 178 = .ok (.iload 5, 2) := by decide +kernel
theorem dX9_layMud_180 : decode cX9_layMud 180 = .ok (.iaload, 1) := by decide +kernel
theorem dX9_layMud_181 : decode cX9_layMud 181 = .ok (.iconst 1, 1) := by decide +kernel
theorem dX9_layMud_182 : decode cX9_layMud 182 = .ok (.if_icmp .ne 7, 3) := by decide +kernel
theorem dX9_layMud_185 : decode cX9_layMud 185 = .ok (.iconst 1, 1) := by decide +kernel
theorem dX9_layMud_186 : decode cX9_layMud 186 = .ok (.goto 4, 3) := by decide +kernel
theorem dX9_layMud_189 : decode cX9_layMud 189 = .ok (.iconst 0, 1) := by decide +kernel
theorem dX9_layMud_190 : decode cX9_layMud 190 = .ok (.istore 4, 2) := by decide +kernel
theorem dX9_layMud_192 : decode cX9_layMud 192 = .ok (.iinc 5 1, 3) := by decide +kernel
theorem dX9_layMud_195 : decode cX9_layMud 195 = .ok (.goto (-120), 3) := by decide +kernel
theorem dX9_layMud_198 : decode cX9_layMud 198 = .ok (.iload_n 3, 1) := by decide +kernel
theorem dX9_layMud_199 : decode cX9_layMud 199 = .ok (.ifCond .ne 8, 3) := by decide +kernel
theorem dX9_layMud_202 : decode cX9_layMud 202 = .ok (.iload 4, 2) := by decide +kernel
theorem dX9_layMud_204 : decode cX9_layMud 204 = .ok (.ifCond .eq 25, 3) := by decide +kernel
theorem dX9_layMud_207 : decode cX9_layMud 207 = .ok (.aload_n 0, 1) := by decide +kernel
theorem dX9_layMud_208 : decode cX9_layMud 208 = .ok (.getfield 46, 3) := by decide +kernel
theorem dX9_layMud_211 : decode cX9_layMud 211 = .ok (.iload_n 2, 1) := by decide +kernel
theorem dX9_layMud_212 : decode cX9_layMud 212 = .ok (.iload_n 3, 1) := by decide +kernel
theorem dX9_layMud_213 : decode cX9_layMud 213 = .ok (.ifCond .eq 7, 3) := by decide +kernel
theorem dX9_layMud_216 : decode cX9_layMud 216 = .ok (.iconst 1, 1) := by decide +kernel
theorem dX9_layMud_217 : decode cX9_layMud 217 = .ok (.goto 4, 3) := by decide +kernel
theorem dX9_layMud_220 : decode cX9_layMud 220 = .ok (.iconst 0, 1) := by decide +kernel
theorem dX9_layMud_221 : decode cX9_layMud 221 = .ok (.iastore, 1) := by decide +kernel
theorem dX9_layMud_222 : decode cX9_layMud 222 = .ok (.aload_n 0, 1) := by decide +kernel
theorem dX9_layMud_223 : decode cX9_layMud 223 = .ok (.getfield 49, 3) := by decide +kernel
theorem dX9_layMud_226 : decode cX9_layMud 226 = .ok (.iload_n 2, 1) := by decide +kernel
theorem dX9_layMud_227 : decode cX9_layMud 227 = .ok (.iload_n 1, 1) := by decide +kernel
theorem dX9_layMud_228 : decode cX9_layMud 228 = .ok (.iastore, 1) := by decide +kernel
theorem dX9_layMud_229 : decode cX9_layMud 229 = .ok (.iinc 2 1, 3) := by decide +kernel
theorem dX9_layMud_232 : decode cX9_layMud 232 = .ok (.goto (-181), 3) := by decide +kernel
theorem dX9_layMud_235 : decode cX9_layMud 235 = .ok (.iinc 1 1, 3) := by decide +kernel
theorem dX9_layMud_238 : decode cX9_layMud 238 = .ok (.goto (-195), 3) := by decide +kernel
theorem dX9_layMud_241 : decode cX9_layMud 241 = .ok (.return_, 1) := by decide +kernel
theorem dX9_play_0 : decode cX9_play 0 = .ok (.iload_n 1, 1) := by decide +kernel
theorem dX9_play_1 : decode cX9_play 1 = .ok (.iconst 0, 1) := by decide +kernel
theorem dX9_play_2 : decode cX9_play 2 = .ok (.bipush 9, 2) := by decide +kernel
theorem dX9_play_4 : decode cX9_play 4 = .ok (.invokestatic 63, 3) := by decide +kernel
theorem dX9_play_7 : decode cX9_play 7 = .ok (.ifCond .ne 5, 3) := by decide +kernel
theorem dX9_play_10 : decode cX9_play 10 = .ok (.iconst (-1), 1) := by decide +kernel
theorem dX9_play_11 : decode cX9_play 11 = .ok (.ireturn, 1) := by decide +kernel
theorem dX9_play_12 : decode cX9_play 12 = .ok (.iload_n 2, 1) := by decide +kernel
theorem dX9_play_13 : decode cX9_play 13 = .ok (.iconst 0, 1) := by decide +kernel
theorem dX9_play_14 : decode cX9_play 14 = .ok (.iconst 2, 1) := by decide +kernel
theorem dX9_play_15 : decode cX9_play 15 = .ok (.invokestatic 63, 3) := by decide +kernel
theorem dX9_play_18 : decode cX9_play 18 = .ok (.ifCond .ne 6, 3) := by decide +kernel
theorem dX9_play_21 : decode cX9_play 21 = .ok (.bipush (-2), 2) := by decide +kernel
theorem dX9_play_23 : decode cX9_play 23 = .ok (.ireturn, 1) := by decide +kernel
theorem dX9_play_24 : decode cX9_play 24 = .ok (.aload_n 0, 1) := by decide +kernel
theorem dX9_play_25 : decode cX9_play 25 = .ok (.invokevirtual 147, 3) := by decide +kernel
theorem dX9_play_28 : decode cX9_play 28 = .ok (.iload_n 2, 1) := by decide +kernel
theorem dX9_play_29 : decode cX9_play 29 = .ok (.ifCond .ne 10, 3) := by decide +kernel
theorem dX9_play_32 : decode cX9_play 32 = .ok (.aload_n 0, 1) := by decide +kernel
theorem dX9_play_33 : decode cX9_play 33 = .ok (.getfield 46, 3) := by decide +kernel
theorem dX9_play_36 : decode cX9_play 36 = .ok (.iload_n 1, 1) := by decide +kernel
theorem dX9_play_37 : decode cX9_play 37 = .ok (.iaload, 1) := by decide +kernel
theorem dX9_play_38 : decode cX9_play 38 = .ok (.ireturn, 1) := by decide +kernel
theorem dX9_play_39 : decode cX9_play 39 = .ok (.iload_n 2, 1) := by decide +kernel
theorem dX9_play_40 : decode cX9_play 40 = .ok (.iconst 1, 1) := by decide +kernel
theorem dX9_play_41 : decode cX9_play 41 = .ok (.if_icmp .ne 25, 3) := by decide +kernel
theorem dX9_play_44 : decode cX9_play 44 = .ok (.aload_n 0, 1) := by decide +kernel
theorem dX9_play_45 : decode cX9_play 45 = .ok (.getfield 46, 3) := by decide +kernel
theorem dX9_play_48 : decode cX9_play 48 = .ok (.iload_n 1, 1) := by decide +kernel
theorem dX9_play_49 : decode cX9_play 49 = .ok (.iaload, 1) := by decide +kernel
theorem dX9_play_50 : decode cX9_play 50 = .ok (.iconst 2, 1) := by decide +kernel
theorem dX9_play_51 : decode cX9_play 51 = .ok (.if_icmp .ne 8, 3) := by decide +kernel
theorem dX9_play_54 : decode cX9_play 54 = .ok (.bipush (-6), 2) := by decide +kernel
theorem dX9_play_56 : decode cX9_play 56 = .ok (.goto 9, 3) := by decide +kernel
theorem dX9_play_59 : decode cX9_play 59 = .ok (.aload_n 0, 1) := by decide +kernel
theorem dX9_play_60 : decode cX9_play 60 = .ok (.getfield 49, 3) := by decide +kernel
theorem dX9_play_63 : decode cX9_play 63 = .ok (.iload_n 1, 1) := by decide +kernel
theorem dX9_play_64 : decode cX9_play 64 = .ok (.iaload, 1) := by decide +kernel
theorem dX9_play_65 : decode cX9_play 65 = .ok (.ireturn, 1) := by decide +kernel
theorem dX9_play_66 : decode cX9_play 66 = .ok (.bipush (-6), 2) := by decide +kernel
theorem dX9_play_68 : decode cX9_play 68 = .ok (.istore_n 3, 1) := by decide +kernel
theorem dX9_play_69 : decode cX9_play 69 = .ok (.bipush 9, 2) := by decide +kernel
theorem dX9_play_71 : decode cX9_play 71 = .ok (.istore 4, 2) := by decide +kernel
theorem dX9_play_73 : decode cX9_play 73 = .ok (.iload 4, 2) := by decide +kernel
theorem dX9_play_75 : decode cX9_play 75 = .ok (.ifCond .lt 68, 3) := by decide +kernel
theorem dX9_play_78 : decode cX9_play 78 = .ok (.aload_n 0, 1) := by decide +kernel
theorem dX9_play_79 : decode cX9_play 79 = .ok (.getfield 46, 3) := by decide +kernel
theorem dX9_play_82 : decode cX9_play 82 = .ok (.iload_n 1, 1) := by decide +kernel
theorem dX9_play_83 : decode cX9_play 83 = .ok (.iaload, 1) := by decide +kernel
theorem dX9_play_84 : decode cX9_play 84 = .ok (.iconst 1, 1) := by decide +kernel
theorem dX9_play_85 : decode cX9_play 85 = .ok (.if_icmp .ne 50, 3) := by decide +kernel
theorem dX9_play_88 : decode cX9_play 88 = .ok (.aload_n 0, 1) := by decide +kernel
theorem dX9_play_89 : decode cX9_play 89 = .ok (.getfield 28, 3) := by decide +kernel
theorem dX9_play_92 : decode cX9_play 92 = .ok (.iload_n 1, 1) := by decide +kernel
theorem dX9_play_93 : decode cX9_play 93 = .ok (.iaload, 1) := by decide +kernel
theorem dX9_play_94 : decode cX9_play 94 = .ok (.iload 4, 2) := by decide +kernel
theorem dX9_play_96 : decode cX9_play 96 = .ok (.invokestatic 67, 3) := by decide +kernel
theorem dX9_play_99 : decode cX9_play 99 = .ok (.ifCond .eq 36, 3) := by decide +kernel
theorem dX9_play_102 : decode cX9_play 102 = .ok (.aload_n 0, 1) := by decide +kernel
theorem dX9_play_103 : decode cX9_play 103 = .ok (.getfield 46, 3) := by decide +kernel
theorem dX9_play_106 : decode cX9_play 106 = .ok (.iload 4, 2) := by decide +kernel
theorem dX9_play_108 : decode cX9_play 108 = .ok (.iaload, 1) := by decide +kernel
theorem dX9_play_109 : decode cX9_play 109 = .ok (.ifCond .ne 26, 3) := by decide +kernel
theorem dX9_play_112 : decode cX9_play 112 = .ok (.aload_n 0, 1) := by decide +kernel
theorem dX9_play_113 : decode cX9_play 113 = .ok (.getfield 49, 3) := by decide +kernel
theorem dX9_play_116 : decode cX9_play 116 = .ok (.iload 4, 2) := by decide +kernel
theorem dX9_play_118 : decode cX9_play 118 = .ok (.iaload, 1) := by decide +kernel
theorem dX9_play_119 : decode cX9_play 119 = .ok (.aload_n 0, 1) := by decide +kernel
theorem dX9_play_120 : decode cX9_play 120 = .ok (.getfield 49, 3) := by decide +kernel
theorem dX9_play_123 : decode cX9_play 123 = .ok (.iload_n 1, 1) := by decide +kernel
theorem dX9_play_124 : decode cX9_play 124 = .ok (.iaload, 1) := by decide +kernel
theorem dX9_play_125 : decode cX9_play 125 = .ok (.iconst 1, 1) := by decide +kernel
theorem dX9_play_126 : decode cX9_play 126 = .ok (.isub, 1) := by decide +kernel
theorem dX9_play_127 : decode cX9_play 127 = .ok (.if_icmp .ne 8, 3) := by decide +kernel
theorem dX9_play_130 : decode cX9_play 130 = .ok (.iload 4, 2) := by decide +kernel
theorem dX9_play_132 : decode cX9_play 132 = .ok (.goto 4, 3) := by decide +kernel
theorem dX9_play_135 : decode cX9_play 135 = .ok (.iload_n 3, 1) := by decide +kernel
theorem dX9_play_136 : decode cX9_play 136 = .ok (.istore_n 3, 1) := by decide +kernel
theorem dX9_play_137 : decode cX9_play 137 = .ok (.iinc 4 (-1), 3) := by decide +kernel
theorem dX9_play_140 : decode cX9_play 140 = .ok (.goto (-67), 3) := by decide +kernel
theorem dX9_play_143 : decode cX9_play 143 = .ok (.iload_n 3, 1) := by decide +kernel
theorem dX9_play_144 : decode cX9_play 144 = .ok (.ireturn, 1) := by decide +kernel
theorem dX9_themselves_0 : decode cX9_themselves 0 = .ok (.iload_n 1, 1) := by decide +kernel
theorem dX9_themselves_1 : decode cX9_themselves 1 = .ok (.iconst 0, 1) := by decide +kernel
theorem dX9_themselves_2 : decode cX9_themselves 2 = .ok (.bipush 17, 2) := by decide +kernel
theorem dX9_themselves_4 : decode cX9_themselves 4 = .ok (.invokestatic 63, 3) := by decide +kernel
theorem dX9_themselves_7 : decode cX9_themselves 7 = .ok (.ifCond .eq 32, 3) := by decide +kernel
theorem dX9_themselves_10 : decode cX9_themselves 10 = .ok (.iload_n 2, 1) := by decide +kernel
theorem dX9_themselves_11 : decode cX9_themselves 11 = .ok (.iconst 0, 1) := by decide +kernel
theorem dX9_themselves_12 : decode cX9_themselves 12 = .ok (.bipush 10, 2) := by decide +kernel
theorem dX9_themselves_14 : decode cX9_themselves 14 = .ok (.invokestatic 63, 3) := by decide +kernel
theorem dX9_themselves_17 : decode cX9_themselves 17 = .ok (.ifCond .eq 22, 3) := by decide +kernel
theorem dX9_themselves_20 : decode cX9_themselves 20 = .ok (.iload_n 3, 1) := by decide +kernel
theorem dX9_themselves_21 : decode cX9_themselves 21 = .ok (.iconst 0, 1) := by decide +kernel
theorem dX9_themselves_22 : decode cX9_themselves 22 = .ok (.iload_n 1, 1) := by decide +kernel
theorem dX9_themselves_23 : decode cX9_themselves 23 = .ok (.invokestatic 63, 3) := by decide +kernel
theorem dX9_themselves_26 : decode cX9_themselves 26 = .ok (.ifCond .eq 13, 3) := by decide +kernel
theorem dX9_themselves_29 : decode cX9_themselves 29 = .ok (.iload 4, 2) := by decide +kernel
theorem dX9_themselves_31 : decode cX9_themselves 31 = .ok (.iconst 0, 1) := by decide +kernel
theorem dX9_themselves_32 : decode cX9_themselves 32 = .ok (.iconst 1, 1) := by decide +kernel
theorem dX9_themselves_33 : decode cX9_themselves 33 = .ok (.invokestatic 63, 3) := by decide +kernel
theorem dX9_themselves_36 : decode cX9_themselves 36 = .ok (.ifCond .ne 7, 3) := by decide +kernel
theorem dX9_themselves_39 : decode cX9_themselves 39 = .ok (.ldc2_w 150, 3) := by decide +kernel
theorem dX9_themselves_42 : decode cX9_themselves 42 = .ok (.lreturn, 1) := by decide +kernel
theorem dX9_themselves_43 : decode cX9_themselves 43 = .ok (.lconst 1, 1) := by decide +kernel
theorem dX9_themselves_44 : decode cX9_themselves 44 = .ok (.lstore 5, 2) := by decide +kernel
theorem dX9_themselves_46 : decode cX9_themselves 46 = .ok (.iconst 0, 1) := by decide +kernel
theorem dX9_themselves_47 : decode cX9_themselves 47 = .ok (.istore 7, 2) := by decide +kernel
theorem dX9_themselves_49 : decode cX9_themselves 49 = .ok (.iload 7, 2) := by decide +kernel
theorem dX9_themselves_51 : decode cX9_themselves 51 = .ok (.bipush 19, 2) := by decide +kernel
theorem dX9_themselves_53 : decode cX9_themselves 53 = .ok (.if_icmp .ge 26, 3) := by decide +kernel
theorem dX9_themselves_56 : decode cX9_themselves 56 = .ok (.aload_n 0, 1) := by decide +kernel
theorem dX9_themselves_57 : decode cX9_themselves 57 = .ok (.getfield 52, 3) := by decide +kernel
theorem dX9_themselves_60 : decode cX9_themselves 60 = .ok (.iload 7, 2) := by decide +kernel
theorem dX9_themselves_62 : decode cX9_themselves 62 = .ok (.iload 7, 2) := by decide +kernel
theorem dX9_themselves_64 : decode cX9_themselves 64 = .ok (.ifCond .ne 7, 3) := by decide +kernel
theorem dX9_themselves_67 : decode cX9_themselves 67 = .ok (.lconst 1, 1) := by decide +kernel
theorem dX9_themselves_68 : decode cX9_themselves 68 = .ok (.goto 4, 3) := by decide +kernel
theorem dX9_themselves_71 : decode cX9_themselves 71 = .ok (.lconst 0, 1) := by decide +kernel
theorem dX9_themselves_72 : decode cX9_themselves 72 = .ok (.lastore, 1) := by decide +kernel
theorem dX9_themselves_73 : decode cX9_themselves 73 = .ok (.iinc 7 1, 3) := by decide +kernel
theorem dX9_themselves_76 : decode cX9_themselves 76 = .ok (.goto (-27), 3) := by decide +kernel
theorem dX9_themselves_79 : decode cX9_themselves 79 = .ok (.iconst 0, 1) := by decide +kernel
theorem dX9_themselves_80 : decode cX9_themselves 80 = .ok (.istore 7, 2) := by decide +kernel
theorem dX9_themselves_82 : decode cX9_themselves 82 = .ok (.iload 7, 2) := by decide +kernel
theorem dX9_themselves_84 : decode cX9_themselves 84 = .ok (.iload_n 1, 1) := by decide +kernel
theorem dX9_themselves_85 : decode cX9_themselves 85 = .ok (.if_icmp .ge 74, 3) := by decide +kernel
theorem dX9_themselves_88 : decode cX9_themselves 88 = .ok (.lload 5, 2) := by decide +kernel
theorem dX9_themselves_90 : decode cX9_themselves 90 = .ok (.ldc2_w 152, 3) := by decide +kernel
theorem dX9_themselves_93 : decode cX9_themselves 93 = .ok (.lmul, 1) := by decide +kernel
theorem dX9_themselves_94 : decode cX9_themselves 94 = .ok (.lstore 5, 2) := by decide +kernel
theorem dX9_themselves_96 : decode cX9_themselves 96 = .ok (.bipush 18, 2) := by decide +kernel
theorem dX9_themselves_98 : decode cX9_themselves 98 = .ok (.istore 8, 2) := by decide +kernel
theorem dX9_themselves_100 : decode cX9_themselves 100 = .ok (.iload 8, 2) := by decide +kernel
theorem dX9_themselves_102 : decode cX9_themselves 102 = .ok (.ifCond .lt 51, 3) := by decide +kernel
theorem dX9_themselves_105 : decode cX9_themselves 105 = .ok (.aload_n 0, 1) := by decide +kernel
theorem dX9_themselves_106 : decode cX9_themselves 106 = .ok (.getfield 52, 3) := by decide +kernel
theorem dX9_themselves_109 : decode cX9_themselves 109 = .ok (.iload 8, 2) := by decide +kernel
theorem dX9_themselves_111 : decode cX9_themselves 111 = .ok (.aload_n 0, 1) := by decide +kernel
theorem dX9_themselves_112 : decode cX9_themselves 112 = .ok (.getfield 52, 3) := by decide +kernel
theorem dX9_themselves_115 : decode cX9_themselves 115 = .ok (.iload 8, 2) := by decide +kernel
theorem dX9_themselves_117 : decode cX9_themselves 117 = .ok (.laload, 1) := by decide +kernel
theorem dX9_themselves_118 : decode cX9_themselves 118 = .ok (.bipush 10, 2) := by decide +kernel
theorem dX9_themselves_120 : decode cX9_themselves 120 = .ok (.iload_n 2, 1) := by decide +kernel
theorem dX9_themselves_121 : decode cX9_themselves 121 = .ok (.isub, 1) := by decide +kernel
theorem dX9_themselves_122 : decode cX9_themselves 122 = .ok (.i2l, 1) := by decide +kernel
theorem dX9_themselves_123 : decode cX9_themselves 123 = .ok (.lmul, 1) := by decide +kernel
theorem dX9_themselves_124 : decode cX9_themselves 124 = .ok (.iload 8, 2) := by decide +kernel
theorem dX9_themselves_126 : decode cX9_themselves 126 = .ok (.ifCond .le 18, 3) := by decide +kernel
theorem dX9_themselves_129 : decode cX9_themselves 129 = .ok (.aload_n 0, 1) := by decide +kernel
theorem dX9_themselves_130 : decode cX9_themselves 130 = .ok (.getfield 52, 3) := by decide +kernel
theorem dX9_themselves_133 : decode cX9_themselves 133 = .ok (.iload 8, 2) := by decide +kernel
theorem dX9_themselves_135 : decode cX9_themselves 135 = .ok (.iconst 1, 1) := by decide +kernel
theorem dX9_themselves_136 : decode cX9_themselves 136 = .ok (.isub, 1) := by decide +kernel
theorem dX9_themselves_137 : decode cX9_themselves 137 = .ok (.laload, 1) := by decide +kernel
theorem dX9_themselves_138 : decode cX9_themselves 138 = .ok (.iload_n 2, 1) := by decide +kernel
theorem dX9_themselves_139 : decode cX9_themselves 139 = .ok (.i2l, 1) := by decide +kernel
theorem dX9_themselves_140 : decode cX9_themselves 140 = .ok (.lmul, 1) := by decide +kernel
theorem dX9_themselves_141 : decode cX9_themselves 141 = .ok (.goto 4, 3) := by decide +kernel
theorem dX9_themselves_144 : decode cX9_themselves 144 = .ok (.lconst 0, 1) := by decide +kernel
theorem dX9_themselves_145 : decode cX9_themselves 145 = .ok (.ladd, 1) := by decide +kernel
theorem dX9_themselves_146 : decode cX9_themselves 146 = .ok (.lastore, 1) := by decide +kernel
theorem dX9_themselves_147 : decode cX9_themselves 147 = .ok (.iinc 8 (-1), 3) := by decide +kernel
theorem dX9_themselves_150 : decode cX9_themselves 150 = .ok (.goto (-50), 3) := by decide +kernel
theorem dX9_themselves_153 : decode cX9_themselves 153 = .ok (.iinc 7 1, 3) := by decide +kernel
theorem dX9_themselves_156 : decode cX9_themselves 156 = .ok (.goto (-74), 3) := by decide +kernel
theorem dX9_themselves_159 : decode cX9_themselves 159 = .ok (.aload_n 0, 1) := by decide +kernel
theorem dX9_themselves_160 : decode cX9_themselves 160 = .ok (.getfield 52, 3) := by decide +kernel
theorem dX9_themselves_163 : decode cX9_themselves 163 = .ok (.iload_n 3, 1) := by decide +kernel
theorem dX9_themselves_164 : decode cX9_themselves 164 = .ok (.laload, 1) := by decide +kernel
theorem dX9_themselves_165 : decode cX9_themselves 165 = .ok (.lstore 7, 2) := by decide +kernel
theorem dX9_themselves_167 : decode cX9_themselves 167 = .ok (.lload 5, 2) := by decide +kernel
theorem dX9_themselves_169 : decode cX9_themselves 169 = .ok (.lstore 9, 2) := by decide +kernel
theorem dX9_themselves_171 : decode cX9_themselves 171 = .ok (.lload 9, 2) := by decide +kernel
theorem dX9_themselves_173 : decode cX9_themselves 173 = .ok (.lconst 0, 1) := by decide +kernel
theorem dX9_themselves_174 : decode cX9_themselves 174 = .ok (.lcmp, 1) := by decide +kernel
theorem dX9_themselves_175 : decode cX9_themselves 175 = .ok (.ifCond .eq 21, 3) := by decide +kernel
theorem dX9_themselves_178 : decode cX9_themselves 178 = .ok (.lload 7, 2) := by decide +kernel
theorem dX9_themselves_180 : decode cX9_themselves 180 = .ok (.lload 9, 2) := by decide +kernel
theorem dX9_themselves_182 : decode cX9_themselves 182 = .ok (.lrem, 1) := by decide +kernel
theorem dX9_themselves_183 : decode cX9_themselves 183 = .ok (.lstore 11, 2) := by decide +kernel
theorem dX9_themselves_185 : decode cX9_themselves 185 = .ok (.lload 9, 2) := by decide +kernel
theorem dX9_themselves_187 : decode cX9_themselves 187 = .ok (.lstore 7, 2) := by decide +kernel
theorem dX9_themselves_189 : decode cX9_themselves 189 = .ok (.lload 11, 2) := by decide +kernel
theorem dX9_themselves_191 : decode cX9_themselves 191 = .ok (.lstore 9, 2) := by decide +kernel
theorem dX9_themselves_193 : decode cX9_themselves 193 = .ok (.goto (-22), 3) := by decide +kernel
theorem dX9_themselves_196 : decode cX9_themselves 196 = .ok (.iload 4, 2) := by decide +kernel
theorem dX9_themselves_198 : decode cX9_themselves 198 = .ok (.ifCond .ne 15, 3) := by decide +kernel
theorem dX9_themselves_201 : decode cX9_themselves 201 = .ok (.aload_n 0, 1) := by decide +kernel
theorem dX9_themselves_202 : decode cX9_themselves 202 = .ok (.getfield 52, 3) := by decide +kernel
theorem dX9_themselves_205 : decode cX9_themselves 205 = .ok (.iload_n 3, 1) := by decide +kernel
